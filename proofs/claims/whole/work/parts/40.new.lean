/-! ===== what makes a new one ===== -/
theorem tt_N0I {T : tt_T} {j k : Nat} {vi : Nat → Int32} {vr : Nat → Nat} : ti (tt_N0 T j vi vr) j k (tl T j).length = vi k := if_pos ⟨rfl, rfl⟩
theorem tt_N0R {T : tt_T} {j k : Nat} {vi : Nat → Int32} {vr : Nat → Nat} : tr (tt_N0 T j vi vr) j k (tl T j).length = vr k := if_pos ⟨rfl, rfl⟩
theorem tt_N0i {T : tt_T} {j k : Nat} {vi : Nat → Int32} {vr : Nat → Nat} {v : Int32} (e : v = vi k) : v = ti (tt_N0 T j vi vr) j k (tl T j).length := e.trans (tt_N0I (vr := vr)).symm
theorem tt_vlt {T : tt_T} {j i : Nat} (hj : j < 3) (h : tt_v T j i) : i < (tl T j).length := by
  rcases h with ⟨rfl, h⟩ | ⟨rfl, h⟩ | ⟨rfl, h⟩ | ⟨rfl, h⟩ | ⟨rfl, h⟩ | ⟨rfl, h⟩
  · exact h
  · exact h
  · exact h
  · omega
  · omega
  · omega
theorem tt_vN {T : tt_T} {j : Nat} (hj : j < 3) {vi : Nat → Int32} {vr : Nat → Nat} {f i : Nat} : tt_v (tt_N T j vi vr) f i ↔ tt_v T f i ∨ (f = j ∧ i = (tl T j).length) := by
  have e : tl (tt_N T j vi vr) j = tl T j ++ [(tl T j).length] := if_pos rfl
  have el : (tl (tt_N T j vi vr) j).length = (tl T j).length + 1 := by rw [e, List.length_append]; rfl
  have en : ∀ n, n ≠ j → tl (tt_N T j vi vr) n = tl T n := fun n hn => if_neg hn
  unfold tt_v
  rcases (show j = 0 ∨ j = 1 ∨ j = 2 by omega) with rfl | rfl | rfl
  · rw [el, en 1 (by omega), en 2 (by omega)]
    omega
  · rw [el, en 0 (by omega), en 2 (by omega)]
    omega
  · rw [el, en 0 (by omega), en 1 (by omega)]
    omega
section TXC
variable {t0 m9 mc ms c : Nat} {S : qs_S} {G : Nat → Nat → Nat} {T : tt_T} {post : Int32 → qs_S → Prop} {px : String → qs_S → Prop} {V : Nat → Nat → Prop} {F : Nat → Nat → Nat → Prop}
theorem tx_W.fR (h : tx_W V F t0 S G T) {f i k : Nat} (v : V f i) (hF : F f i k) (hk : k < tt_n f) (hb : tt_b f k i = true) : qs_R S k (G f i) = tt_e G T f k i := by
  have z := (h.1 f i v).2.2 k hk hF
  rw [hb] at z
  exact z
theorem tx_W.size (h : tx_W V F t0 S G T) {j : Nat} (hj : V 4 j) (hp : post (nI (tl T j).length) S) : wp_Jx4a65c_size_8abf5 t0 m9 post S (G 4 j) := by
  obtain ⟨dd, d1, -⟩ := h.2.2.2.1
  exact pl_size (d1 j hj) (by rw [List.length_map]; exact hp)
theorem tx_R.W0 (h : tx_R t0 S G T) (hq : tt_q T) {j : Nat} (hj : j < 3) (vi : Nat → Int32) (vr : Nat → Nat) : tx_W (tt_v T) (fun f i _ => tt_v T f i) t0 S G (tt_N0 T j vi vr) := by
  have ne : ∀ f i, tt_v T f i → ¬ (f = j ∧ i = (tl T j).length) := by
    rintro f i v ⟨rfl, rfl⟩
    exact absurd (tt_vlt hj v) (Nat.lt_irrefl _)
  exact h.W hq (fun f k i v => if_neg (ne f i v)) (fun f k i v => if_neg (ne f i v)) (fun j => rfl)
theorem tt_nv {T : tt_T} {j : Nat} (hj : j < 3) : ¬ tt_v T j (tl T j).length := fun v => absurd (tt_vlt hj v) (Nat.lt_irrefl _)
/-- the new one's last step: its list has it -/
theorem tx_W.fin {j : Nat} (hj : j < 3) {vi : Nat → Int32} {vr : Nat → Nat} (h : tx_W V F t0 S G (tt_N0 T j vi vr)) (hV : ∀ f i, V f i ↔ (tt_v T f i ∨ (f = j ∧ i = (tl T j).length))) (hF : ∀ f i k, V f i → k < tt_n f → F f i k) (hn : (tl T j).length ≤ 400) {q : Nat} (eq : G j (tl T j).length = q) (hmc : 1 ≤ mc) (hms : 610 ≤ ms) (hp : ∀ S', tx_R t0 S' G (tt_N T j vi vr) → tx_K t0 S S' → post 1 S') : wp_Jx4a65c_add_9ea2d t0 m9 mc ms post S (G 4 j) q := by
  have hlc : tt_lc j = j := by
    rcases (show j = 0 ∨ j = 1 ∨ j = 2 by omega) with rfl | rfl | rfl <;> rfl
  have hv4 : V 4 j := (hV 4 j).mpr (Or.inl (tt_v4 (by omega)))
  have hvn : V (tt_lc j) (tl T j).length := by rw [hlc]; exact (hV _ _).mpr (Or.inr ⟨rfl, rfl⟩)
  have a := h.add (m9 := m9) (mc := mc) (ms := ms) (post := post) hv4 hvn hn hmc hms (fun S' r k => hp S' (r.R (fun f i => (tt_vN hj).trans (hV f i).symm) hF) k)
  rw [hlc, eq] at a
  exact a
theorem cq_berth (h : tx_R t0 S G T) (I : iv T c) (hmc : 100 ≤ mc) (hms : 10500 ≤ ms) {p l : Int32} (hp : tx_H post px t0 S (G 6 0) (tq_berth T p l)) : wp_X6_berth t0 m9 mc ms post px S (G 6 0) p l := by
  unfold tq_berth at hp
  have hl := I.n.1
  refine ⟨1, 6, ⟨by omega, by omega⟩, cx_req (Nat.le_refl _) (Nat.le_refl _) (fun z1 z2 => ?_) (fun z => ?_)⟩
  · rw [if_neg (fun r => r.elim z1 (fun r => r z2))] at hp
    refine ⟨fun y => ⟨⟨by omega, by omega⟩, ?_⟩, fun y1 => ⟨fun y => ⟨⟨by omega, by omega⟩, ?_⟩, fun y2 v8 e8 => ?_⟩⟩
    · rw [if_pos (Or.inl y)] at hp
      exact hp.e2
    · rw [if_pos (Or.inr (Or.inl y))] at hp
      exact hp.e2
    rw [e8]
    refine ⟨fun y3 => ⟨h.xL, _, h.xR (by decide), h.lL (by decide), h.size (by decide) ⟨fun y => ⟨⟨by omega, by omega⟩, ?_⟩, fun y4 v20 e20 => ⟨h.xL, ?_⟩⟩⟩, fun y => ⟨⟨by omega, by omega⟩, ?_⟩⟩
    · rw [if_neg (fun r => r.elim y1 (fun r => r.elim y2 (fun r => r y3))), if_pos (Or.inl ((nI_leI (a := 10) (by decide) (by omega)).mp y))] at hp
      exact hp.e3
    · rw [if_neg (fun r => r.elim y1 (fun r => r.elim y2 (fun r => r y3)))] at hp
      rw [e20]
      have hlt : ¬ 10 ≤ (tl T 0).length := fun z => y4 (nI_le (a := 10) z (by omega))
      refine cx_isTaken h I.g (fun z => ⟨fun y => absurd y (by decide), fun _ => ⟨⟨by omega, by omega⟩, ?_⟩⟩) (fun z => ⟨fun _ => ⟨h.xL, _, h.xR (by decide), ⟨by omega, by omega⟩, fun q hq hqt v38 e38 => ?_⟩, fun y => absurd rfl y⟩)
      · rw [if_pos (Or.inr (tt_isTk_iff.mpr z))] at hp
        exact hp.e3
      · rw [if_neg (fun r => r.elim hlt (fun r => by
          obtain ⟨i, hi, hi2⟩ := tt_isTk_iff.mp r
          exact z i hi hi2))] at hp
        rw [e38]
        have w0 := h.W0 I.q (j := 0) (by decide) (tt_sv p (p + l)) (fun _ => 0)
        obtain ⟨w1, k1⟩ := w0.new (f0 := 0) (i0 := (tl T 0).length) (tt_nv (by decide)) (fun _ => tt_nv (by decide)) (by decide) hq hqt
        have v1 : tt_v T 0 (tl T 0).length ∨ (0 = 0 ∧ (tl T 0).length = (tl T 0).length) := Or.inr ⟨rfl, rfl⟩
        have eq : tt_G G 0 (tl T 0).length q 0 (tl T 0).length = q := tt_Gs
        have a1 := w1.A v1
        obtain ⟨w2, k2⟩ := w1.setI (k0 := 2) (v := 0) v1 rfl (by decide) (tt_N0i rfl)
        obtain ⟨w3, k3⟩ := w2.setI (k0 := 0) (v := p) v1 rfl (by decide) (tt_N0i rfl)
        obtain ⟨w4, k4⟩ := w3.setI (k0 := 1) (v := p + l) v1 rfl (by decide) (tt_N0i rfl)
        rw [eq] at a1 k2 k3 k4 w4
        refine ⟨a1, w4.A (f := 4) (i := 0) (Or.inl (tt_v4 (by decide))), 1, 610, ⟨by omega, by omega⟩, w4.fin (by decide) (fun f i => Iff.rfl) (fun f i k v hk => ?_) (by omega) eq (Nat.le_refl _) (Nat.le_refl _) (fun S' r k => ⟨r.xL, _, r.xR (by decide), r.lL (by decide), r.size (by decide) (fun v57 e57 => ?_)⟩)⟩
        · rcases v with v | v
          · exact Or.inl (Or.inl (Or.inl v))
          · have hk' : k < 3 := by rw [v.1] at hk; exact hk
            rcases (show k = 2 ∨ k = 0 ∨ k = 1 by omega) with z | z | z
            · exact Or.inl (Or.inl (Or.inr ⟨v.1, v.2, z⟩))
            · exact Or.inl (Or.inr ⟨v.1, v.2, z⟩)
            · exact Or.inr ⟨v.1, v.2, z⟩
        · have en : tl (tt_N T 0 (tt_sv p (p + l)) (fun _ => 0)) 0 = tl T 0 ++ [(tl T 0).length] := rfl
          have e2 : v57 = nI (tl T 0).length := by
            rw [e57, en, List.length_append]
            exact pk_sub (a := (tl T 0).length + 1) (b := 1) (by omega)
          rw [e2]
          exact hp.ok r rfl ((((k1.tr k2).tr k3).tr k4).tr k)
    · rw [if_pos (Or.inr (Or.inr y))] at hp
      exact hp.e2
  · rw [if_pos z] at hp
    exact hp.e1
theorem cq_box (h : tx_R t0 S G T) (I : iv T c) (hmc : 100 ≤ mc) (hms : 10500 ≤ ms) {x p : Int32} (hp : tx_H post px t0 S (G 6 0) (tq_box T x p)) : wp_X6_box t0 m9 mc ms post px S (G 6 0) x p := by
  unfold tq_box at hp
  have hl := I.n.2.1
  have hl0 := I.n.1
  refine ⟨h.xL, 2, 12, ⟨by omega, by omega⟩, cx_shipNumbered h I.g (Nat.le_refl _) (Nat.le_refl _) (fun s hs e z => ⟨_, rfl, h.A (tt_v0 hs), h.rI (tt_v0 hs) ?_⟩) (fun z => ?_)⟩
  · rw [e, tt_ix_in hs (by omega)] at hp
    simp only at hp
    rw [if_neg (fun y => y z)] at hp
    refine ⟨fun y => ⟨⟨by omega, by omega⟩, ?_⟩, fun y1 => h.rI (tt_v0 hs) ⟨fun y2 => ⟨h.xL, _, h.xR (by decide), h.lL (by decide), h.size (by decide) ⟨fun y3 => ?_, fun y3 => ⟨⟨by omega, by omega⟩, ?_⟩⟩⟩, fun y2 => ⟨⟨by omega, by omega⟩, ?_⟩⟩⟩
    · rw [if_pos (Or.inl y)] at hp
      exact hp.e2
    · have hlt : ¬ 24 ≤ (tl T 1).length := by
        have := (nI_ltI (b := 24) (by omega) (by decide)).mp y3
        omega
      rw [if_neg (fun r => r.elim y1 (fun r => r y2)), if_neg hlt] at hp
      refine ⟨h.xL, _, h.xR (by decide), ⟨by omega, by omega⟩, fun q hq hqt => ?_⟩
      have w0 := h.W0 I.q (j := 1) (by decide) (tt_bv p) (fun _ => s + 1)
      obtain ⟨w1, k1⟩ := w0.new (f0 := 1) (i0 := (tl T 1).length) (tt_nv (by decide)) (fun _ => tt_nv (by decide)) (by decide) hq hqt
      have v1 : tt_v T 1 (tl T 1).length ∨ (1 = 1 ∧ (tl T 1).length = (tl T 1).length) := Or.inr ⟨rfl, rfl⟩
      have eq : tt_G G 1 (tl T 1).length q 1 (tl T 1).length = q := tt_Gs
      have a1 := w1.A v1
      obtain ⟨w2, k2⟩ := w1.setI (k0 := 2) (v := 0) v1 rfl (by decide) (tt_N0i rfl)
      obtain ⟨w3, k3⟩ := w2.setI (k0 := 4) (v := 0) v1 rfl (by decide) (tt_N0i rfl)
      obtain ⟨w4, k4⟩ := w3.setI (k0 := 5) (v := -1) v1 rfl (by decide) (tt_N0i rfl)
      obtain ⟨w5, k5⟩ := w4.setI (k0 := 6) (v := -1) v1 rfl (by decide) (tt_N0i rfl)
      obtain ⟨w6, k6⟩ := w5.setI (k0 := 7) (v := -1) v1 rfl (by decide) (tt_N0i rfl)
      obtain ⟨w7, k7⟩ := w6.setR (k0 := 0) (v := some (G 0 s)) v1 rfl (by decide) (by
        have e1 : tt_e (tt_G G 1 (tl T 1).length q) (tt_N0 T 1 (tt_bv p) (fun _ => s + 1)) 1 0 (tl T 1).length = tt_o (tt_G G 1 (tl T 1).length q 0) (tr (tt_N0 T 1 (tt_bv p) (fun _ => s + 1)) 1 0 (tl T 1).length) := rfl
        rw [e1, tt_N0R]
        rfl) (by
        intro x e2
        rw [tt_N0R] at e2
        have : s = x := Nat.succ.inj e2
        rw [← this]
        exact Or.inl (tt_v0 hs))
      obtain ⟨w8, k8⟩ := w7.setI (k0 := 1) (v := p) v1 rfl (by decide) (tt_N0i rfl)
      obtain ⟨w9, k9⟩ := w8.setI (k0 := 3) (v := p) v1 rfl (by decide) (tt_N0i rfl)
      rw [eq] at a1 k2 k3 k4 k5 k6 k7 k8 k9 w9
      refine ⟨a1, fun S3 e3 => ?_⟩
      rw [e3]
      refine ⟨w9.A (f := 4) (i := 1) (Or.inl (tt_v4 (by decide))), 1, 610, ⟨by omega, by omega⟩, w9.fin (by decide) (fun f i => Iff.rfl) (fun f i k v hk => ?_) (by omega) eq (Nat.le_refl _) (Nat.le_refl _) (fun S' r k => ⟨r.xL, _, r.xR (by decide), r.lL (by decide), r.size (by decide) (fun v57 e57 => ?_)⟩)⟩
      · rcases v with v | v
        · exact Or.inl (Or.inl (Or.inl (Or.inl (Or.inl (Or.inl (Or.inl (Or.inl v)))))))
        · have hk' : k < 8 := by rw [v.1] at hk; exact hk
          rcases (show k = 2 ∨ k = 4 ∨ k = 5 ∨ k = 6 ∨ k = 7 ∨ k = 0 ∨ k = 1 ∨ k = 3 by omega) with z | z | z | z | z | z | z | z
          · exact Or.inl (Or.inl (Or.inl (Or.inl (Or.inl (Or.inl (Or.inl (Or.inr ⟨v.1, v.2, z⟩)))))))
          · exact Or.inl (Or.inl (Or.inl (Or.inl (Or.inl (Or.inl (Or.inr ⟨v.1, v.2, z⟩))))))
          · exact Or.inl (Or.inl (Or.inl (Or.inl (Or.inl (Or.inr ⟨v.1, v.2, z⟩)))))
          · exact Or.inl (Or.inl (Or.inl (Or.inl (Or.inr ⟨v.1, v.2, z⟩))))
          · exact Or.inl (Or.inl (Or.inl (Or.inr ⟨v.1, v.2, z⟩)))
          · exact Or.inl (Or.inl (Or.inr ⟨v.1, v.2, z⟩))
          · exact Or.inl (Or.inr ⟨v.1, v.2, z⟩)
          · exact Or.inr ⟨v.1, v.2, z⟩
      · have en : tl (tt_N T 1 (tt_bv p) (fun _ => s + 1)) 1 = tl T 1 ++ [(tl T 1).length] := rfl
        have e2 : v57 = nI (tl T 1).length := by
          rw [e57, en, List.length_append]
          exact pk_sub (a := (tl T 1).length + 1) (b := 1) (by omega)
        rw [e2]
        exact hp.ok r rfl (((((((((k1.tr k2).tr k3).tr k4).tr k5).tr k6).tr k7).tr k8).tr k9).tr k)
    · have hge : 24 ≤ (tl T 1).length := by
        rcases Nat.lt_or_ge (tl T 1).length 24 with q | q
        · exact absurd (nI_lt (b := 24) q (by decide)) y3
        · exact q
      rw [if_neg (fun r => r.elim y1 (fun r => r y2)), if_pos hge] at hp
      exact hp.e3
    · rw [if_pos (Or.inr y2)] at hp
      exact hp.e2
  · cases hx : tt_ix x (tl T 0).length with
    | zero =>
      simp only [hx] at hp
      exact hp.e1
    | succ s =>
      simp only [hx] at hp
      obtain ⟨hs, e⟩ := tt_ix_eq (by omega) hx
      rw [if_pos (z s hs e)] at hp
      exact hp.e1
theorem cx_send79 (h : tx_R t0 S G T) (I : iv T c) {k t : Int32} {b r : Nat} (hb : b < (tl T 1).length) (hr : r < 8) {a n : Nat} (ha : a + 3 ≤ mc) (hn : n + 1300 ≤ ms) (h3 : 80 ≤ (tl T 2).length → px "java/lang/IllegalStateException" S) (h0 : ¬ 80 ≤ (tl T 2).length → ∀ S' G', tx_R t0 S' G' (tt_sd T k t b r) → G' 6 0 = G 6 0 → tx_K t0 S S' → post (nI (tl T 2).length) S') : wp_X6_send_b79 t0 m9 mc ms post px a n S (G 6 0) k t (G 1 b) (some (G 3 r)) := by
  have hl := I.n.2.2
  refine ⟨fun e => absurd e (by intro z; cases z), fun q3 e3 => ?_⟩
  have e3' : G 3 r = q3 := Option.some.inj e3
  subst e3'
  refine ⟨h.xL, _, h.xR (by decide), h.lL (by decide), h.size (by decide) ⟨fun z => ⟨⟨by omega, by omega⟩, h3 ((nI_leI (a := 80) (by decide) (by omega)).mp z)⟩, fun z => ⟨⟨by omega, by omega⟩, fun q hq hqt => ?_⟩⟩⟩
  have hlt : ¬ 80 ≤ (tl T 2).length := fun y => z (nI_le (a := 80) y (by omega))
  have w0 := h.W0 I.q (j := 2) (by decide) (tt_mv (tl T 2).length k t) (fun _ => b + 1)
  obtain ⟨w1, k1⟩ := w0.new (f0 := 2) (i0 := (tl T 2).length) (tt_nv (by decide)) (fun _ => tt_nv (by decide)) (by decide) hq hqt
  have v1 : tt_v T 2 (tl T 2).length ∨ (2 = 2 ∧ (tl T 2).length = (tl T 2).length) := Or.inr ⟨rfl, rfl⟩
  have eq : tt_G G 2 (tl T 2).length q 2 (tl T 2).length = q := tt_Gs
  have a1 := w1.A v1
  have x6 : tt_v T 6 0 ∨ (6 = 2 ∧ 0 = (tl T 2).length) := Or.inl tt_v6
  have l2 : tt_v T 4 2 ∨ (4 = 2 ∧ 2 = (tl T 2).length) := Or.inl (tt_v4 (by decide))
  refine ⟨w1.A (f := 6) (i := 0) x6, _, w1.fR (f := 6) (i := 0) (k := 2) x6 tt_v6 (by decide) rfl, w1.A (f := 4) (i := 2) l2, w1.size (j := 2) l2 ?_⟩
  obtain ⟨w2, k2⟩ := w1.setI (k0 := 4) (v := 0) v1 rfl (by decide) (tt_N0i rfl)
  obtain ⟨w3, k3⟩ := w2.setI (k0 := 5) (v := -1) v1 rfl (by decide) (tt_N0i rfl)
  obtain ⟨w4, k4⟩ := w3.setI (k0 := 6) (v := 0) v1 rfl (by decide) (tt_N0i rfl)
  obtain ⟨w5, k5⟩ := w4.setI (k0 := 0) (v := nI (tl T 2).length) v1 rfl (by decide) (tt_N0i rfl)
  obtain ⟨w6, k6⟩ := w5.setI (k0 := 1) (v := k) v1 rfl (by decide) (tt_N0i rfl)
  obtain ⟨w7, k7⟩ := w6.setR (k0 := 2) (v := some (G 1 b)) v1 rfl (by decide) (by
    have e1 : tt_e (tt_G G 2 (tl T 2).length q) (tt_N0 T 2 (tt_mv (tl T 2).length k t) (fun _ => b + 1)) 2 2 (tl T 2).length = tt_o (tt_G G 2 (tl T 2).length q 1) (tr (tt_N0 T 2 (tt_mv (tl T 2).length k t) (fun _ => b + 1)) 2 2 (tl T 2).length) := rfl
    rw [e1, tt_N0R]
    rfl) (by
    intro x e2
    rw [tt_N0R] at e2
    have : b = x := Nat.succ.inj e2
    rw [← this]
    exact Or.inl (tt_v1 hb))
  obtain ⟨w8, k8⟩ := w7.setI (k0 := 3) (v := t) v1 rfl (by decide) (tt_N0i rfl)
  rw [eq] at a1 k2 k3 k4 k5 k6 k7 k8 w8
  refine ⟨a1, fun S3 e3 => ?_⟩
  rw [e3]
  have F6 : ∀ f i k, (tt_v T f i ∨ (f = 2 ∧ i = (tl T 2).length)) → k < tt_n f → ((((((((tt_v T f i ∨ (f = 2 ∧ i = (tl T 2).length ∧ k = 4)) ∨ (f = 2 ∧ i = (tl T 2).length ∧ k = 5)) ∨ (f = 2 ∧ i = (tl T 2).length ∧ k = 6)) ∨ (f = 2 ∧ i = (tl T 2).length ∧ k = 0)) ∨ (f = 2 ∧ i = (tl T 2).length ∧ k = 1)) ∨ (f = 2 ∧ i = (tl T 2).length ∧ k = 2)) ∨ (f = 2 ∧ i = (tl T 2).length ∧ k = 3))) := by
    intro f i k v hk
    rcases v with v | v
    · exact Or.inl (Or.inl (Or.inl (Or.inl (Or.inl (Or.inl (Or.inl v))))))
    · have hk' : k < 7 := by rw [v.1] at hk; exact hk
      obtain ⟨v1, v2⟩ := v
      rcases (show k = 4 ∨ k = 5 ∨ k = 6 ∨ k = 0 ∨ k = 1 ∨ k = 2 ∨ k = 3 by omega) with z | z | z | z | z | z | z
      · exact Or.inl (Or.inl (Or.inl (Or.inl (Or.inl (Or.inl (Or.inr ⟨v1, v2, z⟩))))))
      · exact Or.inl (Or.inl (Or.inl (Or.inl (Or.inl (Or.inr ⟨v1, v2, z⟩)))))
      · exact Or.inl (Or.inl (Or.inl (Or.inl (Or.inr ⟨v1, v2, z⟩))))
      · exact Or.inl (Or.inl (Or.inl (Or.inr ⟨v1, v2, z⟩)))
      · exact Or.inl (Or.inl (Or.inr ⟨v1, v2, z⟩))
      · exact Or.inl (Or.inr ⟨v1, v2, z⟩)
      · exact Or.inr ⟨v1, v2, z⟩
  refine ⟨w8.A (f := 6) (i := 0) x6, _, w8.fR (f := 6) (i := 0) (k := 2) x6 (F6 6 0 2 x6 (by decide)) (by decide) rfl, w8.A (f := 4) (i := 2) l2, 1, 610, ⟨by omega, by omega⟩, w8.fin (by decide) (fun f i => Iff.rfl) F6 (by omega) eq (Nat.le_refl _) (Nat.le_refl _) (fun S' r1 k9 => ?_)⟩
  have hvn : tt_v (tt_N T 2 (tt_mv (tl T 2).length k t) (fun _ => b + 1)) 2 (tl T 2).length := (tt_vN (by decide)).mpr (Or.inr ⟨rfl, rfl⟩)
  have el : tl (tt_N T 2 (tt_mv (tl T 2).length k t) (fun _ => b + 1)) (6 + r) = tl T (6 + r) := if_neg (by omega)
  have hlr := I.len (j := 6 + r) (Or.inr (by omega)) (by omega)
  have aw := r1.AW hr
  have e3r : tt_G G 2 (tl T 2).length q 3 r = G 3 r := tt_Gn (by omega)
  have wt := r1.wt hr
  rw [e3r] at aw wt
  refine ⟨aw, _, wt, r1.lL (by omega), 1, 610, ⟨by omega, by omega⟩, ?_⟩
  have ad := cx_addW (m9 := m9) (mc := 1) (ms := 610) (post := fun (v58 : Int32) (S57 : qs_S) => (q ∈ qs_L S57 ∧ qs_K S57 q = 3) ∧ (∀ v61 : Int32, v61 = qs_I S57 0 q → post v61 S57)) r1 hr hvn (by rw [el]; exact hlr) (Nat.le_refl _) (by rw [el]; omega) (fun S' r2 k10 => ?_)
  · rw [eq] at ad
    exact ad
  · rw [el] at r2
    have hv2 : tt_v (tt_sd T k t b r) 2 (tl T 2).length := (tt_vL (by omega)).mpr hvn
    have aq := r2.A (f := 2) (i := (tl T 2).length) hv2
    have rq := r2.rI (f := 2) (i := (tl T 2).length) (k := 0) hv2 (P := fun v => post v S') (by
      have e0 : ti (tt_sd T k t b r) 2 0 (tl T 2).length = nI (tl T 2).length := if_pos ⟨rfl, rfl⟩
      have := h0 hlt S' _ r2 rfl (((((((((k1.tr k2).tr k3).tr k4).tr k5).tr k6).tr k7).tr k8).tr k9).tr k10)
      exact e0 ▸ this)
    rw [eq] at aq rq
    exact ⟨aq, rq⟩
theorem cx_targetsOf {k : Int32} (hp : post (tt_to k) S) : wp_X6_targetsOf t0 m9 post S k := by
  unfold tt_to at hp
  refine ⟨fun z => ⟨fun y => ?_, fun y => ?_⟩, fun z => ?_⟩
  · rw [if_neg z, if_neg y] at hp
    exact hp
  · rw [if_neg z, if_pos y] at hp
    exact hp
  · rw [if_pos z] at hp
    exact hp
theorem cq_send (h : tx_R t0 S G T) (I : iv T c) (hmc : 100 ≤ mc) (hms : 10500 ≤ ms) {k x t w : Int32} (hp : tx_H post px t0 S (G 6 0) (tq_send T k x t w)) : wp_X6_send t0 m9 mc ms post px S (G 6 0) k x t w := by
  unfold tq_send at hp
  have hl := h.len (j := 1) (by decide)
  refine ⟨fun z => ⟨⟨by omega, by omega⟩, ?_⟩, fun z1 => ⟨fun z2 => ⟨h.xL, 1, 6, ⟨by omega, by omega⟩, cx_boxNumbered h I.g (Nat.le_refl _) (Nat.le_refl _) (fun b hb e => ⟨_, rfl, cx_targetsOf ⟨1, 6, ⟨by omega, by omega⟩, ?_⟩⟩) (fun z => ?_)⟩, fun z2 => ⟨⟨by omega, by omega⟩, ?_⟩⟩⟩
  · rw [if_pos (Or.inl z)] at hp
    exact hp.e2
  · rw [if_neg (fun r => r.elim z1 (fun r => r z2)), e, tt_ix_in hb (by omega)] at hp
    simp only at hp
    have main : (¬ (w ≠ -1 ∧ ¬ tt_isF k w)) → ¬ (t < 0 ∨ ¬ t < tt_to k) → wp_X6_send_b59 t0 m9 mc ms post px 2 12 S (G 6 0) k t w (G 1 b) := by
      intro hw ht
      rw [if_neg ht, if_neg hw] at hp
      have fin : ∀ (a n r : Nat), a ≤ 10 → n ≤ 60 → r < 8 → tt_rv T k w = r + 1 → wp_X6_send_b79 t0 m9 mc ms post px a n S (G 6 0) k t (G 1 b) (some (G 3 r)) := by
        intro a n r ha hn hr er
        simp only [er] at hp
        refine cx_send79 h I hb hr (by omega) (by omega) (fun y => ?_) (fun y S' G' r eg k => ?_)
        · rw [if_pos y] at hp
          exact hp.e3
        · rw [if_neg y] at hp
          exact hp.ok r eg k
      refine ⟨fun y => ⟨h.xL, 1, 6, ⟨by omega, by omega⟩, cx_workerNumbered h I.g (Nat.le_refl _) (Nat.le_refl _) (fun r hr er => ⟨_, rfl, fin _ _ r (by omega) (by omega) hr ?_⟩) (fun q => ?_)⟩, fun y => ⟨h.xL, 8, 48, ⟨by omega, by omega⟩, cx_leastBusyFor h I.g (Nat.le_refl _) (Nat.le_refl _) ?_⟩⟩
      · unfold tt_rv
        rw [if_neg y, er, tt_ix_in hr (by decide)]
      · exfalso
        have hF : tt_isF k w := Classical.byContradiction (fun r => hw ⟨y, r⟩)
        have h01 : ¬ w < 0 ∧ w < nI 8 := by
          rcases hF with hF | hF
          · refine ⟨hF.2.1, ?_⟩
            have h4 : w < 4 := Int32.not_le.mp hF.2.2
            have : w.toInt < 4 := by simpa using Int32.lt_iff_toInt_lt.mp h4
            exact Int32.lt_iff_toInt_lt.mpr (by show w.toInt < 8; omega)
          · refine ⟨fun r => hF.2.1 ?_, Int32.not_le.mp hF.2.2⟩
            have : w.toInt < 0 := by simpa using Int32.lt_iff_toInt_lt.mp r
            exact Int32.lt_iff_toInt_lt.mpr (by show w.toInt < 4; omega)
        obtain ⟨i, hi, ei⟩ := ps_sm (n := 8) (by decide) h01.1 h01.2
        exact q i hi ei
      · have er : tt_rv T k w = tt_bs T k 8 := if_pos y
        cases hbs : tt_bs T k 8 with
        | zero =>
          simp only [er, hbs] at hp
          refine ⟨fun _ => ⟨fun _ => ⟨h.xL, _, h.xR (by decide), h.lL (by decide), h.size (by decide) ⟨fun _ => ⟨⟨by omega, by omega⟩, hp.e3⟩, fun _ => ⟨⟨by omega, by omega⟩, hp.e3⟩⟩⟩, fun q e => absurd e (by intro z; cases z)⟩, fun q e => absurd e (by intro z; cases z)⟩
        | succ r =>
          refine ⟨fun e => absurd e (by intro z; cases z), fun q e => ?_⟩
          have eq : G 3 r = q := Option.some.inj e
          subst eq
          have := tt_bs_le (T := T) (k := k) 8
          exact fin _ _ r (by omega) (by omega) (by omega) (er.trans hbs)
    refine cx_req (Nat.le_refl _) (Nat.le_refl _) (fun y1 y2 => ⟨fun q => main (fun r => r.1 q) (fun r => r.elim y1 (fun r => r y2)), fun q => cx_isFor (fun d => ⟨fun _ => main (fun r => r.2 d) (fun r => r.elim y1 (fun r => r y2)), fun r => absurd r (by decide)⟩) (fun d => ⟨fun r => absurd rfl r, fun _ => ⟨⟨by omega, by omega⟩, ?_⟩⟩)⟩) (fun y => ?_)
    · rw [if_neg (fun r => r.elim y1 (fun r => r y2)), if_pos ⟨q, d⟩] at hp
      exact hp.e1
    · rw [if_pos y] at hp
      exact hp.e1
  · rw [if_neg (fun r => r.elim z1 (fun r => r z2)), tt_ix_out (by omega) z] at hp
    exact hp.e1
  · rw [if_pos (Or.inr z2)] at hp
    exact hp.e2
end TXC
