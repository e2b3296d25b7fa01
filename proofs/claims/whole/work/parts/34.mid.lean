/-! ===== the private methods that move things, by numbers ===== -/
def tt_h (T : tt_T) : Prop := (∀ w, w < 8 → ti T 3 0 w = nI w) ∧ (∀ i, i < (tl T 2).length → ti T 2 0 i = nI i) ∧ (∀ i, i < (tl T 2).length → ∃ b, b < (tl T 1).length ∧ tr T 2 2 i = b + 1) ∧ (∀ i, i < (tl T 1).length → ∃ s, s < (tl T 0).length ∧ tr T 1 0 i = s + 1)
theorem tt_vL {T : tt_T} {j : Nat} {l : List Nat} (hj : 3 ≤ j) {f i : Nat} : tt_v (tt_L T j l) f i ↔ tt_v T f i := by
  unfold tt_v
  have e : ∀ n, n < 3 → tl (tt_L T j l) n = tl T n := fun n hn => if_neg (by omega)
  rw [e 0 (by omega), e 1 (by omega), e 2 (by omega)]
theorem tt_lL {T : tt_T} {j : Nat} {l : List Nat} {n : Nat} (h : n ≠ j) : tl (tt_L T j l) n = tl T n := if_neg h
theorem tt_lS {T : tt_T} {j : Nat} {l : List Nat} : tl (tt_L T j l) j = l := if_pos rfl
theorem tt_gL {T : tt_T} {j : Nat} {l : List Nat} (hj : j = 3 ∨ 6 ≤ j) (h : tt_g T) : tt_g (tt_L T j l) := by
  refine ⟨fun i hi => ?_, ?_, ?_⟩
  · rw [tt_lL (by omega)]; exact h.1 i hi
  · rw [tt_lL (by omega)]; exact h.2.1
  · rw [tt_lL (by omega)]; exact h.2.2
theorem tt_hL {T : tt_T} {j : Nat} {l : List Nat} (hj : j = 3 ∨ 6 ≤ j) (h : tt_h T) : tt_h (tt_L T j l) := by
  unfold tt_h
  rw [tt_lL (n := 0) (by omega), tt_lL (n := 1) (by omega), tt_lL (n := 2) (by omega)]
  exact h
theorem ps_ne1 {j : Nat} (h : j < 2 ^ 31) : nI j ≠ -1 := by
  intro e
  have := nI_pos h
  rw [e] at this
  exact this (by decide)
theorem tt_lcw {w : Nat} : tt_lc (6 + w) = 2 := by
  unfold tt_lc
  rw [if_neg (by omega), if_neg (by omega), if_neg (by omega)]
theorem tt_lcr {w : Nat} : tt_lc (14 + w) = 2 := by
  unfold tt_lc
  rw [if_neg (by omega), if_neg (by omega), if_neg (by omega)]
/-- one message's move is noted -/
def tt_nm (T : tt_T) (m : Nat) : tt_T := tt_I (tt_I T 2 5 m (ti T 6 7 0)) 6 7 0 (ti T 6 7 0 + 1)
def tt_br (T : tt_T) (b : Nat) (x1 x2 : Int32) : tt_T := tt_I (tt_I T 1 2 b x1) 1 3 b x2
def tt_db (T : tt_T) (b : Nat) : tt_T := tt_I (tt_I T 1 6 b (-1)) 1 7 b (-1)
def tt_ca (T : tt_T) (wh sp : Int32) : Nat := tt_ct (tt_at T wh sp) (tl T 1).length
def tt_pd (T : tt_T) (m b : Nat) : tt_T := if ti T 2 1 m = 1 then tt_nm (tt_br (tt_I T 1 4 b (nI (tt_ca T 3 (ti T 2 3 m)))) b 3 (ti T 2 3 m)) m else tt_nm (tt_db (tt_br T b 4 (ti T 2 3 m)) b) m
def tt_ak (T : tt_T) (w m : Nat) : Int32 × tt_T :=
  if 0 < ti T 3 4 w then (5, tt_I T 3 4 w (ti T 3 4 w - 1))
  else if ti T 2 5 m ≠ -1 ∧ ti T 2 6 m = 0 then (4, tt_L (tt_I (tt_R (tt_L T (6 + w) ((tl T (6 + w)).erase m)) 3 6 w (m + 1)) 2 6 m 1) 3 (tl T 3 ++ [m]))
  else (4, tt_R (tt_L T (6 + w) ((tl T (6 + w)).erase m)) 3 6 w (m + 1))
abbrev tt_go (T : tt_T) (c : Nat) (p : Int32) : Prop := (c = 0 ∨ ti T 3 7 (c - 1) < p) ∧ (c = 3 ∨ p < ti T 3 7 (c + 1))
section TXN
variable {t0 m9 mc ms : Nat} {S : qs_S} {G : Nat → Nat → Nat} {T : tt_T}
theorem tx_R.bx (h : tx_R t0 S G T) {m b : Nat} (hm : tt_v T 2 m) (hb : tr T 2 2 m = b + 1) : qs_R S 2 (G 2 m) = some (G 1 b) := by
  have z := h.R (k := 2) hm (by decide) rfl
  have e : tt_e G T 2 2 m = tt_o (G 1) (tr T 2 2 m) := rfl
  rw [e, hb] at z
  exact z
theorem cx_noteMove (h : tx_R t0 S G T) {m : Nat} (hm : tt_v T 2 m) {post : qs_S → Prop} (hp : ∀ S', tx_R t0 S' G (tt_nm T m) → tx_K t0 S S' → post S') : wp_X6_noteMove t0 m9 post S (G 6 0) (G 2 m) := by
  refine ⟨h.xL, fun v3 e3 => ⟨⟨h.L hm, h.K hm⟩, fun v6 e6 v7 e7 => ?_⟩⟩
  have e3' : v3 = ti T 6 7 0 := e3.trans (h.I tt_v6 (by decide) rfl)
  obtain ⟨r1, k1⟩ := h.wI (k := 5) (v := v3) hm rfl (by decide)
  have e6' : v6 = ti T 6 7 0 := e6.trans (r1.I (f := 6) (i := 0) (k := 7) tt_v6 (by decide) rfl)
  obtain ⟨r2, k2⟩ := r1.wI (f := 6) (i := 0) (k := 7) (v := v7) tt_v6 rfl (by decide)
  have r3 : tx_R t0 (qs_wI (qs_wI S 5 (G 2 m) v3) 7 (G 6 0) v7) G (tt_nm T m) := by
    unfold tt_nm
    rw [← e3', ← (show v7 = v3 + 1 by rw [e7, e6', e3'])]
    exact r2
  exact hp _ r3 (k1.tr k2)
theorem cx_isNothingToDo (h : tx_R t0 S G T) {m b : Nat} (hm : tt_v T 2 m) (hb : tr T 2 2 m = b + 1) (hbv : tt_v T 1 b) {post : Int32 → qs_S → Prop} (h1 : ti T 1 2 b = 4 ∨ (ti T 2 1 m = 1 ∧ ti T 1 2 b = 3 ∧ ti T 1 3 b = ti T 2 3 m) → post 1 S) (h0 : ¬ (ti T 1 2 b = 4 ∨ (ti T 2 1 m = 1 ∧ ti T 1 2 b = 3 ∧ ti T 1 3 b = ti T 2 3 m)) → post 0 S) : wp_X6_isNothingToDo t0 m9 post S (G 2 m) := by
  refine ⟨⟨h.L hm, h.K hm⟩, G 1 b, h.bx hm hb, ⟨h.L hbv, h.K hbv⟩, fun v7 e7 => ?_⟩
  have e7' : v7 = ti T 1 2 b := e7.trans (h.I hbv (by decide) rfl)
  rw [e7']
  refine ⟨fun c => ⟨Or.inr rfl, h1 (Or.inl c)⟩, fun c v9 e9 => ?_⟩
  have e9' : v9 = ti T 2 1 m := e9.trans (h.I hm (by decide) rfl)
  rw [e9']
  refine ⟨fun d => ⟨Or.inl rfl, h0 (fun z => z.elim c (fun z => d z.1))⟩, fun d v11 e11 => ?_⟩
  have e11' : v11 = ti T 2 3 m := e11.trans (h.I hm (by decide) rfl)
  rw [e11']
  exact cx_isAt h hbv (fun z => ⟨fun y => absurd y (by decide), fun _ => ⟨Or.inr rfl, h1 (Or.inr ⟨d, z⟩)⟩⟩) (fun z => ⟨fun _ => ⟨Or.inl rfl, h0 (fun y => y.elim c (fun y => z y.2))⟩, fun y => absurd rfl y⟩)
theorem cx_isUppermost (h : tx_R t0 S G T) (hg : tt_g T) {b : Nat} (hbv : tt_v T 1 b) {post : Int32 → qs_S → Prop} (h1 : ti T 1 4 b = nI (tt_ca T 3 (ti T 1 3 b)) - 1 → post 1 S) (h0 : ¬ ti T 1 4 b = nI (tt_ca T 3 (ti T 1 3 b)) - 1 → post 0 S) : wp_X6_isUppermost t0 m9 post S (G 6 0) (G 1 b) := by
  refine ⟨⟨h.L hbv, h.K hbv⟩, fun v4 e4 v5 e5 => ⟨h.xL, ?_⟩⟩
  have e4' : v4 = ti T 1 4 b := e4.trans (h.I hbv (by decide) rfl)
  have e5' : v5 = ti T 1 3 b := e5.trans (h.I hbv (by decide) rfl)
  rw [e5']
  refine cx_countAt h hg (fun v12 e12 => ?_)
  rw [e4', e12]
  exact ⟨fun z => ⟨Or.inl rfl, h0 z⟩, fun z => ⟨Or.inr rfl, h1 z⟩⟩
theorem ps_nI0 {n : Nat} (h : n ≤ 40000) : (nI n = 0 ↔ n = 0) := nI_eq (b := 0) (by omega) (by decide)
theorem tt_ca_le (h : tx_R t0 S G T) {wh sp : Int32} : tt_ca T wh sp ≤ 40000 := Nat.le_trans (tt_ct_le _ _) (h.len (by decide))
theorem cx_canTake (h : tx_R t0 S G T) (hg : tt_g T) {b : Nat} (hbv : tt_v T 1 b) {tk : Int32} {post : Int32 → qs_S → Prop}
    (h1 : (ti T 1 2 b = 1 ∨ (ti T 1 2 b = 3 ∧ ti T 1 4 b = nI (tt_ca T 3 (ti T 1 3 b)) - 1)) ∧ tt_ca T 2 tk = 0 → post 1 S) (h0 : ¬ ((ti T 1 2 b = 1 ∨ (ti T 1 2 b = 3 ∧ ti T 1 4 b = nI (tt_ca T 3 (ti T 1 3 b)) - 1)) ∧ tt_ca T 2 tk = 0) → post 0 S) : wp_X6_canTake t0 m9 post S (G 6 0) tk (G 1 b) := by
  have y : (ti T 1 2 b = 1 ∨ (ti T 1 2 b = 3 ∧ ti T 1 4 b = nI (tt_ca T 3 (ti T 1 3 b)) - 1)) → wp_X6_canTake_b24 t0 m9 post S (G 6 0) tk := by
    intro hy
    refine ⟨fun z => absurd z (by decide), fun _ => ⟨h.xL, cx_countAt h hg ?_⟩⟩
    exact ⟨fun z => ⟨Or.inl rfl, h0 (fun w => z ((ps_nI0 (tt_ca_le h)).mpr w.2))⟩, fun z => ⟨Or.inr rfl, h1 ⟨hy, (ps_nI0 (tt_ca_le h)).mp z⟩⟩⟩
  have n : ¬ (ti T 1 2 b = 1 ∨ (ti T 1 2 b = 3 ∧ ti T 1 4 b = nI (tt_ca T 3 (ti T 1 3 b)) - 1)) → wp_X6_canTake_b28 t0 m9 post S (G 6 0) tk := by
    intro hn
    exact ⟨fun _ => ⟨Or.inl rfl, h0 (fun w => hn w.1)⟩, fun z => absurd rfl z⟩
  refine ⟨⟨h.L hbv, h.K hbv⟩, fun v12 e12 => ?_⟩
  have e12' : v12 = ti T 1 2 b := e12.trans (h.I hbv (by decide) rfl)
  rw [e12']
  refine ⟨fun c => y (Or.inl c), fun c v14 e14 => ?_⟩
  have e14' : v14 = ti T 1 2 b := e14.trans (h.I hbv (by decide) rfl)
  rw [e14']
  refine ⟨fun d => n (fun z => z.elim c (fun z => d z.1)), fun d => ⟨h.xL, cx_isUppermost h hg hbv (fun z => ⟨fun w => absurd w (by decide), fun _ => y (Or.inr ⟨d, z⟩)⟩) (fun z => ⟨fun _ => n (fun w => w.elim c (fun w => z w.2)), fun w => absurd rfl w⟩)⟩⟩
theorem cx_canPutDown (h : tx_R t0 S G T) (hg : tt_g T) {m b : Nat} (hm : tt_v T 2 m) (hb : tr T 2 2 m = b + 1) (hbv : tt_v T 1 b) {post : Int32 → qs_S → Prop}
    (h1 : (if ti T 2 1 m = 1 then tt_ca T 3 (ti T 2 3 m) < 4 else ti T 1 6 b = ti T 2 3 m ∧ ti T 1 7 b = ti T 6 6 0) → post 1 S) (h0 : ¬ (if ti T 2 1 m = 1 then tt_ca T 3 (ti T 2 3 m) < 4 else ti T 1 6 b = ti T 2 3 m ∧ ti T 1 7 b = ti T 6 6 0) → post 0 S) : wp_X6_canPutDown t0 m9 post S (G 6 0) (G 2 m) := by
  refine ⟨⟨h.L hm, h.K hm⟩, fun v4 e4 => ?_⟩
  have e4' : v4 = ti T 2 1 m := e4.trans (h.I hm (by decide) rfl)
  rw [e4']
  refine ⟨fun c => ⟨G 1 b, h.bx hm hb, fun v7 e7 => ⟨h.xL, fun v10 e10 => ⟨⟨h.L hbv, h.K hbv⟩, ?_⟩⟩⟩, fun c v18 e18 => ⟨h.xL, ?_⟩⟩
  · have e7' : v7 = ti T 2 3 m := e7.trans (h.I hm (by decide) rfl)
    have e10' : v10 = ti T 6 6 0 := e10.trans (h.I tt_v6 (by decide) rfl)
    rw [e7', e10']
    rw [if_neg c] at h1 h0
    exact cx_isBookedAt h hbv (fun z => ⟨Or.inr rfl, h1 z⟩) (fun z => ⟨Or.inl rfl, h0 z⟩)
  · have e18' : v18 = ti T 2 3 m := e18.trans (h.I hm (by decide) rfl)
    rw [e18']
    rw [if_pos c] at h1 h0
    have hc : tt_ca T 3 (ti T 2 3 m) ≤ 40000 := tt_ca_le h
    refine cx_countAt h hg (show (4 ≤ nI (tt_ca T 3 (ti T 2 3 m)) → _) ∧ (¬ 4 ≤ nI (tt_ca T 3 (ti T 2 3 m)) → _) from ⟨fun z => ⟨Or.inl rfl, h0 (fun w => ?_)⟩, fun z => ⟨Or.inr rfl, h1 ?_⟩⟩)
    · exact absurd ((nI_leI (a := 4) (by decide) (by omega)).mp z) (by omega)
    · rcases Nat.lt_or_ge (tt_ca T 3 (ti T 2 3 m)) 4 with w | w
      · exact w
      · exact absurd (nI_le (a := 4) w (by omega)) z
theorem cx_putDown (h : tx_R t0 S G T) (hg : tt_g T) {m b : Nat} (hm : tt_v T 2 m) (hb : tr T 2 2 m = b + 1) (hbv : tt_v T 1 b) {post : qs_S → Prop} (hp : ∀ S', tx_R t0 S' G (tt_pd T m b) → tx_K t0 S S' → post S') : wp_X6_putDown t0 m9 post S (G 6 0) (G 2 m) := by
  refine ⟨⟨h.L hm, h.K hm⟩, G 1 b, h.bx hm hb, fun v9 e9 => ?_⟩
  have e9' : v9 = ti T 2 1 m := e9.trans (h.I hm (by decide) rfl)
  rw [e9']
  refine ⟨fun c v11 e11 => ⟨⟨h.L hbv, h.K hbv⟩, ?_⟩, fun c v22 e22 => ⟨h.xL, ?_⟩⟩
  · have e11' : v11 = ti T 2 3 m := e11.trans (h.I hm (by decide) rfl)
    rw [e11']
    refine cx_bring h hbv (fun S1 r1 k1 => ⟨⟨r1.L hbv, r1.K hbv⟩, cx_dropBooking r1 (i := b) hbv (fun S2 r2 k2 => ⟨r2.xL, cx_noteMove r2 (m := m) hm (fun S3 r3 k3 => hp S3 ?_ ((k1.tr k2).tr k3))⟩)⟩)
    unfold tt_pd
    rw [if_neg c]
    exact r3
  · have e22' : v22 = ti T 2 3 m := e22.trans (h.I hm (by decide) rfl)
    rw [e22']
    refine cx_countAt h hg ⟨⟨h.L hbv, h.K hbv⟩, ?_⟩
    obtain ⟨r0, k0⟩ := h.wI (k := 4) (v := nI (tt_ct (tt_at T 3 (ti T 2 3 m)) (tl T 1).length)) hbv rfl (by decide)
    refine ⟨⟨r0.L (f := 2) hm, r0.K (f := 2) hm⟩, fun v33 e33 => ?_⟩
    have e33' : v33 = ti T 2 3 m := e33.trans (r0.I (f := 2) (k := 3) hm (by decide) rfl)
    rw [e33']
    refine cx_bring r0 (i := b) hbv (fun S2 r2 k2 => ⟨r2.xL, cx_noteMove r2 (m := m) hm (fun S3 r3 k3 => hp S3 ?_ ((k0.tr k2).tr k3))⟩)
    unfold tt_pd
    rw [if_pos c]
    exact r3
theorem cx_acknowledge (h : tx_R t0 S G T) {w m : Nat} (hw : w < 8) (hm : tt_v T 2 m) (hn : (tl T 3).length ≤ 400) (hmc : 1 ≤ mc) (hms : 610 ≤ ms) {post : Int32 → qs_S → Prop} (hp : ∀ S', tx_R t0 S' G (tt_ak T w m).2 → tx_K t0 S S' → post (tt_ak T w m).1 S') : wp_X6_acknowledge t0 m9 mc ms post S (G 6 0) (G 3 w) (G 2 m) := by
  refine ⟨⟨h.L (tt_v3 hw), h.KW hw⟩, fun v3 e3 => ?_⟩
  have e3' : v3 = ti T 3 4 w := e3.trans (h.I (tt_v3 hw) (by decide) (by rfl))
  rw [e3']
  unfold tt_ak at hp
  refine ⟨fun c => ?_, fun c v30 e30 v31 e31 => ?_⟩
  · rw [if_neg (Int32.not_lt.mpr c)] at hp
    refine cx_takeOut h hw hm (fun S1 r1 k1 => ⟨⟨r1.L (tt_v3 hw), r1.KW hw⟩, ?_⟩)
    have hm1 : tt_v (tt_L T (6 + w) ((tl T (6 + w)).erase m)) 2 m := (tt_vL (by omega)).mpr hm
    obtain ⟨r2, k2⟩ := r1.wR (f := 3) (i := w) (k := 6) (n := m + 1) (v := some (G 2 m)) (tt_v3 hw) rfl (by decide) (by
      have e : tt_e G (tt_R (tt_L T (6 + w) ((tl T (6 + w)).erase m)) 3 6 w (m + 1)) 3 6 w = tt_o (G 2) (tr (tt_R (tt_L T (6 + w) ((tl T (6 + w)).erase m)) 3 6 w (m + 1)) 3 6 w) := rfl
      rw [e, show tr (tt_R (tt_L T (6 + w) ((tl T (6 + w)).erase m)) 3 6 w (m + 1)) 3 6 w = m + 1 from if_pos ⟨rfl, rfl, rfl⟩]
      rfl) (by decide)
    refine ⟨⟨r2.L hm1, r2.K hm1⟩, cx_isMoveMade r2 hm1 (fun d => ⟨fun z => absurd z (by decide), fun _ => ⟨⟨r2.L hm1, r2.K hm1⟩, fun v19 e19 => ?_⟩⟩) (fun d => ⟨fun _ => ?_, fun z => absurd rfl z⟩)⟩
    · have e19' : v19 = ti T 2 6 m := e19.trans (r2.I (f := 2) (k := 6) hm1 (by decide) rfl)
      rw [e19']
      refine ⟨fun f => ?_, fun f => ?_⟩
      · rw [if_neg (fun z => f z.2)] at hp
        exact hp _ r2 (k1.tr k2)
      · rw [if_pos ⟨d, f⟩] at hp
        obtain ⟨r3, k3⟩ := r2.wI (f := 2) (i := m) (k := 6) (v := 1) hm1 rfl (by decide)
        refine ⟨r3.xL, G 4 3, r3.xR (by decide), r3.lL (by decide), mc, ms, ⟨by omega, by omega⟩, ?_⟩
        have el : tl (tt_I (tt_R (tt_L T (6 + w) ((tl T (6 + w)).erase m)) 3 6 w (m + 1)) 2 6 m 1) 3 = tl T 3 := tt_lL (by omega)
        refine r3.add (j := 3) (e := m) (by decide) (by decide) hm1 (by rw [el]; exact hn) hmc (by rw [el]; omega) (fun S4 r4 k4 => hp S4 ?_ (((k1.tr k2).tr k3).tr k4))
        rw [el] at r4
        exact r4
    · rw [if_neg (fun z => z.1 d)] at hp
      exact hp _ r2 (k1.tr k2)
  · have e30' : v30 = ti T 3 4 w := e30.trans (h.I (tt_v3 hw) (by decide) rfl)
    rw [if_pos (Int32.not_le.mp c)] at hp
    obtain ⟨r1, k1⟩ := h.wI (f := 3) (i := w) (k := 4) (v := v31) (tt_v3 hw) rfl (by decide)
    rw [e31, e30'] at r1 k1
    rw [e31, e30']
    exact hp _ r1 k1
end TXN
