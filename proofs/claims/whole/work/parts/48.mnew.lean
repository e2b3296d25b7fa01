/-! ===== a new ship, a new box, in the reference ===== -/
section SN
variable {T T' : tt_T} {M : mm_M} {c : Nat}
theorem iv_lwrk (h : iv T c) (el : ∀ j, (j = 3 ∨ 6 ≤ j) → tl T' j = tl T j) (e2 : (tl T 2).length ≤ (tl T' 2).length) (er : ∀ k w, tr T' 3 k w = tr T 3 k w) (e21 : ∀ m, m < (tl T 2).length → ti T' 2 1 m = ti T 2 1 m) : iv_l T' ∧ iv_w T' ∧ iv_r T' ∧ iv_k T' := by
  refine ⟨fun j hj h22 => ?_, fun w w' m hw hw' hm hm' => ?_, fun w hw x => ?_, fun w h4 hw => ⟨fun m hm => ?_, fun x => ⟨fun e => ?_, fun e => ?_⟩⟩⟩
  · rw [el j hj]
    exact ⟨(h.l j hj h22).1, fun m hm => Nat.lt_of_lt_of_le ((h.l j hj h22).2 m hm) e2⟩
  · rw [el (6 + w) (Or.inr (by omega))] at hm
    rw [el (6 + w') (Or.inr (by omega))] at hm'
    exact h.w w w' m hw hw' hm hm'
  · rw [er, er, el (14 + w) (Or.inr (by omega))]
    exact ⟨fun e => Nat.lt_of_lt_of_le ((h.r w hw x).1 e) e2, fun h4 e => ⟨Nat.lt_of_lt_of_le ((h.r w hw x).2 h4 e).1 e2, ((h.r w hw x).2 h4 e).2⟩⟩
  · rw [el (6 + w) (Or.inr (by omega))] at hm
    rw [e21 m ((h.l (6 + w) (Or.inr (by omega)) (by omega)).2 m hm)]
    exact (h.k w h4 hw).1 m hm
  · rw [er] at e
    rw [e21 x ((h.r w hw x).1 e)]
    exact ((h.k w h4 hw).2 x).1 e
  · rw [er] at e
    rw [e21 x ((h.r w hw x).2 h4 e).1]
    exact ((h.k w h4 hw).2 x).2 e
theorem sm_dq (s : sm T M) (el : ∀ j, 6 ≤ j → tl T' j = tl T j) : (∀ m, m < (tl T 2).length → ∃ d, d < 256 ∧ ma M 26 m = nI d ∧ ∀ w, w < 8 → d.testBit w = decide (m ∈ tl T' (14 + w))) ∧ sm_q T' M := by
  refine ⟨fun m hm => ?_, fun w hw => ?_⟩
  · obtain ⟨d, d1, d2, d3⟩ := s.d m hm
    exact ⟨d, d1, d2, fun w hw => by rw [el (14 + w) (by omega)]; exact d3 w hw⟩
  · rw [el (6 + w) (by omega)]
    exact s.q w hw
theorem tt_N_g {j : Nat} (hj : j < 3) {vi : Nat → Int32} {vr : Nat → Nat} (h : tt_g T) : tt_g (tt_N T j vi vr) := by
  refine ⟨fun i hi => ?_, ?_, ?_⟩
  · by_cases z : i = j
    · subst z
      have e : tl (tt_N T i vi vr) i = tl T i ++ [(tl T i).length] := tt_lS
      rw [e, List.length_append]
      show _ = List.range ((tl T i).length + 1)
      rw [List.range_succ, ← h.1 i hi]
    · have e : tl (tt_N T j vi vr) i = tl T i := tt_lL z
      rw [e]
      exact h.1 i hi
  · exact (tt_lL (by omega)).trans h.2.1
  · exact (tt_lL (by omega)).trans h.2.2
theorem tt_Nl {j i : Nat} (hj : j < 3) {vi : Nat → Int32} {vr : Nat → Nat} (hi : 3 ≤ i) : tl (tt_N T j vi vr) i = tl T i := tt_lL (by omega)
theorem tt_NlS {j : Nat} {vi : Nat → Int32} {vr : Nat → Nat} : (tl (tt_N T j vi vr) j).length = (tl T j).length + 1 := by
  have e : tl (tt_N T j vi vr) j = tl T j ++ [(tl T j).length] := tt_lS
  rw [e, List.length_append]
  rfl
theorem tt_Ni {j k i : Nat} {vi : Nat → Int32} {vr : Nat → Nat} (hi : i < (tl T j).length) : ti (tt_N T j vi vr) j k i = ti T j k i := if_neg (fun z => by omega)
theorem tt_Nr {j k i : Nat} {vi : Nat → Int32} {vr : Nat → Nat} (hi : i < (tl T j).length) : tr (tt_N T j vi vr) j k i = tr T j k i := if_neg (fun z => by omega)
theorem iw_berth (h : iv T c) {a l : Nat} (hl : 1 ≤ l) (ha : a + l ≤ 16) (hn : (tl T 0).length < 10) : iv (tt_N T 0 (tt_sv (nI a) (nI (a + l))) (fun _ => 0)) c := by
  obtain ⟨i1, i2, i3, i4⟩ := iv_lwrk (T' := tt_N T 0 (tt_sv (nI a) (nI (a + l))) (fun _ => 0)) h (fun j hj => tt_Nl (by decide) (by omega)) (Nat.le_refl _) (fun _ _ => rfl) (fun _ _ => rfl)
  have e0 : (tl (tt_N T 0 (tt_sv (nI a) (nI (a + l))) (fun _ => 0)) 0).length = (tl T 0).length + 1 := tt_NlS
  refine ⟨tt_N_g (by decide) h.g, ⟨h.h.1, h.h.2.1, h.h.2.2.1, fun i hi => ?_⟩, ⟨by rw [e0]; omega, h.n.2⟩, i1, i2, i3, i4, h.b, h.t, fun s hs => ?_, h.m, h.f⟩
  · obtain ⟨s, hs, es⟩ := h.h.2.2.2 i hi
    exact ⟨s, by rw [e0]; omega, es⟩
  · rw [e0] at hs
    by_cases z : s = (tl T 0).length
    · subst z
      exact ⟨a, l, if_pos ⟨rfl, rfl⟩, if_pos ⟨rfl, rfl⟩, hl, ha⟩
    · rw [tt_Ni (by omega), tt_Ni (by omega)]
      exact h.s s (by omega)
theorem sw_berth (s : sm T M) (hn : (tl T 0).length < 10) {p l : Int32} : sm (tt_N T 0 (tt_sv p (p + l)) (fun _ => 0)) (mm_I (mm_A (mm_A M 3 (tl T 0).length p) 4 (tl T 0).length l) 2 (nI (tl T 0).length + 1)) := by
  have e0 : (tl (tt_N T 0 (tt_sv p (p + l)) (fun _ => 0)) 0).length = (tl T 0).length + 1 := tt_NlS
  obtain ⟨d1, d2⟩ := sm_dq (T' := tt_N T 0 (tt_sv p (p + l)) (fun _ => 0)) s (fun j hj => tt_Nl (by decide) (by omega))
  refine ⟨⟨s.i.1, ?_, s.i.2.2⟩, fun i hi => ?_, s.b, s.h, s.w, s.m, d1, ⟨s.z.1, fun i h1 h2 => ?_⟩, s.l, d2⟩
  · rw [e0, ← nI_1]
    rfl
  · rw [e0] at hi
    by_cases z : i = (tl T 0).length
    · subst z
      have a3 : ma (mm_I (mm_A (mm_A M 3 (tl T 0).length p) 4 (tl T 0).length l) 2 (nI (tl T 0).length + 1)) 3 (tl T 0).length = p := if_pos ⟨rfl, rfl⟩
      have a4 : ma (mm_I (mm_A (mm_A M 3 (tl T 0).length p) 4 (tl T 0).length l) 2 (nI (tl T 0).length + 1)) 4 (tl T 0).length = l := if_pos ⟨rfl, rfl⟩
      have t0 : ti (tt_N T 0 (tt_sv p (p + l)) (fun _ => 0)) 0 0 (tl T 0).length = p := if_pos ⟨rfl, rfl⟩
      have t1 : ti (tt_N T 0 (tt_sv p (p + l)) (fun _ => 0)) 0 1 (tl T 0).length = p + l := if_pos ⟨rfl, rfl⟩
      have t2 : ti (tt_N T 0 (tt_sv p (p + l)) (fun _ => 0)) 0 2 (tl T 0).length = 0 := if_pos ⟨rfl, rfl⟩
      rw [a3, a4, t0, t1, t2]
      exact ⟨rfl, rfl, s.z.2 _ (Nat.le_refl _) hn⟩
    · have a3 : ma (mm_I (mm_A (mm_A M 3 (tl T 0).length p) 4 (tl T 0).length l) 2 (nI (tl T 0).length + 1)) 3 i = ma M 3 i := if_neg (fun q => z q.2)
      have a4 : ma (mm_I (mm_A (mm_A M 3 (tl T 0).length p) 4 (tl T 0).length l) 2 (nI (tl T 0).length + 1)) 4 i = ma M 4 i := if_neg (fun q => z q.2)
      rw [a3, a4, tt_Ni (by omega), tt_Ni (by omega), tt_Ni (by omega)]
      exact s.s i (by omega)
  · rw [e0] at h1
    exact s.z.2 i (by omega) h2
theorem tt_ca_N1 (I : iv T c) {p : Int32} {sh : Nat} {wh sp : Int32} (hw : wh ≠ 0) : tt_ca (tt_N T 1 (tt_bv p) (fun _ => sh + 1)) wh sp = tt_ca T wh sp := by
  have e0 : (tl (tt_N T 1 (tt_bv p) (fun _ => sh + 1)) 1).length = (tl T 1).length + 1 := tt_NlS
  unfold tt_ca
  rw [e0]
  show tt_ct (tt_at (tt_N T 1 (tt_bv p) (fun _ => sh + 1)) wh sp) (tl T 1).length + (if tt_at (tt_N T 1 (tt_bv p) (fun _ => sh + 1)) wh sp (tl T 1).length = true then 1 else 0) = _
  have t2 : ti (tt_N T 1 (tt_bv p) (fun _ => sh + 1)) 1 2 (tl T 1).length = 0 := if_pos ⟨rfl, rfl⟩
  rw [if_neg, tt_ct_cg]
  · rfl
  · intro i hi
    unfold tt_at
    rw [tt_Ni hi, tt_Ni hi]
  · unfold tt_at
    rw [t2, decide_eq_false (fun z => hw z.1.symm)]
    decide
theorem iw_box (h : iv T c) {a sh : Nat} (ha : a < 16) (hs : sh < (tl T 0).length) (hn : (tl T 1).length < 24) : iv (tt_N T 1 (tt_bv (nI a)) (fun _ => sh + 1)) c := by
  obtain ⟨i1, i2, i3, i4⟩ := iv_lwrk (T' := tt_N T 1 (tt_bv (nI a)) (fun _ => sh + 1)) h (fun j hj => tt_Nl (by decide) (by omega)) (Nat.le_refl _) (fun _ _ => rfl) (fun _ _ => rfl)
  have e0 : (tl (tt_N T 1 (tt_bv (nI a)) (fun _ => sh + 1)) 1).length = (tl T 1).length + 1 := tt_NlS
  refine ⟨tt_N_g (by decide) h.g, ⟨h.h.1, h.h.2.1, fun i hi => ?_, fun i hi => ?_⟩, ⟨h.n.1, by rw [e0]; omega, h.n.2.2⟩, i1, i2, i3, i4, fun b hb => ?_, h.t, h.s, h.m, h.f⟩
  · obtain ⟨b, hb, eb⟩ := h.h.2.2.1 i hi
    exact ⟨b, by rw [e0]; omega, eb⟩
  · rw [e0] at hi
    by_cases z : i = (tl T 1).length
    · subst z
      exact ⟨sh, hs, if_pos ⟨rfl, rfl⟩⟩
    · rw [tt_Nr (by omega)]
      exact h.h.2.2.2 i (by omega)
  · rw [e0] at hb
    by_cases z : b = (tl T 1).length
    · subst z
      have t1 : ti (tt_N T 1 (tt_bv (nI a)) (fun _ => sh + 1)) 1 1 (tl T 1).length = nI a := if_pos ⟨rfl, rfl⟩
      have t2 : ti (tt_N T 1 (tt_bv (nI a)) (fun _ => sh + 1)) 1 2 (tl T 1).length = 0 := if_pos ⟨rfl, rfl⟩
      have t3 : ti (tt_N T 1 (tt_bv (nI a)) (fun _ => sh + 1)) 1 3 (tl T 1).length = nI a := if_pos ⟨rfl, rfl⟩
      have t7 : ti (tt_N T 1 (tt_bv (nI a)) (fun _ => sh + 1)) 1 7 (tl T 1).length = -1 := if_pos ⟨rfl, rfl⟩
      rw [t1, t2, t3, t7]
      exact ⟨⟨a, ha, rfl⟩, ⟨0, by decide, rfl⟩, fun _ => rfl, fun q => absurd q (by decide), Or.inl rfl⟩
    · rw [tt_Ni (by omega), tt_Ni (by omega), tt_Ni (by omega), tt_Ni (by omega)]
      exact h.b b (by omega)
theorem sw_box (s : sm T M) (I : iv T c) {p : Int32} {sh : Nat} : sm (tt_N T 1 (tt_bv p) (fun _ => sh + 1)) (mm_I (mm_A (mm_A (mm_A (mm_A (mm_A M 7 (tl T 1).length (nI sh)) 8 (tl T 1).length p) 9 (tl T 1).length 0) 11 (tl T 1).length (-1)) 12 (tl T 1).length (-1)) 6 (nI (tl T 1).length + 1)) := by
  have e0 : (tl (tt_N T 1 (tt_bv p) (fun _ => sh + 1)) 1).length = (tl T 1).length + 1 := tt_NlS
  obtain ⟨d1, d2⟩ := sm_dq (T' := tt_N T 1 (tt_bv p) (fun _ => sh + 1)) s (fun j hj => tt_Nl (by decide) (by omega))
  refine ⟨⟨s.i.1, s.i.2.1, ?_, s.i.2.2.2⟩, s.s, fun b hb => ?_, fun st hst => ?_, s.w, s.m, d1, s.z, s.l, d2⟩
  · rw [e0, ← nI_1]
    rfl
  · rw [e0] at hb
    by_cases z : b = (tl T 1).length
    · subst z
      have t1 : ti (tt_N T 1 (tt_bv p) (fun _ => sh + 1)) 1 1 (tl T 1).length = p := if_pos ⟨rfl, rfl⟩
      have t2 : ti (tt_N T 1 (tt_bv p) (fun _ => sh + 1)) 1 2 (tl T 1).length = 0 := if_pos ⟨rfl, rfl⟩
      have t5 : ti (tt_N T 1 (tt_bv p) (fun _ => sh + 1)) 1 5 (tl T 1).length = -1 := if_pos ⟨rfl, rfl⟩
      have t7 : ti (tt_N T 1 (tt_bv p) (fun _ => sh + 1)) 1 7 (tl T 1).length = -1 := if_pos ⟨rfl, rfl⟩
      have r0 : tr (tt_N T 1 (tt_bv p) (fun _ => sh + 1)) 1 0 (tl T 1).length = sh + 1 := if_pos ⟨rfl, rfl⟩
      rw [t1, t2, t5, t7, r0]
      refine ⟨if_pos ⟨rfl, rfl⟩, if_pos ⟨rfl, rfl⟩, if_pos ⟨rfl, rfl⟩, fun q => absurd rfl q, if_pos ⟨rfl, rfl⟩, if_pos ⟨rfl, rfl⟩, fun q => absurd rfl q, fun q => absurd q (by decide)⟩
    · have old := s.b b (by omega)
      rw [tt_Nr (by omega), tt_Ni (by omega), tt_Ni (by omega), tt_Ni (by omega), tt_Ni (by omega), tt_Ni (by omega), tt_Ni (by omega), tt_Ni (by omega)]
      have nz : ∀ k : Nat, ¬ (k = k ∧ b = (tl T 1).length) := fun k q => z q.2
      refine ⟨(if_neg (nz 7)).trans old.1, (if_neg (nz 8)).trans old.2.1, (if_neg (nz 9)).trans old.2.2.1, old.2.2.2.1, (if_neg (nz 11)).trans old.2.2.2.2.1, (if_neg (nz 12)).trans old.2.2.2.2.2.1, old.2.2.2.2.2.2.1, old.2.2.2.2.2.2.2⟩
  · rw [tt_ca_N1 I (by decide)]
    exact s.h st hst
end SN
section TYC
variable {t0 m9 y c : Nat} {S : qs_S} {T : tt_T} {H : Nat → Nat} {M : mm_M} {post : Int32 → qs_S → Prop}
theorem mm_Is {k : Nat} {v : Int32} : mi (mm_I M k v) k = v := by
  show (if k = k then v else mi M k) = v
  exact if_pos rfl
theorem cm_berth (h : tx_M S y H M) (s : sm T M) (I : iv T c) {p l : Int32} (hp : ty_H cA post t0 S y H (tq_berth T p l)) : wp_X7_berth t0 m9 post S y p l := by
  have hl := I.n.1
  unfold tq_berth at hp
  have no : ∀ e : Nat, e ≠ 0 → ty_H cA post t0 S y H (e, 0, T) → ∀ v : Int32, v = nI e → ¬ v ≤ 0 → wp_X7_berth_b57 t0 m9 post S y p l y v := fun e he hp v ev hv => by
    obtain ⟨r, k⟩ := h.wI (k := 0) (v := v) t0
    exact ⟨h.y7, r.y7, r.r0 ⟨fun q => absurd q hv, fun _ => hp _ _ _ r k ev (fun q => absurd q he) s.th⟩⟩
  refine cy_isPlace (fun i hi e => ⟨fun _ => ?_, fun q => absurd q (by decide)⟩) (fun z => ⟨fun q => absurd rfl q, fun _ => no 1 (by decide) (by rw [if_pos z] at hp; exact hp) 1 rfl (by decide)⟩)
  have pin : ¬ (p < 0 ∨ ¬ p < 16) := by
    rw [e]
    exact fun r => r.elim (fun r => nI_pos (by omega) r) (fun r => r (nI_lt (b := 16) hi (by decide)))
  rw [if_neg pin] at hp
  refine cy_in (fun z1 z2 => ⟨fun q => absurd q (by decide), fun _ v31 e31 => ?_⟩) (fun z => ⟨fun _ => no 2 (by decide) (by rw [if_pos (z.elim Or.inl (fun z => Or.inr (Or.inl z)))] at hp; exact hp) 2 rfl (by decide), fun q => absurd rfl q⟩)
  rw [e31]
  refine ⟨fun z3 => ⟨h.y7, cy_isFree h s I ?_⟩, fun z3 => no 2 (by decide) (by rw [if_pos (Or.inr (Or.inr z3))] at hp; exact hp) 2 rfl (by decide)⟩
  rw [if_neg (fun r => r.elim z1 (fun r => r.elim z2 (fun r => r z3)))] at hp
  refine ⟨fun q => no 3 (by decide) ?_ 3 rfl (by decide), fun q => ⟨h.y7, h.rI (k := 2) ?_⟩⟩
  · have : tt_isTk T p (p + l) = true := by
      have := tt_bi0 q
      cases hh : tt_isTk T p (p + l)
      · rw [hh] at this; exact absurd this (by decide)
      · rfl
    rw [if_pos (Or.inr this)] at hp
    exact hp
  · have nt : ¬ tt_isTk T p (p + l) = true := by
      have := tt_bi1 q
      intro hh
      rw [hh] at this
      exact absurd this (by decide)
    rw [s.i.2.1]
    refine ⟨fun z => ?_, fun z => no 3 (by decide) ?_ 3 rfl (by decide)⟩
    · have lt : (tl T 0).length < 10 := by
        rcases Nat.lt_or_ge (tl T 0).length 10 with w | w
        · exact w
        · exact absurd (by rw [show (tl T 0).length = 10 by omega]; rfl) z
      rw [if_neg (fun r => r.elim (fun r => by omega) nt)] at hp
      obtain ⟨r, k⟩ := h.wI (k := 0) (v := 0) t0
      have e2 : mi (mm_I M 0 0) 2 = nI (tl T 0).length := s.i.2.1
      refine ⟨h.y7, r.y7, r.r0 ⟨fun _ => ⟨_, r.ar 3, r.rI (k := 2) ?_⟩, fun q => absurd (by decide) q⟩⟩
      rw [e2]
      obtain ⟨r2, k2⟩ := r.wA (k := 3) (x := nI (tl T 0).length) (v := p) t0 rfl lt
      refine ⟨r.hk 3, r.vp (k := 3) rfl lt, _, r2.ar 4, r2.rI (k := 2) ?_⟩
      rw [show mi (mm_A (mm_I M 0 0) 3 (tl T 0).length p) 2 = nI (tl T 0).length from e2]
      obtain ⟨r3, k3⟩ := r2.wA (k := 4) (x := nI (tl T 0).length) (v := l) t0 rfl lt
      refine ⟨r2.hk 4, r2.vp (k := 4) rfl lt, r3.rI (k := 2) (fun v18 e18 => ?_)⟩
      rw [show mi (mm_A (mm_A (mm_I M 0 0) 3 (tl T 0).length p) 4 (tl T 0).length l) 2 = nI (tl T 0).length from e2] at e18
      obtain ⟨r4, k4⟩ := r3.wI (k := 2) (v := v18) t0
      refine r4.rI (k := 2) (fun v20 e20 => ?_)
      rw [show mi (mm_I (mm_A (mm_A (mm_I M 0 0) 3 (tl T 0).length p) 4 (tl T 0).length l) 2 v18) 2 = v18 from mm_Is] at e20
      rw [e18] at r4 k4 ⊢
      refine hp _ _ v20 r4 (((k.tr k2).tr k3).tr k4) rfl (fun _ => ?_) (sw_berth s.th lt)
      rw [e20, e18, ← nI_succ, nI_pred]
    · have e10 : (tl T 0).length = 10 := (nI_eq (b := 10) (by omega) (by decide)).mp z
      rw [if_pos (Or.inl (by omega))] at hp
      exact hp
theorem cm_box (h : tx_M S y H M) (s : sm T M) (I : iv T c) {x p : Int32} (hp : ty_H cA post t0 S y H (tq_box T x p)) : wp_X7_box t0 m9 post S y x p := by
  have hl := I.n.2.1
  have hl0 := I.n.1
  unfold tq_box at hp
  have no : ∀ (e : Nat) (v : Int32) (S1 : qs_S) (M1 : mm_M), tx_M S1 y H M1 → tx_J t0 S S1 → sm T M1 → e ≠ 0 → ty_H cA post t0 S y H (e, 0, T) → v = nI e → ¬ v ≤ 0 → wp_X7_box_b71 t0 m9 post S1 y x p y v := fun e v S1 M1 h1 k1 s1 he hp ev hv => by
    obtain ⟨r, k⟩ := h1.wI (k := 0) (v := v) t0
    exact ⟨h1.y7, r.y7, r.r0 ⟨fun q => absurd q hv, fun _ => hp _ _ _ r (k1.tr k) ev (fun q => absurd q he) s1.th⟩⟩
  refine ⟨h.y7, cy_isShip h s I (fun sh hs e z => ⟨fun q => absurd q (by decide), fun _ => ?_⟩) (fun z => ⟨fun _ => ?_, fun q => absurd rfl q⟩)⟩
  · rw [e, tt_ix_in hs (by omega)] at hp
    simp only at hp
    rw [if_neg (fun q => q z)] at hp
    obtain ⟨r, k⟩ := h.wI (k := 0) (v := 0) t0
    have s10 : sh < 10 := by omega
    obtain ⟨s1, s2, s3⟩ := s.s sh hs
    obtain ⟨a, l, ea, eb, hl1, hal⟩ := I.s sh hs
    have e3 : ma (mm_I M 0 0) 3 sh = ti T 0 0 sh := s1
    refine ⟨h.y7, r.y7, r.r0 ⟨fun q => absurd rfl q, fun _ => r.rA (k := 3) (i := sh) e (r.rA (k := 3) (i := sh) e (r.rA (k := 4) (i := sh) e (fun v60 e60 v61 e61 => ?_) s10) s10) s10⟩⟩
    have e60' : v60 = ti T 0 1 sh := e60.trans s2
    have hlt : ∀ q : Int32, (v61 < q ↔ ¬ q < ti T 0 1 sh) ∨ q < 0 := by
      intro q
      by_cases qn : q < 0
      · exact Or.inr qn
      · obtain ⟨j, hj, ej⟩ := nI_of qn
        rw [e61, e60', eb, ej, show nI (a + l) - 1 = nI (a + l - 1) from pk_sub (b := 1) (by omega), nI_ltI (by omega) hj, nI_ltI hj (by omega)]
        left
        omega
    rw [e3]
    refine cy_in (fun z1 z2 => ⟨fun _ => ⟨r.y7, r.rI (k := 6) ?_⟩, fun q => absurd q (by decide)⟩) (fun zz => ⟨fun q => absurd rfl q, fun _ => no 2 2 _ _ r k s.th (by decide) ?_ rfl (by decide)⟩)
    · have p0 : ¬ p < 0 := fun q => z1 (by rw [ea]; exact Int32.lt_of_lt_of_le q (nI_pos' (by omega)))
      have pe : p < ti T 0 1 sh := Classical.byContradiction (fun q => z2 (((hlt p).resolve_right p0).mpr q))
      rw [if_neg (fun r => r.elim z1 (fun r => r pe))] at hp
      have e6 : mi (mm_I M 0 0) 6 = nI (tl T 1).length := s.i.2.2.1
      rw [e6]
      refine ⟨fun z => ?_, fun z => no 3 3 _ _ r k s.th (by decide) ?_ rfl (by decide)⟩
      · have lt : (tl T 1).length < 24 := by
          rcases Nat.lt_or_ge (tl T 1).length 24 with w | w
          · exact w
          · exact absurd (by rw [show (tl T 1).length = 24 by omega]; rfl) z
        rw [if_neg (by omega)] at hp
        obtain ⟨r0, k0⟩ := r.wI (k := 0) (v := 0) t0
        rw [mm_II] at r0
        refine ⟨r.y7, r0.y7, r0.r0 ⟨fun _ => ⟨_, r0.ar 7, r0.rI (k := 6) ?_⟩, fun q => absurd (by decide) q⟩⟩
        rw [e6]
        obtain ⟨r1, k1⟩ := r0.wA (k := 7) (x := nI (tl T 1).length) (v := x) t0 rfl lt
        refine ⟨r0.hk 7, r0.vp (k := 7) rfl lt, _, r1.ar 8, r1.rI (k := 6) ?_⟩
        rw [show mi (mm_A (mm_I M 0 0) 7 (tl T 1).length x) 6 = nI (tl T 1).length from e6]
        obtain ⟨r2, k2⟩ := r1.wA (k := 8) (x := nI (tl T 1).length) (v := p) t0 rfl lt
        refine ⟨r1.hk 8, r1.vp (k := 8) rfl lt, _, r2.ar 9, r2.rI (k := 6) ?_⟩
        rw [show mi (mm_A (mm_A (mm_I M 0 0) 7 (tl T 1).length x) 8 (tl T 1).length p) 6 = nI (tl T 1).length from e6]
        obtain ⟨r3, k3⟩ := r2.wA (k := 9) (x := nI (tl T 1).length) (v := 0) t0 rfl lt
        refine ⟨r2.hk 9, r2.vp (k := 9) rfl lt, _, r3.ar 11, r3.rI (k := 6) ?_⟩
        rw [show mi (mm_A (mm_A (mm_A (mm_I M 0 0) 7 (tl T 1).length x) 8 (tl T 1).length p) 9 (tl T 1).length 0) 6 = nI (tl T 1).length from e6]
        obtain ⟨r4, k4⟩ := r3.wA (k := 11) (x := nI (tl T 1).length) (v := -1) t0 rfl lt
        refine ⟨r3.hk 11, r3.vp (k := 11) rfl lt, _, r4.ar 12, r4.rI (k := 6) ?_⟩
        rw [show mi (mm_A (mm_A (mm_A (mm_A (mm_I M 0 0) 7 (tl T 1).length x) 8 (tl T 1).length p) 9 (tl T 1).length 0) 11 (tl T 1).length (-1)) 6 = nI (tl T 1).length from e6]
        obtain ⟨r5, k5⟩ := r4.wA (k := 12) (x := nI (tl T 1).length) (v := -1) t0 rfl lt
        refine ⟨r4.hk 12, r4.vp (k := 12) rfl lt, fun S30 e30 => ?_⟩
        rw [e30]
        refine r5.rI (k := 6) (fun v34 e34 => ?_)
        rw [show mi (mm_A (mm_A (mm_A (mm_A (mm_A (mm_I M 0 0) 7 (tl T 1).length x) 8 (tl T 1).length p) 9 (tl T 1).length 0) 11 (tl T 1).length (-1)) 12 (tl T 1).length (-1)) 6 = nI (tl T 1).length from e6] at e34
        obtain ⟨r6, k6⟩ := r5.wI (k := 6) (v := v34) t0
        refine r6.rI (k := 6) (fun v36 e36 => ?_)
        rw [show mi (mm_I (mm_A (mm_A (mm_A (mm_A (mm_A (mm_I M 0 0) 7 (tl T 1).length x) 8 (tl T 1).length p) 9 (tl T 1).length 0) 11 (tl T 1).length (-1)) 12 (tl T 1).length (-1)) 6 v34) 6 = v34 from mm_Is] at e36
        rw [e34, e] at r6
        rw [e34, e] at k6
        rw [e] at k1 k2 k3 k4 k5
        rw [e34, e]
        refine hp _ _ v36 r6 (((((((k.tr k0).tr k1).tr k2).tr k3).tr k4).tr k5).tr k6) rfl (fun _ => ?_) (sw_box s.th I)
        rw [e36, e34, ← nI_succ, nI_pred]
      · have e24 : (tl T 1).length = 24 := (nI_eq (b := 24) (by omega) (by decide)).mp z
        rw [if_pos (by omega)] at hp
        exact hp
    · rw [if_pos] at hp
      · exact hp
      · rcases zz with zz | zz
        · exact Or.inl zz
        · rcases hlt p with q | q
          · exact Or.inr (q.mp zz)
          · exact Or.inl (by rw [ea]; exact Int32.lt_of_lt_of_le q (nI_pos' (by omega)))
  · have hp1 : ty_H cA post t0 S y H (1, 0, T) := by
      cases hx : tt_ix x (tl T 0).length with
      | zero =>
        simp only [hx] at hp
        exact hp
      | succ j =>
        simp only [hx] at hp
        obtain ⟨hj, e⟩ := tt_ix_eq (by omega) hx
        rw [if_pos (z j hj e)] at hp
        exact hp
    obtain ⟨r, k⟩ := h.wI (k := 0) (v := 1) t0
    exact ⟨h.y7, r.y7, r.r0 ⟨fun _ => ⟨r.y7, r.r0 ⟨fun q => absurd q (by decide), fun _ => hp1 _ _ _ r k rfl (fun q => absurd (show (1 : Nat) = 0 from q) (by decide)) s.th⟩⟩, fun q => absurd q (by decide)⟩⟩
end TYC
