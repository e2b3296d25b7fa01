/-! ===== a truck's act, in the reference ===== -/
section SX
variable {T : tt_T} {M : mm_M} {c : Nat}
/-- a box is put into a stack -/
theorem sw_stack (s : sm T M) {b st : Nat} (hb : b < (tl T 1).length) (h2 : ti T 1 2 b = 2) (hst : st < 6) : sm (tt_br (tt_I T 1 4 b (nI (tt_ca T 3 (nI st)))) b 3 (nI st)) (mm_A (mm_A (mm_A (mm_A M 9 b 3) 10 b (nI st)) 15 b (nI (tt_ca T 3 (nI st)))) 14 st (nI (tt_ca T 3 (nI st)) + 1)) := by
  refine ⟨s.i, s.s, fun b' hb' => ?_, fun st' hst' => ?_, s.w, s.m, s.d, s.z, s.l, s.q⟩
  · obtain ⟨e1, e2, e3, e4, e5, e6, e7, e8⟩ := s.b b' hb'
    have a9 : ma (mm_A (mm_A (mm_A (mm_A M 9 b 3) 10 b (nI st)) 15 b (nI (tt_ca T 3 (nI st)))) 14 st (nI (tt_ca T 3 (nI st)) + 1)) 9 b' = if 9 = 9 ∧ b' = b then 3 else ma M 9 b' := rfl
    have a10 : ma (mm_A (mm_A (mm_A (mm_A M 9 b 3) 10 b (nI st)) 15 b (nI (tt_ca T 3 (nI st)))) 14 st (nI (tt_ca T 3 (nI st)) + 1)) 10 b' = if 10 = 10 ∧ b' = b then nI st else ma M 10 b' := rfl
    have a15 : ma (mm_A (mm_A (mm_A (mm_A M 9 b 3) 10 b (nI st)) 15 b (nI (tt_ca T 3 (nI st)))) 14 st (nI (tt_ca T 3 (nI st)) + 1)) 15 b' = if 15 = 15 ∧ b' = b then nI (tt_ca T 3 (nI st)) else ma M 15 b' := rfl
    have t2 : ti (tt_br (tt_I T 1 4 b (nI (tt_ca T 3 (nI st)))) b 3 (nI st)) 1 2 b' = if 1 = 1 ∧ 2 = 2 ∧ b' = b then 3 else ti T 1 2 b' := rfl
    have t3 : ti (tt_br (tt_I T 1 4 b (nI (tt_ca T 3 (nI st)))) b 3 (nI st)) 1 3 b' = if 1 = 1 ∧ 3 = 3 ∧ b' = b then nI st else ti T 1 3 b' := rfl
    have t4 : ti (tt_br (tt_I T 1 4 b (nI (tt_ca T 3 (nI st)))) b 3 (nI st)) 1 4 b' = if 1 = 1 ∧ 4 = 4 ∧ b' = b then nI (tt_ca T 3 (nI st)) else ti T 1 4 b' := rfl
    by_cases z : b' = b
    · rw [if_pos ⟨rfl, z⟩] at a9 a10 a15
      rw [if_pos ⟨rfl, rfl, z⟩] at t2 t3 t4
      exact ⟨e1, e2, a9.trans t2.symm, fun _ _ => a10.trans t3.symm, e5, e6, e7, fun _ => a15.trans t4.symm⟩
    · rw [if_neg (fun q => z q.2)] at a9 a10 a15
      rw [if_neg (fun q => z q.2.2)] at t2 t3 t4
      exact ⟨e1, e2, (a9.trans e3).trans t2.symm, fun q1 q2 => (a10.trans (e4 (fun q => q1 (t2.trans q)) (fun q => q2 (t2.trans q)))).trans t3.symm, e5, e6, e7, fun q => (a15.trans (e8 (t2.symm.trans q))).trans t4.symm⟩
  · have a14 : ma (mm_A (mm_A (mm_A (mm_A M 9 b 3) 10 b (nI st)) 15 b (nI (tt_ca T 3 (nI st)))) 14 st (nI (tt_ca T 3 (nI st)) + 1)) 14 st' = if 14 = 14 ∧ st' = st then nI (tt_ca T 3 (nI st)) + 1 else ma M 14 st' := rfl
    have h0 : ∀ sp, tt_at (tt_I T 1 4 b (nI (tt_ca T 3 (nI st)))) 3 sp b = false := fun sp => decide_eq_false (fun z => by
      have z1 : ti T 1 2 b = 3 := z.1
      rw [h2] at z1
      exact absurd z1 (by decide))
    by_cases z : st' = st
    · subst z
      rw [if_pos ⟨rfl, rfl⟩] at a14
      have e := tt_ca_up (T := tt_I T 1 4 b (nI (tt_ca T 3 (nI st')))) (b := b) (x1 := 3) (x2 := nI st') hb (h0 _) ⟨rfl, rfl⟩
      rw [a14, nI_1]
      exact congrArg nI e.symm
    · rw [if_neg (fun q => z q.2)] at a14
      have e := tt_ca_br (T := tt_I T 1 4 b (nI (tt_ca T 3 (nI st)))) (b := b) (x1 := 3) (x2 := nI st) (wh := 3) (sp := nI st') (h0 _) (fun q => z ((nI_eq (by omega) (by omega)).mp q.2).symm)
      exact (a14.trans (s.h st' hst')).trans (congrArg nI e.symm)
/-- a box goes through a gate -/
theorem sw_gone (s : sm T M) {b : Nat} (h2 : ti T 1 2 b = 2) {g : Int32} : sm (tt_db (tt_br T b 4 g) b) (mm_A (mm_A (mm_A M 9 b 4) 10 b g) 12 b (-1)) := by
  refine ⟨s.i, s.s, fun b' hb' => ?_, fun st hst => ?_, s.w, s.m, s.d, s.z, s.l, s.q⟩
  · obtain ⟨e1, e2, e3, e4, e5, e6, e7, e8⟩ := s.b b' hb'
    have a9 : ma (mm_A (mm_A (mm_A M 9 b 4) 10 b g) 12 b (-1)) 9 b' = if 9 = 9 ∧ b' = b then 4 else ma M 9 b' := rfl
    have a10 : ma (mm_A (mm_A (mm_A M 9 b 4) 10 b g) 12 b (-1)) 10 b' = if 10 = 10 ∧ b' = b then g else ma M 10 b' := rfl
    have a12 : ma (mm_A (mm_A (mm_A M 9 b 4) 10 b g) 12 b (-1)) 12 b' = if 12 = 12 ∧ b' = b then -1 else ma M 12 b' := rfl
    have t2 : ti (tt_db (tt_br T b 4 g) b) 1 2 b' = if 1 = 1 ∧ 2 = 2 ∧ b' = b then 4 else ti T 1 2 b' := rfl
    have t3 : ti (tt_db (tt_br T b 4 g) b) 1 3 b' = if 1 = 1 ∧ 3 = 3 ∧ b' = b then g else ti T 1 3 b' := rfl
    have t6 : ti (tt_db (tt_br T b 4 g) b) 1 6 b' = if 1 = 1 ∧ 6 = 6 ∧ b' = b then -1 else ti T 1 6 b' := rfl
    have t7 : ti (tt_db (tt_br T b 4 g) b) 1 7 b' = if 1 = 1 ∧ 7 = 7 ∧ b' = b then -1 else ti T 1 7 b' := rfl
    by_cases z : b' = b
    · rw [if_pos ⟨rfl, z⟩] at a9 a10 a12
      rw [if_pos ⟨rfl, rfl, z⟩] at t2 t3 t6 t7
      exact ⟨e1, e2, a9.trans t2.symm, fun _ _ => a10.trans t3.symm, e5, a12.trans t7.symm, fun q => absurd t7 q, fun q => absurd (t2.symm.trans q) (by decide)⟩
    · rw [if_neg (fun q => z q.2)] at a9 a10 a12
      rw [if_neg (fun q => z q.2.2)] at t2 t3 t6 t7
      exact ⟨e1, e2, (a9.trans e3).trans t2.symm, fun q1 q2 => (a10.trans (e4 (fun q => q1 (t2.trans q)) (fun q => q2 (t2.trans q)))).trans t3.symm, e5, (a12.trans e6).trans t7.symm, fun q => (e7 (fun w => q (t7.trans w))).trans t6.symm, fun q => e8 (t2.symm.trans q)⟩
  · have e := tt_ca_3 (T := T) (b := b) (x1 := 4) (x2 := g) (sp := nI st) (by rw [h2]; decide) (by decide)
    exact (s.h st hst).trans (congrArg nI e.symm)
/-- a truck takes a box from the apron -/
theorem sw_take (s : sm T M) {b : Nat} (h3 : ti T 1 2 b ≠ 3) {w : Int32} : sm (tt_br T b 2 w) (mm_A (mm_A M 9 b 2) 10 b w) := by
  refine ⟨s.i, s.s, fun b' hb' => ?_, fun st hst => ?_, s.w, s.m, s.d, s.z, s.l, s.q⟩
  · obtain ⟨e1, e2, e3, e4, e5, e6, e7, e8⟩ := s.b b' hb'
    have a9 : ma (mm_A (mm_A M 9 b 2) 10 b w) 9 b' = if 9 = 9 ∧ b' = b then 2 else ma M 9 b' := rfl
    have a10 : ma (mm_A (mm_A M 9 b 2) 10 b w) 10 b' = if 10 = 10 ∧ b' = b then w else ma M 10 b' := rfl
    have t2 : ti (tt_br T b 2 w) 1 2 b' = if 1 = 1 ∧ 2 = 2 ∧ b' = b then 2 else ti T 1 2 b' := rfl
    have t3 : ti (tt_br T b 2 w) 1 3 b' = if 1 = 1 ∧ 3 = 3 ∧ b' = b then w else ti T 1 3 b' := rfl
    by_cases z : b' = b
    · rw [if_pos ⟨rfl, z⟩] at a9 a10
      rw [if_pos ⟨rfl, rfl, z⟩] at t2 t3
      exact ⟨e1, e2, a9.trans t2.symm, fun _ _ => a10.trans t3.symm, e5, e6, e7, fun q => absurd (t2.symm.trans q) (by decide)⟩
    · rw [if_neg (fun q => z q.2)] at a9 a10
      rw [if_neg (fun q => z q.2.2)] at t2 t3
      exact ⟨e1, e2, (a9.trans e3).trans t2.symm, fun q1 q2 => (a10.trans (e4 (fun q => q1 (t2.trans q)) (fun q => q2 (t2.trans q)))).trans t3.symm, e5, e6, e7, fun q => e8 (t2.symm.trans q)⟩
  · have e := tt_ca_3 (T := T) (b := b) (x1 := 2) (x2 := w) (sp := nI st) h3 (by decide)
    exact (s.h st hst).trans (congrArg nI e.symm)
/-- a truck takes a box from the top of a stack -/
theorem sw_takeS (s : sm T M) {b st : Nat} (hb : b < (tl T 1).length) (h3 : ti T 1 2 b = 3) (hst : st < 6) (est : ti T 1 3 b = nI st) (hl : (tl T 1).length ≤ 24) {w : Int32} : sm (tt_br T b 2 w) (mm_A (mm_A (mm_A M 14 st (nI (tt_ca T 3 (nI st)) - 1)) 9 b 2) 10 b w) := by
  refine ⟨s.i, s.s, fun b' hb' => ?_, fun st' hst' => ?_, s.w, s.m, s.d, s.z, s.l, s.q⟩
  · obtain ⟨e1, e2, e3, e4, e5, e6, e7, e8⟩ := s.b b' hb'
    have a9 : ma (mm_A (mm_A (mm_A M 14 st (nI (tt_ca T 3 (nI st)) - 1)) 9 b 2) 10 b w) 9 b' = if 9 = 9 ∧ b' = b then 2 else ma M 9 b' := rfl
    have a10 : ma (mm_A (mm_A (mm_A M 14 st (nI (tt_ca T 3 (nI st)) - 1)) 9 b 2) 10 b w) 10 b' = if 10 = 10 ∧ b' = b then w else ma M 10 b' := rfl
    have t2 : ti (tt_br T b 2 w) 1 2 b' = if 1 = 1 ∧ 2 = 2 ∧ b' = b then 2 else ti T 1 2 b' := rfl
    have t3 : ti (tt_br T b 2 w) 1 3 b' = if 1 = 1 ∧ 3 = 3 ∧ b' = b then w else ti T 1 3 b' := rfl
    by_cases z : b' = b
    · rw [if_pos ⟨rfl, z⟩] at a9 a10
      rw [if_pos ⟨rfl, rfl, z⟩] at t2 t3
      exact ⟨e1, e2, a9.trans t2.symm, fun _ _ => a10.trans t3.symm, e5, e6, e7, fun q => absurd (t2.symm.trans q) (by decide)⟩
    · rw [if_neg (fun q => z q.2)] at a9 a10
      rw [if_neg (fun q => z q.2.2)] at t2 t3
      exact ⟨e1, e2, (a9.trans e3).trans t2.symm, fun q1 q2 => (a10.trans (e4 (fun q => q1 (t2.trans q)) (fun q => q2 (t2.trans q)))).trans t3.symm, e5, e6, e7, fun q => e8 (t2.symm.trans q)⟩
  · have a14 : ma (mm_A (mm_A (mm_A M 14 st (nI (tt_ca T 3 (nI st)) - 1)) 9 b 2) 10 b w) 14 st' = if 14 = 14 ∧ st' = st then nI (tt_ca T 3 (nI st)) - 1 else ma M 14 st' := rfl
    by_cases z : st' = st
    · subst z
      rw [if_pos ⟨rfl, rfl⟩] at a14
      have e := tt_ca_dn (T := T) (b := b) (x1 := 2) (x2 := w) (wh := 3) (sp := nI st') hb (decide_eq_true ⟨h3, est⟩) (fun q => absurd q.1 (by decide))
      rw [a14, ← e, nI_pred]
    · rw [if_neg (fun q => z q.2)] at a14
      have e := tt_ca_br (T := T) (b := b) (x1 := 2) (x2 := w) (wh := 3) (sp := nI st') (decide_eq_false (fun q => z ((nI_eq (by omega) (by omega)).mp (q.2.symm.trans est)))) (fun q => absurd q.1 (by decide))
      exact (a14.trans (s.h st' hst')).trans (congrArg nI e.symm)
theorem iw_pd (h : iv T c) {m b : Nat} (hm : m < (tl T 2).length) : iv (tt_pd T m b) (c + 1) := by
  unfold tt_pd
  by_cases c1 : ti T 2 1 m = 1
  · rw [if_pos c1]
    exact iw_nm (iw_br (q := 3) (iw_fi4 h) (by decide) (fun q => absurd q (by decide)) (fun _ => (h.m m hm).2.1 c1)) hm
  · rw [if_neg c1]
    exact iw_nm (iw_drop (iw_br (q := 4) h (by decide) (fun q => absurd q (by decide)) (fun q => absurd q (by decide)))) hm
theorem iw_ac (h : iv T c) {w m b : Nat} (h4 : 4 ≤ w) (hw : w < 8) (hm : m < (tl T 2).length) (hk : ti T 2 1 m ≠ 0) (hno : m ∉ tl T (14 + w)) : iv (tt_ac T w m b).2 (c + 1) := by
  unfold tt_ac
  split
  · exact iw_fi (h.mono (Nat.le_succ c)) hw hm hk hno
  · split
    · split
      · have I2 := iw_pd (m := m) (b := b) h hm
        have e2 : (tl (tt_pd T m b) 2) = tl T 2 := by
          unfold tt_pd
          split
          · rfl
          · rfl
        have e14 : (tl (tt_pd T m b) (14 + w)) = tl T (14 + w) := by
          unfold tt_pd
          split
          · rfl
          · rfl
        have ek : ti (tt_pd T m b) 2 1 m = ti T 2 1 m := by
          unfold tt_pd
          split
          · rfl
          · rfl
        exact iw_fi I2 hw (by rw [e2]; exact hm) (by rw [ek]; exact hk) (by rw [e14]; exact hno)
      · exact h.mono (Nat.le_succ c)
    · split
      · exact (iw_br (q := 2) h (by decide) (fun q => absurd q (by decide)) (fun q => absurd q (by decide))).mono (Nat.le_succ c)
      · exact h.mono (Nat.le_succ c)
theorem iw_act (I : iv T c) {x : Int32} : iv (tq_act T x).2.2 (c + 1) := by
  unfold tq_act
  cases hx : tt_tx x with
  | zero => exact I.mono (Nat.le_succ c)
  | succ w =>
    have hx' := hx
    unfold tt_tx at hx'
    by_cases c4 : tt_ix x 8 ≤ 4
    · rw [if_pos c4] at hx'
      exact absurd hx' (by omega)
    · rw [if_neg c4] at hx'
      obtain ⟨hw, -⟩ := tt_ix_eq (by decide) hx'
      have h4 : 4 ≤ w := by omega
      cases hq : tr T 3 7 w with
      | zero => simp only [hq]; exact I.mono (Nat.le_succ c)
      | succ m =>
        simp only [hq]
        obtain ⟨hm, hno⟩ := (I.r w hw m).2 h4 hq
        exact iw_ac I h4 hw hm (((I.k w h4 hw).2 m).2 hq) hno
end SX
section TYI
variable {t0 m9 y c : Nat} {S : qs_S} {T : tt_T} {H : Nat → Nat} {M : mm_M} {post : Int32 → qs_S → Prop}
theorem cy_puts (h : tx_M S y H M) (s : sm T M) (I : iv T c) {m b : Nat} (hm : m < (tl T 2).length) (hb : tr T 2 2 m = b + 1) (hbv : b < (tl T 1).length) (hk : ti T 2 1 m ≠ 0) (h2 : ti T 1 2 b = 2) (h1 : tt_cp T m b → ∀ S' M', tx_M S' y H M' → tx_J t0 S S' → mi M' 0 = mi M 0 → sm (tt_pd T m b) M' → post 1 S') (h0 : ¬ tt_cp T m b → post 0 S) : wp_X7_puts t0 m9 post S y (nI m) := by
  have hl := I.n.2.2
  have hl1 := I.n.2.1
  have m80 : m < 80 := by omega
  have b24 : b < 24 := by omega
  have sb := s.b b hbv
  have sm' := s.m m hm
  obtain ⟨hr, kr, hh, hh5, -⟩ := I.t
  have eb : ma M 20 m = nI b := by
    rw [sm'.2.1, hb, Nat.add_sub_cancel]
  have b90 : ¬ (ti T 2 1 m = 1 ∧ tt_cp T m b) → wp_X7_puts_b90 t0 m9 post S y (nI m) (nI b) := by
    intro hn
    refine ⟨h.y7, h.rA (k := 19) (i := m) rfl ?_ m80⟩
    rw [sm'.1]
    refine ⟨fun z => h0 (fun q => ?_), fun z => h.rA (k := 12) (i := b) rfl (h.rI (k := 1) ?_) b24⟩
    · rcases (I.m m hm).1 with w | w | w
      · exact hk w
      · exact hn ⟨w, q⟩
      · exact z w
    have ne1 : ¬ ti T 2 1 m = 1 := by
      rw [z]
      decide
    rw [sb.2.2.2.2.2.1, s.i.1]
    refine ⟨fun q => h0 (fun r => ?_), fun q => h.rA (k := 13) (i := b) rfl (h.rA (k := 21) (i := m) rfl ?_ m80) b24⟩
    · unfold tt_cp at r
      rw [if_neg ne1] at r
      exact q r.2
    have n7 : ti T 1 7 b ≠ -1 := by
      rw [q, hh]
      exact ps_ne1 (by omega)
    rw [sb.2.2.2.2.2.2.1 n7, sm'.2.2.1]
    refine ⟨fun q6 => h0 (fun r => ?_), fun q6 => ?_⟩
    · unfold tt_cp at r
      rw [if_neg ne1] at r
      exact q6 r.1
    have hcp : tt_cp T m b := by
      unfold tt_cp
      rw [if_neg ne1]
      exact ⟨q6, q⟩
    obtain ⟨r1, k1⟩ := h.wA (k := 9) (x := nI b) (i := b) (v := 4) t0 rfl b24
    have e21 : ma (mm_A M 9 b 4) 21 m = ti T 2 3 m := sm'.2.2.1
    obtain ⟨r2, k2⟩ := r1.wA (k := 10) (x := nI b) (i := b) (v := ti T 2 3 m) t0 rfl b24
    obtain ⟨r3, k3⟩ := r2.wA (k := 12) (x := nI b) (i := b) (v := -1) t0 rfl b24
    refine ⟨_, h.ar 9, h.hk 9, h.vp (k := 9) rfl b24, _, r1.ar 10, r1.rA (k := 21) (i := m) rfl ?_ m80⟩
    rw [e21]
    refine ⟨r1.hk 10, r1.vp (k := 10) rfl b24, _, r2.ar 12, r2.hk 12, r2.vp (k := 12) rfl b24, cy_makes r3 m80 (fun S4 r4 k4 => h1 hcp _ _ r4 (((k1.tr k2).tr k3).tr k4) rfl ?_)⟩
    have := sw_nm (sw_gone s h2 (g := ti T 2 3 m)) hm
    unfold tt_pd
    rw [if_neg ne1]
    exact this
  refine ⟨h.y7, h.rA (k := 20) (i := m) rfl ?_ m80⟩
  rw [eb]
  refine h.rA (k := 19) (i := m) rfl ?_ m80
  rw [sm'.1]
  refine ⟨fun z => b90 (fun q => z q.1), fun z => ⟨_, h.ar 14, h.rA (k := 21) (i := m) rfl ?_ m80⟩⟩
  rw [sm'.2.2.1]
  obtain ⟨st, hst, est⟩ := (I.m m hm).2.1 z
  have hcp : tt_cp T m b ↔ tt_ca T 3 (nI st) < 4 := by
    unfold tt_cp
    rw [if_pos z, est]
  have hca : tt_ca T 3 (nI st) ≤ 24 := Nat.le_trans (tt_ct_le _ _) hl1
  rw [est]
  refine h.rB (k := 14) (i := st) rfl ?_ hst
  rw [s.h st hst]
  refine ⟨fun q => b90 (fun r => ?_), fun q => ?_⟩
  · have := (nI_leI (a := 4) (by decide) (by omega)).mp q
    have := hcp.mp r.2
    omega
  have hlt : tt_ca T 3 (nI st) < 4 := by
    rcases Nat.lt_or_ge (tt_ca T 3 (nI st)) 4 with w | w
    · exact w
    · exact absurd (nI_le (a := 4) w (by omega)) q
  obtain ⟨r1, k1⟩ := h.wA (k := 9) (x := nI b) (i := b) (v := 3) t0 rfl b24
  have e21 : ma (mm_A M 9 b 3) 21 m = nI st := sm'.2.2.1.trans est
  obtain ⟨r2, k2⟩ := r1.wA (k := 10) (x := nI b) (i := b) (v := nI st) t0 rfl b24
  have e21b : ma (mm_A (mm_A M 9 b 3) 10 b (nI st)) 21 m = nI st := sm'.2.2.1.trans est
  have e14 : ma (mm_A (mm_A M 9 b 3) 10 b (nI st)) 14 st = nI (tt_ca T 3 (nI st)) := s.h st hst
  obtain ⟨r3, k3⟩ := r2.wA (k := 15) (x := nI b) (i := b) (v := nI (tt_ca T 3 (nI st))) t0 rfl b24
  have e21c : ma (mm_A (mm_A (mm_A M 9 b 3) 10 b (nI st)) 15 b (nI (tt_ca T 3 (nI st)))) 21 m = nI st := sm'.2.2.1.trans est
  have e14c : ma (mm_A (mm_A (mm_A M 9 b 3) 10 b (nI st)) 15 b (nI (tt_ca T 3 (nI st)))) 14 st = nI (tt_ca T 3 (nI st)) := s.h st hst
  refine ⟨_, h.ar 9, h.hk 9, h.vp (k := 9) rfl b24, _, r1.ar 10, r1.rA (k := 21) (i := m) rfl ?_ m80⟩
  rw [e21]
  refine ⟨r1.hk 10, r1.vp (k := 10) rfl b24, _, r2.ar 15, _, r2.ar 14, r2.rA (k := 21) (i := m) rfl ?_ m80⟩
  rw [e21b]
  refine r2.rB (k := 14) (i := st) rfl ?_ hst
  rw [e14]
  refine ⟨r2.hk 15, r2.vp (k := 15) rfl b24, _, r3.ar 14, r3.rA (k := 21) (i := m) rfl ?_ m80⟩
  rw [e21c]
  refine r3.rB (k := 14) (i := st) rfl (fun v108 e108 => ⟨r3.vp (k := 14) rfl hst, ?_⟩) hst
  rw [e14c] at e108
  obtain ⟨r4, k4⟩ := r3.wA (k := 14) (x := nI st) (i := st) (v := v108) t0 rfl hst
  rw [e108] at r4 k4 ⊢
  refine cy_makes r4 m80 (fun S5 r5 k5 => h1 (hcp.mpr hlt) _ _ r5 ((((k1.tr k2).tr k3).tr k4).tr k5) rfl ?_)
  have := sw_nm (sw_stack s hbv h2 hst) hm
  unfold tt_pd
  rw [if_pos z, est]
  exact this
theorem cm_act (h : tx_M S y H M) (s : sm T M) (I : iv T c) (hc : c + 1 < 2 ^ 30) {x : Int32} (hp : ty_H cA post t0 S y H (tq_act T x)) : wp_X7_act t0 m9 post S y x := by
  have hl := I.n.2.2
  have hl1 := I.n.2.1
  unfold tq_act at hp
  refine cy_isTruck (fun w h4 hw e => ⟨fun q => absurd q (by decide), fun _ => ?_⟩) (fun z => ⟨fun _ => ?_, fun q => absurd rfl q⟩)
  · rw [e, tt_tx_in h4 hw] at hp
    rw [e]
    obtain ⟨r, k⟩ := h.wI (k := 0) (v := 0) t0
    have s0 : sm T (mm_I M 0 0) := s.th
    refine ⟨h.y7, r.y7, r.r0 ⟨fun q => absurd q (by decide), fun _ => r.rA (k := 34) (i := w) rfl ?_ hw⟩⟩
    rw [(s0.w w hw).2.2.2.2.2 h4]
    cases hq : tr T 3 7 w with
    | zero =>
      simp only [hq] at hp
      exact ⟨fun q => absurd rfl q, fun _ => hp _ _ _ r k rfl (fun _ => rfl) s0⟩
    | succ m =>
      simp only [hq] at hp
      obtain ⟨hm, hno⟩ := (I.r w hw m).2 h4 hq
      have m80 : m < 80 := by omega
      have hk := ((I.k w h4 hw).2 m).2 hq
      obtain ⟨b, hbv, hb⟩ := I.h.2.2.1 m hm
      have b24 : b < 24 := by omega
      have sb := s0.b b hbv
      have sm' := s0.m m hm
      have eb : ma (mm_I M 0 0) 20 m = nI b := by
        rw [sm'.2.1, hb, Nat.add_sub_cancel]
      have ebx : tt_bx T m = b := by
        show tr T 2 2 m - 1 = b
        rw [hb, Nat.add_sub_cancel]
      rw [ebx] at hp
      have hp' : ∀ S' M', tx_M S' y H M' → tx_J t0 (qs_wI S 0 y 0) S' → mi M' 0 = 0 → sm (tt_ac T w m b).2 M' → post (tt_ac T w m b).1 S' := fun S' M' r' k' z' s' => hp S' M' _ r' (k.tr k') z' (fun _ => rfl) s'
      unfold tt_ac at hp'
      refine ⟨fun _ => r.rA (k := 34) (i := w) rfl ?_ hw, fun q => absurd q (ps_ne1 (by omega))⟩
      rw [(s0.w w hw).2.2.2.2.2 h4, hq]
      show ∃ q99 : Nat, _
      refine r.rA (k := 20) (i := m) rfl ?_ m80
      rw [eb]
      refine r.rA (k := 9) (i := b) rfl ?_ b24
      rw [sb.2.2.1]
      have fin : tt_nd T m b → wp_X7_act_b97 t0 m9 post (qs_wI S 0 y 0) y (nI w) (nI m) := by
        intro hn
        rw [if_pos hn] at hp'
        exact ⟨r.y7, cy_finishes r s0 I (by omega) h4 hw hm hk hno hp'⟩
      have b104 : ¬ tt_nd T m b → wp_X7_act_b104 t0 m9 post (qs_wI S 0 y 0) y (nI w) (nI m) (nI b) := by
        intro hn
        rw [if_neg hn] at hp'
        have b143 : ¬ (ti T 1 2 b = 2 ∧ ti T 1 3 b = nI w) → wp_X7_act_b143 t0 m9 post (qs_wI S 0 y 0) y (nI w) (nI b) := by
          intro hn2
          rw [if_neg hn2] at hp'
          have no : ¬ tt_tk' T w b → post 3 (qs_wI S 0 y 0) := by
            intro q
            rw [if_neg q] at hp'
            exact hp' _ _ r tx_J.rf rfl s0
          have b171 : tt_tk' T w b → wp_X7_act_b171 t0 m9 post (qs_wI S 0 y 0) y (nI w) (nI b) := by
            intro q
            rw [if_pos q] at hp'
            refine ⟨r.y7, r.rA (k := 9) (i := b) rfl ?_ b24⟩
            rw [sb.2.2.1]
            refine ⟨fun q3 => ?_, fun q3 => ⟨_, r.ar 14, r.rA (k := 10) (i := b) rfl ?_ b24⟩⟩
            · obtain ⟨r1, k1⟩ := r.wA (k := 9) (x := nI b) (i := b) (v := 2) t0 rfl b24
              obtain ⟨r2, k2⟩ := r1.wA (k := 10) (x := nI b) (i := b) (v := nI w) t0 rfl b24
              exact ⟨r.y7, _, r.ar 9, r.hk 9, r.vp (k := 9) rfl b24, _, r1.ar 10, r1.hk 10, r1.vp (k := 10) rfl b24, hp' _ _ r2 (k1.tr k2) rfl (sw_take s0 q3)⟩
            · obtain ⟨st, hst, est⟩ := (I.b b hbv).2.2.2.1 q3
              rw [sb.2.2.2.1 (by rw [q3]; decide) (by rw [q3]; decide), est]
              refine r.rB (k := 14) (i := st) rfl (fun v35 e35 => ⟨r.vp (k := 14) rfl hst, ?_⟩) hst
              rw [s0.h st hst] at e35
              obtain ⟨r0, k0⟩ := r.wA (k := 14) (x := nI st) (i := st) (v := v35) t0 rfl hst
              rw [e35] at r0 k0 ⊢
              obtain ⟨r1, k1⟩ := r0.wA (k := 9) (x := nI b) (i := b) (v := 2) t0 rfl b24
              obtain ⟨r2, k2⟩ := r1.wA (k := 10) (x := nI b) (i := b) (v := nI w) t0 rfl b24
              exact ⟨r0.y7, _, r0.ar 9, r0.hk 9, r0.vp (k := 9) rfl b24, _, r1.ar 10, r1.hk 10, r1.vp (k := 10) rfl b24, hp' _ _ r2 ((k0.tr k1).tr k2) rfl (sw_takeS s0 hbv q3 hst est hl1)⟩
          refine ⟨r.y7, cy_isEmpty r s0 I (fun e0 => ⟨fun q => absurd q (by decide), fun _ => ⟨r.y7, r.rA (k := 9) (i := b) rfl ?_ b24⟩⟩) (fun e0 => ⟨fun _ => no (fun q => e0 q.2), fun q => absurd rfl q⟩)⟩
          rw [sb.2.2.1]
          exact ⟨fun q => b171 ⟨Or.inl q, e0⟩, fun q => cy_isUppermost r s0 I hbv (fun u => ⟨fun _ => b171 ⟨Or.inr u, e0⟩, fun z => absurd z (by decide)⟩) (fun u => ⟨fun z => absurd rfl z, fun _ => no (fun z => z.1.elim q u)⟩)⟩
        refine ⟨r.y7, r.rA (k := 9) (i := b) rfl ?_ b24⟩
        rw [sb.2.2.1]
        refine ⟨fun q => b143 (fun z => q z.1), fun q2 => r.rA (k := 10) (i := b) rfl ?_ b24⟩
        rw [sb.2.2.2.1 (by rw [q2]; decide) (by rw [q2]; decide)]
        refine ⟨fun q => b143 (fun z => q z.2), fun q3 => ?_⟩
        rw [if_pos ⟨q2, q3⟩] at hp'
        refine cy_puts r s0 I hm hb hbv hk q2 (fun hcp S1 M1 r1 k1 z1 s1 => ⟨fun q => absurd q (by decide), fun _ => ⟨r1.y7, ?_⟩⟩) (fun hcp => ⟨fun _ => ?_, fun q => absurd rfl q⟩)
        · rw [if_pos hcp] at hp'
          have I1 := iw_pd (m := m) (b := b) I hm
          have e2 : (tl (tt_pd T m b) 2) = tl T 2 := by
            unfold tt_pd
            split
            · rfl
            · rfl
          have e14 : (tl (tt_pd T m b) (14 + w)) = tl T (14 + w) := by
            unfold tt_pd
            split
            · rfl
            · rfl
          have ek : ti (tt_pd T m b) 2 1 m = ti T 2 1 m := by
            unfold tt_pd
            split
            · rfl
            · rfl
          exact cy_finishes r1 s1 I1 hc h4 hw (by rw [e2]; exact hm) (by rw [ek]; exact hk) (by rw [e14]; exact hno) (fun S' M' r' k' z' s' => hp' S' M' r' (k1.tr k') (z'.trans z1) s')
        · rw [if_neg hcp] at hp'
          exact hp' _ _ r tx_J.rf rfl s0
      refine ⟨fun q => fin (Or.inl q), fun q4 => r.rA (k := 19) (i := m) rfl ?_ m80⟩
      rw [sm'.1]
      refine ⟨fun q => b104 (fun z => z.elim q4 (fun z => q z.1)), fun q1 => r.rA (k := 9) (i := b) rfl ?_ b24⟩
      rw [sb.2.2.1]
      refine ⟨fun q => b104 (fun z => z.elim q4 (fun z => q z.2.1)), fun q3 => r.rA (k := 10) (i := b) rfl (r.rA (k := 21) (i := m) rfl ?_ m80) b24⟩
      rw [sb.2.2.2.1 (by rw [q3]; decide) (by rw [q3]; decide), sm'.2.2.1]
      exact ⟨fun q => b104 (fun z => z.elim q4 (fun z => q z.2.2)), fun q => fin (Or.inr ⟨q1, q3, q⟩)⟩
  · rw [z] at hp
    obtain ⟨r, k⟩ := h.wI (k := 0) (v := 1) t0
    exact ⟨h.y7, r.y7, r.r0 ⟨fun _ => hp _ _ _ r k rfl (fun q => absurd (show (1 : Nat) = 0 from q) (by decide)) s.th, fun q => absurd (by decide) q⟩⟩
end TYI
