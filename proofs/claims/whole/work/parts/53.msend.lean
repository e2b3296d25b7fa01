/-! ===== a repeat, what is given away, what is sent, in the reference ===== -/
theorem mm_Q.nil {M : mm_M} {w : Nat} : mm_Q M (mm_A M 29 w 0) w [] := by
  refine ⟨fun i => if i = w then 0 else ma M 29 i, ma M 30, ?_, fun i hi => if_neg hi, fun _ _ => rfl, ?_, fun k hk => absurd hk (Nat.not_lt_zero _)⟩
  · rw [← mm_R_A29, mm_R_self]
  · show (if w = w then (0 : Int32) else _) = nI 0
    rw [if_pos rfl]
    exact nI_0.symm
theorem mm_Q.I {M M' : mm_M} {w : Nat} {l : List Nat} (h : mm_Q M M' w l) {k : Nat} {v : Int32} : mm_Q (mm_I M k v) (mm_I M' k v) w l := by
  obtain ⟨a, b, rfl, h1, h2, h3, h4⟩ := h
  exact ⟨a, b, rfl, h1, h2, h3, h4⟩
theorem mm_Q.off {M M' : mm_M} {w : Nat} {l : List Nat} (h : mm_Q M M' w l) {w' k : Nat} (hne : w' ≠ w) (hk : k < 80) : ma M' 29 w' = ma M 29 w' ∧ ma M' 30 (80 * w' + k) = ma M 30 (80 * w' + k) := by
  obtain ⟨a, b, rfl, h1, h2, h3, h4⟩ := h
  exact ⟨h1 w' hne, h2 _ (by omega)⟩
theorem mm_Q.self {M : mm_M} {w : Nat} {l : List Nat} (hl : ma M 29 w = nI l.length ∧ ∀ k, k < l.length → ma M 30 (80 * w + k) = nI (l.getD k 0)) : mm_Q M M w l := ⟨ma M 29, ma M 30, mm_R_self.symm, fun _ _ => rfl, fun _ _ => rfl, hl.1, hl.2⟩
/-- f is the first of the best below hi: 0 none, w + 1 -/
def bs_P (len : Nat → Nat) (cd : Nat → Prop) (f : Nat) : Prop := (f = 0 ∧ ∀ w, ¬ cd w) ∨ ∃ w, f = w + 1 ∧ cd w ∧ ∀ w', cd w' → len w ≤ len w' ∧ (len w' = len w → w ≤ w')
theorem bs_un {len : Nat → Nat} {cd : Nat → Prop} {f g : Nat} (hf : bs_P len cd f) (hg : bs_P len cd g) : f = g := by
  rcases hf with ⟨rfl, h⟩ | ⟨w, rfl, h1, h2⟩ <;> rcases hg with ⟨rfl, k⟩ | ⟨w', rfl, k1, k2⟩
  · rfl
  · exact absurd k1 (h w')
  · exact absurd h1 (k w)
  · have a := h2 w' k1
    have b := k2 w h1
    have e : len w = len w' := Nat.le_antisymm a.1 b.1
    have := a.2 e.symm
    have := b.2 e
    omega
section SS
variable {T : tt_T} {M : mm_M} {c : Nat}
theorem bs_up {k : Int32} : ∀ n, bs_P (fun w => (tl T (6 + w)).length) (fun w => w < n ∧ tt_isF k (nI w) ∧ ti T 3 5 w = 0) (tt_bs T k n)
  | 0 => Or.inl ⟨rfl, fun w h => absurd h.1 (Nat.not_lt_zero _)⟩
  | n + 1 => by
    have ih := bs_up (k := k) n
    unfold tt_bs
    by_cases c1 : tt_isF k (nI n) ∧ ti T 3 5 n = 0 ∧ (tt_bs T k n = 0 ∨ (tl T (6 + n)).length < (tl T (6 + (tt_bs T k n - 1))).length)
    · rw [if_pos c1]
      refine Or.inr ⟨n, rfl, ⟨Nat.lt_succ_self n, c1.1, c1.2.1⟩, fun w' h' => ?_⟩
      by_cases z : w' = n
      · rw [z]
        exact ⟨Nat.le_refl _, fun _ => Nat.le_refl _⟩
      have h'' : w' < n ∧ tt_isF k (nI w') ∧ ti T 3 5 w' = 0 := ⟨by have := h'.1; omega, h'.2⟩
      rcases ih with ⟨e, h⟩ | ⟨w, e, h1, h2⟩
      · exact absurd h'' (h w')
      · have c3 := c1.2.2
        rw [e, Nat.add_sub_cancel] at c3
        have c4 : (tl T (6 + n)).length < (tl T (6 + w)).length := c3.resolve_left (by omega)
        have := (h2 w' h'').1
        have h5 : (tl T (6 + w)).length ≤ (tl T (6 + w')).length := this
        exact ⟨Nat.le_of_lt (Nat.lt_of_lt_of_le c4 h5), fun q => by
          have q' : (tl T (6 + w')).length = (tl T (6 + n)).length := q
          omega⟩
    · rw [if_neg c1]
      rcases ih with ⟨e, h⟩ | ⟨w, e, h1, h2⟩
      · refine Or.inl ⟨e, fun w' h' => ?_⟩
        by_cases z : w' = n
        · rw [z] at h'
          exact c1 ⟨h'.2.1, h'.2.2, Or.inl e⟩
        · exact h w' ⟨by have := h'.1; omega, h'.2⟩
      · refine Or.inr ⟨w, e, ⟨by have := h1.1; omega, h1.2⟩, fun w' h' => ?_⟩
        by_cases z : w' = n
        · rw [z] at h' ⊢
          have c5 : ¬ (tl T (6 + n)).length < (tl T (6 + w)).length := fun q => c1 ⟨h'.2.1, h'.2.2, Or.inr (by rw [e, Nat.add_sub_cancel]; exact q)⟩
          have := h1.1
          exact ⟨Nat.le_of_not_lt c5, fun _ => by omega⟩
        · exact h2 w' ⟨by have := h'.1; omega, h'.2⟩
def tt_ff (k : Int32) : Nat := if k = 0 then 0 else 4
theorem tt_ff_le {k : Int32} : tt_ff k ≤ 4 := by
  unfold tt_ff
  split <;> omega
theorem tt_isF_iff {k : Int32} {w : Nat} (hw : w < 8) : tt_isF k (nI w) ↔ tt_ff k ≤ w ∧ w < tt_ff k + 4 := by
  have h4 : nI w < 4 ↔ w < 4 := nI_ltI (b := 4) (by omega) (by decide)
  have h8 : (8 : Int32) ≤ nI w ↔ 8 ≤ w := nI_leI (a := 8) (by decide) (by omega)
  have h4' : (4 : Int32) ≤ nI w ↔ 4 ≤ w := nI_leI (a := 4) (by decide) (by omega)
  have h0 : ¬ nI w < 0 := nI_pos (by omega)
  unfold tt_isF tt_ff
  by_cases z : k = 0
  · rw [if_pos z, h4']
    exact ⟨fun q => q.elim (fun q => ⟨by omega, by omega⟩) (fun q => absurd z q.1), fun q => Or.inl ⟨z, h0, by omega⟩⟩
  · rw [if_neg z, h4, h8]
    exact ⟨fun q => q.elim (fun q => absurd q.1 z) (fun q => ⟨by omega, by omega⟩), fun q => Or.inr ⟨z, by omega, by omega⟩⟩
/-- what the reference finds among the last j of the four workers -/
def bs_D (T : tt_T) (k : Int32) (i f : Nat) : Prop := bs_P (fun w => (tl T (6 + w)).length) (fun w => i ≤ w ∧ w < tt_ff k + 4 ∧ ti T 3 5 w = 0) f
theorem bs_fin {k : Int32} {f : Nat} (h : bs_D T k (tt_ff k) f) : f = tt_bs T k 8 := by
  refine bs_un (len := fun w => (tl T (6 + w)).length) (cd := fun w => w < 8 ∧ tt_isF k (nI w) ∧ ti T 3 5 w = 0) ?_ (bs_up 8)
  have hk := tt_ff_le (k := k)
  have e : ∀ w, (w < 8 ∧ tt_isF k (nI w) ∧ ti T 3 5 w = 0) ↔ (tt_ff k ≤ w ∧ w < tt_ff k + 4 ∧ ti T 3 5 w = 0) := fun w => ⟨fun q => ⟨((tt_isF_iff q.1).mp q.2.1).1, ((tt_isF_iff q.1).mp q.2.1).2, q.2.2⟩, fun q => ⟨by omega, (tt_isF_iff (by omega)).mpr ⟨q.1, q.2.1⟩, q.2.2⟩⟩
  rcases h with ⟨h0, h⟩ | ⟨w, h0, h1, h2⟩
  · exact Or.inl ⟨h0, fun w q => h w ((e w).mp q)⟩
  · exact Or.inr ⟨w, h0, (e w).mpr h1, fun w' q => h2 w' ((e w').mp q)⟩
theorem bs_step {k : Int32} {i f : Nat} (hi : i < tt_ff k + 4) (h : bs_D T k (i + 1) f) : bs_D T k i (if ti T 3 5 i = 0 ∧ (f = 0 ∨ (tl T (6 + i)).length ≤ (tl T (6 + (f - 1))).length) then i + 1 else f) := by
  by_cases c1 : ti T 3 5 i = 0 ∧ (f = 0 ∨ (tl T (6 + i)).length ≤ (tl T (6 + (f - 1))).length)
  · rw [if_pos c1]
    refine Or.inr ⟨i, rfl, ⟨Nat.le_refl _, hi, c1.1⟩, fun w' h' => ?_⟩
    by_cases z : w' = i
    · rw [z]
      exact ⟨Nat.le_refl _, fun _ => Nat.le_refl _⟩
    have h'' : i + 1 ≤ w' ∧ w' < tt_ff k + 4 ∧ ti T 3 5 w' = 0 := ⟨by have := h'.1; omega, h'.2⟩
    refine ⟨?_, fun _ => h'.1⟩
    rcases h with ⟨e, h⟩ | ⟨w, e, h1, h2⟩
    · exact absurd h'' (h w')
    · have c3 := c1.2
      rw [e, Nat.add_sub_cancel] at c3
      exact Nat.le_trans (c3.resolve_left (by omega)) (h2 w' h'').1
  · rw [if_neg c1]
    rcases h with ⟨e, h⟩ | ⟨w, e, h1, h2⟩
    · refine Or.inl ⟨e, fun w' h' => ?_⟩
      by_cases z : w' = i
      · rw [z] at h'
        exact c1 ⟨h'.2.2, Or.inl e⟩
      · exact h w' ⟨by have := h'.1; omega, h'.2⟩
    · refine Or.inr ⟨w, e, ⟨by have := h1.1; omega, h1.2⟩, fun w' h' => ?_⟩
      by_cases z : w' = i
      · rw [z] at h' ⊢
        have c5 : ¬ (tl T (6 + i)).length ≤ (tl T (6 + w)).length := fun q => c1 ⟨h'.2.2, Or.inr (by rw [e, Nat.add_sub_cancel]; exact q)⟩
        exact ⟨Nat.le_of_not_le c5, fun q => by
          have q' : (tl T (6 + i)).length = (tl T (6 + w)).length := q
          omega⟩
      · exact h2 w' ⟨by have := h'.1; omega, h'.2⟩
/-- a new message -/
theorem iw_msg (h : iv T c) {k t : Int32} {b : Nat} (hk : k = 0 ∨ k = 1 ∨ k = 2) (ht : k = 1 → ∃ s, s < 6 ∧ t = nI s) (hb : b < (tl T 1).length) (hn : (tl T 2).length < 80) : iv (tt_N T 2 (tt_mv (tl T 2).length k t) (fun _ => b + 1)) c := by
  have e2 : (tl (tt_N T 2 (tt_mv (tl T 2).length k t) (fun _ => b + 1)) 2).length = (tl T 2).length + 1 := tt_NlS
  obtain ⟨i1, i2, i3, i4⟩ := iv_lwrk (T' := tt_N T 2 (tt_mv (tl T 2).length k t) (fun _ => b + 1)) h (fun j hj => tt_Nl (by decide) (by omega)) (by rw [e2]; omega) (fun _ _ => rfl) (fun m hm => tt_Ni hm)
  obtain ⟨hr, mk', t1, t2, t3, t4, t5⟩ := h.t
  refine ⟨tt_N_g (by decide) h.g, ⟨h.h.1, fun i hi => ?_, fun i hi => ?_, h.h.2.2.2⟩, ⟨h.n.1, h.n.2.1, by rw [e2]; omega⟩, i1, i2, i3, i4, h.b, ⟨hr, mk', t1, t2, t3, t4, fun m hm => ?_⟩, h.s, fun m hm => ?_, h.f⟩
  · rw [e2] at hi
    by_cases z : i = (tl T 2).length
    · subst z
      exact if_pos ⟨rfl, rfl⟩
    · rw [tt_Ni (by omega)]
      exact h.h.2.1 i (by omega)
  · rw [e2] at hi
    by_cases z : i = (tl T 2).length
    · subst z
      exact ⟨b, hb, if_pos ⟨rfl, rfl⟩⟩
    · rw [tt_Nr (by omega)]
      exact h.h.2.2.1 i (by omega)
  · rw [e2] at hm
    by_cases z : m = (tl T 2).length
    · subst z
      exact Or.inl (if_pos ⟨rfl, rfl⟩)
    · rw [tt_Ni (by omega)]
      exact t5 m (by omega)
  · rw [e2] at hm
    by_cases z : m = (tl T 2).length
    · subst z
      have m1 : ti (tt_N T 2 (tt_mv (tl T 2).length k t) (fun _ => b + 1)) 2 1 (tl T 2).length = k := if_pos ⟨rfl, rfl⟩
      have m3 : ti (tt_N T 2 (tt_mv (tl T 2).length k t) (fun _ => b + 1)) 2 3 (tl T 2).length = t := if_pos ⟨rfl, rfl⟩
      rw [m1, m3]
      refine ⟨hk, ht, fun q => ?_⟩
      have := (h.l 3 (Or.inl rfl) (by omega)).2 _ q
      omega
    · rw [tt_Ni (by omega), tt_Ni (by omega), tt_Ni (by omega)]
      exact h.m m (by omega)
theorem sw_msg (s : sm T M) (I : iv T c) (hn : (tl T 2).length < 80) {k t : Int32} {b : Nat} : sm (tt_N T 2 (tt_mv (tl T 2).length k t) (fun _ => b + 1)) (mm_I (mm_A (mm_A (mm_A M 19 (tl T 2).length k) 20 (tl T 2).length (nI b)) 21 (tl T 2).length t) 18 (nI (tl T 2).length + 1)) := by
  have e2 : (tl (tt_N T 2 (tt_mv (tl T 2).length k t) (fun _ => b + 1)) 2).length = (tl T 2).length + 1 := tt_NlS
  have el : ∀ j, 3 ≤ j → tl (tt_N T 2 (tt_mv (tl T 2).length k t) (fun _ => b + 1)) j = tl T j := fun j hj => tt_Nl (by decide) hj
  obtain ⟨i1, i2, i3, i4, i5, i6⟩ := s.i
  refine ⟨⟨i1, i2, i3, ?_, i5, i6⟩, s.s, s.b, s.h, s.w, fun m hm => ?_, fun m hm => ?_, ⟨fun m h1 h2 => ?_, s.z.2⟩, s.l, fun w hw => ?_⟩
  · rw [e2, ← nI_1]
    rfl
  · rw [e2] at hm
    by_cases z : m = (tl T 2).length
    · subst z
      have m1 : ti (tt_N T 2 (tt_mv (tl T 2).length k t) (fun _ => b + 1)) 2 1 (tl T 2).length = k := if_pos ⟨rfl, rfl⟩
      have m3 : ti (tt_N T 2 (tt_mv (tl T 2).length k t) (fun _ => b + 1)) 2 3 (tl T 2).length = t := if_pos ⟨rfl, rfl⟩
      have m4 : ti (tt_N T 2 (tt_mv (tl T 2).length k t) (fun _ => b + 1)) 2 4 (tl T 2).length = 0 := if_pos ⟨rfl, rfl⟩
      have m5 : ti (tt_N T 2 (tt_mv (tl T 2).length k t) (fun _ => b + 1)) 2 5 (tl T 2).length = -1 := if_pos ⟨rfl, rfl⟩
      have m6 : ti (tt_N T 2 (tt_mv (tl T 2).length k t) (fun _ => b + 1)) 2 6 (tl T 2).length = 0 := if_pos ⟨rfl, rfl⟩
      have r2 : tr (tt_N T 2 (tt_mv (tl T 2).length k t) (fun _ => b + 1)) 2 2 (tl T 2).length = b + 1 := if_pos ⟨rfl, rfl⟩
      obtain ⟨z1, z2, z3, z4⟩ := s.z.1 _ (Nat.le_refl _) hn
      rw [m1, m3, m4, m5, m6, r2]
      refine ⟨if_pos ⟨rfl, rfl⟩, if_pos ⟨rfl, rfl⟩, if_pos ⟨rfl, rfl⟩, z1, z2.trans (by decide), z3⟩
    · rw [tt_Ni (by omega), tt_Ni (by omega), tt_Ni (by omega), tt_Ni (by omega), tt_Ni (by omega), tt_Nr (by omega)]
      obtain ⟨o1, o2, o3, o4, o5, o6⟩ := s.m m (by omega)
      have nz : ∀ k : Nat, ¬ (k = k ∧ m = (tl T 2).length) := fun k q => z q.2
      exact ⟨(if_neg (nz 19)).trans o1, (if_neg (nz 20)).trans o2, (if_neg (nz 21)).trans o3, o4, o5, o6⟩
  · rw [e2] at hm
    by_cases z : m = (tl T 2).length
    · subst z
      obtain ⟨z1, z2, z3, z4⟩ := s.z.1 _ (Nat.le_refl _) hn
      refine ⟨0, by decide, z4.trans nI_0.symm, fun w hw => ?_⟩
      rw [el (14 + w) (by omega), Nat.zero_testBit, decide_eq_false]
      intro q
      have := (I.l (14 + w) (Or.inr (by omega)) (by omega)).2 _ q
      omega
    · obtain ⟨d, d1, d2, d3⟩ := s.d m (by omega)
      exact ⟨d, d1, d2, fun w hw => by rw [el (14 + w) (by omega)]; exact d3 w hw⟩
  · rw [e2] at h1
    exact s.z.1 m (by omega) h2
  · rw [el (6 + w) (by omega)]
    exact s.q w hw
theorem iw_sd (h : iv T c) {k t : Int32} {b r : Nat} (hk : k = 0 ∨ k = 1 ∨ k = 2) (ht : k = 1 → ∃ s, s < 6 ∧ t = nI s) (hb : b < (tl T 1).length) (hn : (tl T 2).length < 80) (hr : r < 8) (hr4 : 4 ≤ r → k ≠ 0) : iv (tt_sd T k t b r) c := by
  have el : ∀ j, 3 ≤ j → tl (tt_N T 2 (tt_mv (tl T 2).length k t) (fun _ => b + 1)) j = tl T j := fun j hj => tt_Nl (by decide) hj
  have e2 : (tl (tt_N T 2 (tt_mv (tl T 2).length k t) (fun _ => b + 1)) 2).length = (tl T 2).length + 1 := tt_NlS
  have := iw_join (iw_msg h hk ht hb hn) hr (m := (tl T 2).length) (by rw [e2]; omega) (fun w' hw' q => by
    rw [el (6 + w') (by omega)] at q
    have := (h.l (6 + w') (Or.inr (by omega)) (by omega)).2 _ q
    omega) (fun h4 => by
    have m1 : ti (tt_N T 2 (tt_mv (tl T 2).length k t) (fun _ => b + 1)) 2 1 (tl T 2).length = k := if_pos ⟨rfl, rfl⟩
    rw [m1]
    exact hr4 h4)
  rw [el (6 + r) (by omega)] at this
  exact this
end SS
section TYS
variable {t0 m9 y c : Nat} {S : qs_S} {T : tt_T} {H : Nat → Nat} {M : mm_M} {post : Int32 → qs_S → Prop}
theorem cy_repeatL {w m : Nat} (s : sm T M) (I : iv T c) (hw : w < 8) (hm : m < (tl T 2).length) (S0 : qs_S) (h3 : tt_isQ T m = true → ∀ S' M', tx_M S' y H M' → tx_J t0 S0 S' → mi M' 0 = 2 → sm T M' → post 0 S') (h0 : tt_isQ T m ≠ true → ∀ S' M', tx_M S' y H M' → tx_J t0 S0 S' → mi M' 0 = 0 → sm (tt_L T (6 + w) (tl T (6 + w) ++ [m])) M' → post (nI m) S') : ∀ (k i : Nat) (S : qs_S), i + k = 8 → (∀ w', w' < i → m ∉ tl T (6 + w')) → tx_M S y H (mm_I M 0 0) → tx_J t0 S0 S → wp_X7_repeat_b48 t0 m9 post (k + 2) S y (nI w) (nI m) (nI i) := by
  have hl := I.n.2.2
  have m80 : m < 80 := by omega
  have s0 : sm T (mm_I M 0 0) := s.th
  intro k
  induction k with
  | zero =>
    intro i S hi hno h hk
    have hi' : i = 8 := hi
    subst hi'
    refine ⟨fun _ => ⟨h.y7, h.r0 ⟨fun _ => ?_, fun q => absurd (by decide) q⟩⟩, fun z => absurd (by decide) z⟩
    have nq : tt_isQ T m ≠ true := fun q => by
      obtain ⟨w', hw', q⟩ := tt_isQ_iff.mp q
      exact hno w' hw' q
    refine cy_joins h hw (s0.q w hw) (I.room hw hm (hno w hw)) (fun S' M' r' k' q' => h0 nq S' M' r' (hk.tr k') (q'.mi.trans rfl) (sw_q s0 I.lw hw q'))
  | succ k ih =>
    intro i S hi hno h hk
    refine ⟨fun z => absurd z (nI_ge (b := 8) (by omega) (by decide)), fun _ => ⟨h.y7, h.r0 ⟨fun q => absurd rfl q, fun _ => ?_⟩⟩⟩
    refine cy_isIn h s0 I (by omega) m80 (fun q => ⟨fun z => absurd z (by decide), fun _ => ?_⟩) (fun q => ⟨fun _ => ?_, fun z => absurd rfl z⟩)
    · obtain ⟨r, k1⟩ := h.wI (k := 0) (v := 2) t0
      have er : mm_I (mm_I M 0 0) 0 2 = mm_I M 0 2 := mm_II
      rw [er] at r
      refine ⟨h.y7, fun v3 e3 => ?_⟩
      have b85 : wp_X7_repeat_b85 t0 m9 post (qs_wI S 0 y 2) y (nI w) (nI m) := ⟨r.y7, r.r0 ⟨fun q => absurd q (by decide), fun _ => h3 (tt_isQ_iff.mpr ⟨i, by omega, q⟩) _ _ r (hk.tr k1) rfl s.th⟩⟩
      exact ⟨fun _ => b85, fun _ => ⟨r.y7, r.r0 ⟨fun _ => b85, fun q => absurd q (by decide)⟩⟩⟩
    · obtain ⟨r, k1⟩ := h.wI (k := 0) (v := 0) t0
      have er : mm_I (mm_I M 0 0) 0 0 = mm_I M 0 0 := mm_II
      rw [er] at r
      refine ⟨h.y7, fun v3 e3 => ?_⟩
      rw [e3, nI_1]
      exact ih (i + 1) _ (by omega) (fun w' hw' => by
        by_cases z : w' = i
        · rw [z]; exact q
        · exact hno w' (by omega)) r (hk.tr k1)
theorem cm_repeat (h : tx_M S y H M) (s : sm T M) (I : iv T c) {x : Int32} (hp : ty_H cB post t0 S y H (tq_repeat T x)) : wp_X7_repeat t0 m9 post S y x := by
  have hl := I.n.2.2
  unfold tq_repeat at hp
  refine cy_isWorker (fun w hw e => ⟨fun q => absurd q (by decide), fun _ => ?_⟩) (fun z => ⟨fun _ => ?_, fun q => absurd rfl q⟩)
  · rw [e, tt_ix_in hw (by decide)] at hp
    rw [e]
    obtain ⟨r, k⟩ := h.wI (k := 0) (v := 0) t0
    have s0 : sm T (mm_I M 0 0) := s.th
    refine ⟨h.y7, r.y7, r.r0 ⟨fun _ => r.rA (k := 33) (i := w) rfl ?_ hw, fun q => absurd (by decide) q⟩⟩
    rw [(s0.w w hw).2.2.2.2.1]
    cases hq : tr T 3 6 w with
    | zero =>
      simp only [hq] at hp
      refine ⟨fun q => absurd rfl q, fun _ => ?_⟩
      obtain ⟨r1, k1⟩ := r.wI (k := 0) (v := 2) t0
      have er : mm_I (mm_I M 0 0) 0 2 = mm_I M 0 2 := mm_II
      rw [er] at r1
      have b85 : ∀ v, wp_X7_repeat_b85 t0 m9 post (qs_wI (qs_wI S 0 y 0) 0 y 2) y (nI w) v := fun v => ⟨r1.y7, r1.r0 ⟨fun q => absurd q (by decide), fun _ => hp _ _ _ r1 (k.tr k1) rfl (fun q => absurd (show (3 : Nat) = 0 from q) (by decide)) s.th⟩⟩
      exact ⟨r.y7, 1, fun z => absurd z (by decide), fun _ => ⟨r1.y7, r1.r0 ⟨fun _ => b85 _, fun q => absurd q (by decide)⟩⟩⟩
    | succ m =>
      simp only [hq] at hp
      have hm := (I.r w hw m).1 hq
      refine ⟨fun _ => ⟨r.y7, 10, ?_⟩, fun q => absurd q (ps_ne1 (by omega))⟩
      obtain ⟨r1, k1⟩ := r.wI (k := 0) (v := 0) t0
      have er : mm_I (mm_I M 0 0) 0 0 = mm_I M 0 0 := mm_II
      rw [er] at r1
      refine cy_repeatL s I hw hm S (fun q S' M' r' k' z' s' => ?_) (fun q S' M' r' k' z' s' => ?_) 8 0 _ rfl (fun _ z => absurd z (Nat.not_lt_zero _)) r1 (k.tr k1)
      · rw [if_pos q] at hp
        exact hp _ _ _ r' k' z' (fun q => absurd (show (3 : Nat) = 0 from q) (by decide)) s'
      · rw [if_neg q] at hp
        exact hp _ _ _ r' k' z' (fun _ => rfl) s'
  · rw [z] at hp
    obtain ⟨r, k⟩ := h.wI (k := 0) (v := 1) t0
    exact ⟨h.y7, r.y7, r.r0 ⟨fun q => absurd q (by decide), fun _ => hp _ _ _ r k rfl (fun q => absurd (show (1 : Nat) = 0 from q) (by decide)) s.th⟩⟩
theorem iw_repeat (I : iv T c) {x : Int32} : iv (tq_repeat T x).2.2 c := by
  unfold tq_repeat
  cases hx : tt_ix x 8 with
  | zero => exact I
  | succ w =>
    obtain ⟨hw, -⟩ := tt_ix_eq (by decide) hx
    cases hq : tr T 3 6 w with
    | zero => simp only [hq]; exact I
    | succ m =>
      simp only [hq]
      split
      · exact I
      · rename_i q
        exact iw_join I hw ((I.r w hw m).1 hq) (fun w' hw' z => q (tt_isQ_iff.mpr ⟨w', hw', z⟩)) (fun h4 => ((I.k w h4 hw).2 m).1 hq)
theorem cy_giveL {cr o : Nat} (s : sm T M) (I : iv T c) (hc : cr < 4) (ho : o < 4) (hne : cr ≠ o) (S0 : qs_S) (hp : ∀ S' M', tx_M S' y H M' → tx_J t0 S0 S' → mi M' 0 = mi M 0 → sm (tt_gv T cr o) M' → post (nI (tl T (6 + cr)).length) S') : ∀ (k i : Nat) (S : qs_S) (M1 : mm_M), i + k = (tl T (6 + cr)).length → tx_M S y H M1 → tx_J t0 S0 S → mm_Q M M1 o (tl T (6 + o) ++ (tl T (6 + cr)).take i) → wp_X7_giveAway_b60 t0 m9 post (k + 1) S y (nI cr) (nI o) (nI (tl T (6 + cr)).length) (nI i) := by
  have l2 := I.len2 (w := o) (w' := cr) (by omega) (by omega) (fun e => hne e.symm)
  obtain ⟨q1, q2⟩ := s.q cr (by omega)
  intro k
  induction k with
  | zero =>
    intro i S M1 hi h hk hQ
    have hi' : i = (tl T (6 + cr)).length := hi
    subst hi'
    rw [List.take_length] at hQ
    refine ⟨fun _ => ⟨h.y7, _, h.ar 29, h.hk 29, h.vp (k := 29) rfl (show cr < 8 by omega), ?_⟩, fun z => absurd (nI_le (Nat.le_refl _) (by omega)) z⟩
    obtain ⟨r, k1⟩ := h.wA (k := 29) (x := nI cr) (i := cr) (v := 0) t0 rfl (show cr < 8 by omega)
    refine hp _ _ r (hk.tr k1) hQ.mi (sw_q (sw_q s I.lw (by omega) hQ) (fun w hw => ?_) (by omega) mm_Q.nil)
    by_cases z : w = o
    · have e : tl (tt_L T (6 + o) (tl T (6 + o) ++ tl T (6 + cr))) (6 + w) = tl T (6 + o) ++ tl T (6 + cr) := by rw [z]; exact tt_lS
      rw [e, List.length_append]
      omega
    · have e : tl (tt_L T (6 + o) (tl T (6 + o) ++ tl T (6 + cr))) (6 + w) = tl T (6 + w) := tt_lL (by omega)
      rw [e]
      exact I.lw w hw
  | succ k ih =>
    intro i S M1 hi h hk hQ
    have hlt : i < (tl T (6 + cr)).length := by omega
    refine ⟨fun z => absurd z (nI_ge hlt (by omega)), fun _ => ⟨h.y7, _, h.ar 30, fun v11 e11 v12 e12 => ?_⟩⟩
    have ev : v12 = nI (80 * cr + i) := by
      rw [e12, e11, ← nI_add]
      congr 1
      exact pk_mul 80 cr
    refine h.rB (k := 30) (i := 80 * cr + i) ev ?_ (by show 80 * cr + i < 640; omega)
    rw [(hQ.off hne (k := i) (by omega)).2, q2 i hlt]
    have lt : ((tl T (6 + cr)).take i).length = i := by rw [List.length_take]; omega
    refine cy_joins h (by omega) hQ.q (by rw [List.length_append, lt]; omega) (fun S' M' r' k' q' v20 e20 => ?_)
    rw [e20, nI_1]
    refine ih (i + 1) S' M' (by omega) r' (hk.tr k') ?_
    have e : (tl T (6 + cr)).take (i + 1) = (tl T (6 + cr)).take i ++ [(tl T (6 + cr)).getD i 0] := by
      rw [List.take_add_one, List.getD_eq_getElem?_getD, List.getElem?_eq_getElem hlt]
      rfl
    rw [e, ← List.append_assoc]
    exact hQ.tr q'
theorem cm_giveAway (h : tx_M S y H M) (s : sm T M) (I : iv T c) {x z : Int32} (hp : ty_H cB post t0 S y H (tq_giveAway T x z)) : wp_X7_giveAway t0 m9 post S y x z := by
  unfold tq_giveAway at hp
  have b15 : ty_H cB post t0 S y H (1, 0, T) → wp_X7_giveAway_b15 t0 m9 post S y x z y := fun hp => by
    obtain ⟨r, k⟩ := h.wI (k := 0) (v := 1) t0
    exact ⟨h.y7, r.y7, r.r0 ⟨fun q => absurd q (by decide), fun _ => hp _ _ _ r k rfl (fun q => absurd (show (1 : Nat) = 0 from q) (by decide)) s.th⟩⟩
  have b33 : ty_H cB post t0 S y H (3, 0, T) → wp_X7_giveAway_b33 t0 m9 post S y x z y := fun hp => by
    obtain ⟨r, k⟩ := h.wI (k := 0) (v := 2) t0
    exact ⟨h.y7, r.y7, r.r0 ⟨fun q => absurd q (by decide), fun _ => hp _ _ _ r k rfl (fun q => absurd (show (3 : Nat) = 0 from q) (by decide)) s.th⟩⟩
  refine cy_isCrane (fun cr hcr e => ⟨fun q => absurd q (by decide), fun _ => ?_⟩) (fun zz => ⟨fun _ => b15 (by rw [zz] at hp; exact hp), fun q => absurd rfl q⟩)
  rw [e, tt_ix_in hcr (by decide)] at hp
  simp only at hp
  refine cy_isCrane (fun o ho e' => ⟨fun _ => ⟨h.y7, h.rA (k := 17) (i := cr) e ?_ (show cr < 8 by omega)⟩, fun q => absurd q (by decide)⟩) (fun zz => ⟨fun q => absurd rfl q, fun _ => b15 (by rw [zz] at hp; exact hp)⟩)
  rw [e', tt_ix_in ho (by decide)] at hp
  simp only at hp
  rw [(s.w cr (by omega)).2.1]
  refine ⟨fun q => b33 (by rw [if_pos (Or.inl q)] at hp; exact hp), fun q => ⟨fun q2 => ?_, fun q2 => b33 ?_⟩⟩
  · have hne : cr ≠ o := fun z => q2 (by rw [e, e', z])
    rw [if_neg (fun r => r.elim q hne)] at hp
    obtain ⟨r, k⟩ := h.wI (k := 0) (v := 0) t0
    have q29 : ma (mm_I M 0 0) 29 cr = nI (tl T (6 + cr)).length := (s.q cr (by omega)).1
    refine ⟨h.y7, r.y7, r.r0 ⟨fun _ => r.rA (k := 29) (i := cr) e ?_ (show cr < 8 by omega), fun q => absurd (by decide) q⟩⟩
    rw [q29, e, e']
    refine ⟨(tl T (6 + cr)).length + 1, cy_giveL (M := mm_I M 0 0) s.th I hcr ho hne S (fun S' M' r' k' z' s' => hp S' M' _ r' k' z' (fun _ => rfl) s') _ 0 _ _ (Nat.zero_add _) r k ?_⟩
    have := mm_Q.self (M := mm_I M 0 0) (w := o) (l := tl T (6 + o)) (s.q o (by omega))
    rw [List.take_zero, List.append_nil]
    exact this
  · have he : cr = o := (nI_eq (by omega) (by omega)).mp (by rw [← e, ← e', q2])
    rw [if_pos (Or.inr he)] at hp
    exact hp
theorem iw_giveAway (I : iv T c) {x z : Int32} : iv (tq_giveAway T x z).2.2 c := by
  unfold tq_giveAway
  cases hx : tt_ix x 4 with
  | zero => exact I
  | succ cr =>
    obtain ⟨hcr, -⟩ := tt_ix_eq (by decide) hx
    simp only
    cases hz : tt_ix z 4 with
    | zero => exact I
    | succ o =>
      obtain ⟨ho, -⟩ := tt_ix_eq (by decide) hz
      simp only
      split
      · exact I
      · rename_i q
        have hne : cr ≠ o := fun e => q (Or.inr e)
        show iv (tt_L (tt_L T (6 + o) (tl T (6 + o) ++ tl T (6 + cr))) (6 + cr) []) c
        rw [tt_LC (by omega)]
        have I1 : iv (tt_L T (6 + cr) []) c := iw_q I (by omega) List.nodup_nil (fun m hm => absurd hm List.not_mem_nil)
        have el : ∀ j, j ≠ 6 + cr → tl (tt_L T (6 + cr) []) j = tl T j := fun j hj => tt_lL hj
        obtain ⟨d1, b1⟩ := I.l (6 + o) (Or.inr (by omega)) (by omega)
        obtain ⟨d2, b2⟩ := I.l (6 + cr) (Or.inr (by omega)) (by omega)
        refine iw_q I1 (by omega) (List.nodup_append.mpr ⟨d1, d2, fun a ha b hb e => hne (I.w cr o a (by omega) (by omega) (e ▸ hb) ha)⟩) (fun m hm => ⟨?_, fun w' hw' hne' hm' => ?_, fun h4 => by omega⟩)
        · rw [el 2 (by omega)]
          rcases List.mem_append.mp hm with q | q
          · exact b1 m q
          · exact b2 m q
        · by_cases zc : w' = cr
          · rw [zc, show tl (tt_L T (6 + cr) []) (6 + cr) = [] from tt_lS] at hm'
            exact absurd hm' List.not_mem_nil
          · rw [el (6 + w') (by omega)] at hm'
            rcases List.mem_append.mp hm with q | q
            · exact hne' (I.w w' o m hw' (by omega) hm' q)
            · exact zc (I.w w' cr m hw' (by omega) hm' q)
theorem cy_firstFor {k : Int32} (hp : post (nI (tt_ff k)) S) : wp_X7_firstFor t0 m9 post S k := by
  unfold tt_ff at hp
  refine ⟨fun z => ?_, fun z => ?_⟩
  · rw [if_neg z] at hp
    exact hp
  · rw [if_pos z] at hp
    exact hp
theorem me_eq {f : Nat} (h : f < 100) : me f = -1 ↔ f = 0 := by
  cases f with
  | zero => exact ⟨fun _ => rfl, fun _ => rfl⟩
  | succ m => exact ⟨fun q => absurd q (ps_ne1 (by omega)), fun q => absurd q (by omega)⟩
theorem cy_freestL (h : tx_M S y H M) (s : sm T M) (I : iv T c) {k : Int32} (hp : post (me (tt_bs T k 8)) S) : ∀ (j f : Nat), j ≤ 4 → bs_D T k (tt_ff k + j) f → f ≤ 8 → wp_X7_freest_b9 t0 m9 post (j + 1) S y k (me f) (nI (tt_ff k + j) - 1) := by
  have hk := tt_ff_le (k := k)
  intro j
  induction j with
  | zero =>
    intro f hj hf hf8
    rw [Nat.add_zero] at hf ⊢
    refine cy_firstFor ⟨fun _ => ?_, fun z => absurd ?_ z⟩
    · rw [bs_fin hf]
      exact hp
    · cases hq : tt_ff k with
      | zero => decide
      | succ n =>
        rw [nI_pred]
        exact nI_lt (Nat.lt_succ_self n) (by omega)
  | succ j ih =>
    intro f hj hf hf8
    have e : nI (tt_ff k + (j + 1)) - 1 = nI (tt_ff k + j) := nI_pred _
    rw [e]
    have hw : tt_ff k + j < 8 := by omega
    have st := bs_step (i := tt_ff k + j) (by omega) hf
    have nx : ∀ f', f' ≤ 8 → (if ti T 3 5 (tt_ff k + j) = 0 ∧ (f = 0 ∨ (tl T (6 + (tt_ff k + j))).length ≤ (tl T (6 + (f - 1))).length) then tt_ff k + j + 1 else f) = f' → ∀ v, v = nI (tt_ff k + j) + (-1) → wp_X7_freest_b9 t0 m9 post (j + 1) S y k (me f') v := by
      intro f' hf' ef v ev
      rw [ef] at st
      rw [ev, ← Int32.sub_eq_add_neg]
      exact ih f' (by omega) st hf'
    refine cy_firstFor ⟨fun z => absurd z (nI_nlt (by omega) (by omega)), fun _ => ⟨h.y7, h.rA (k := 17) (i := tt_ff k + j) rfl ?_ hw⟩⟩
    rw [(s.w _ hw).2.1]
    refine ⟨fun q => nx f hf8 (if_neg (fun r => q r.1)), fun q => ⟨fun q1 => ?_, fun q1 => ?_⟩⟩
    · have f0 := (me_eq (by omega)).mp q1
      exact nx (tt_ff k + j + 1) (by omega) (if_pos ⟨q, Or.inl f0⟩)
    · cases f with
      | zero => exact absurd rfl q1
      | succ b =>
        have hb8 : b < 8 := by omega
        have lw1 := I.lw _ hw
        have lw2 := I.lw _ hb8
        refine h.rA (k := 29) (i := tt_ff k + j) rfl (h.rA (k := 29) (i := b) rfl ?_ hb8) hw
        rw [(s.q _ hw).1, (s.q b hb8).1]
        refine ⟨fun q2 => nx (b + 1) hf8 (if_neg (fun r => ?_)), fun q2 => nx (tt_ff k + j + 1) (by omega) (if_pos ⟨q, Or.inr ?_⟩)⟩
        · have := (nI_ltI (by omega) (by omega)).mp q2
          rcases r.2 with r | r
          · omega
          · rw [Nat.add_sub_cancel] at r
            omega
        · rw [Nat.add_sub_cancel]
          rcases Nat.lt_or_ge (tl T (6 + b)).length (tl T (6 + (tt_ff k + j))).length with u | u
          · exact absurd (nI_lt u (by omega)) q2
          · exact u
theorem cy_freest (h : tx_M S y H M) (s : sm T M) (I : iv T c) {k : Int32} (hp : post (me (tt_bs T k 8)) S) : wp_X7_freest t0 m9 post S y k := by
  have hk := tt_ff_le (k := k)
  refine cy_firstFor (fun v31 e31 => ⟨5, ?_⟩)
  have := cy_freestL (t0 := t0) (m9 := m9) h s I hp 4 0 (Nat.le_refl _) (Or.inl ⟨rfl, fun w q => by omega⟩) (by omega)
  have e : v31 = nI (tt_ff k + 4) - 1 := by
    rw [e31, show nI (tt_ff k + 4) - 1 = nI (tt_ff k + 3) from nI_pred _, ← nI_add]
    rfl
  rw [e]
  exact this
theorem cy_isTarget {k t : Int32} (h1 : ¬ (t < 0 ∨ ¬ t < tt_to k) → post 1 S) (h0 : (t < 0 ∨ ¬ t < tt_to k) → post 0 S) : wp_X7_isTarget t0 m9 post S k t := by
  have le : ∀ a b : Int32, b = a + 1 → a.toInt < 100 → 0 ≤ a.toInt → ((¬ t < 0 ∧ ¬ a < t) ↔ ¬ (t < 0 ∨ ¬ t < b)) := by
    intro a b e ha h0'
    obtain ⟨n, hn, ea⟩ := nI_of (x := a) (fun q => by have := Int32.lt_iff_toInt_lt.mp q; simp at this; omega)
    rw [ea, nI_toInt hn] at ha
    rw [e, ea, nI_1]
    by_cases q : t < 0
    · exact ⟨fun z => absurd q z.1, fun z => absurd (Or.inl q) z⟩
    · obtain ⟨j, hj, ej⟩ := nI_of q
      rw [ej, nI_ltI (by omega) hj, nI_ltI hj (by omega)]
      have p := nI_pos hj
      exact ⟨fun z r => r.elim p (fun r => by omega), fun z => ⟨p, fun r => z (Or.inr (by omega))⟩⟩
  have go : ∀ a : Int32, tt_to k = a + 1 → a.toInt < 100 → 0 ≤ a.toInt → wp_X7_isTarget_b20 t0 m9 post S t 0 a := by
    intro a e ha h0'
    have := le a (tt_to k) e ha h0'
    exact cy_in (fun z1 z2 => ⟨Or.inr rfl, h1 (this.mp ⟨z1, z2⟩)⟩) (fun z => ⟨Or.inl rfl, h0 (Classical.byContradiction (fun r => by
      obtain ⟨r1, r2⟩ := this.mpr r
      exact z.elim r1 r2))⟩)
  refine ⟨fun z => ⟨fun z1 => go 1 ?_ (by decide) (by decide), fun z1 => go 5 ?_ (by decide) (by decide)⟩, fun z => go 0 ?_ (by decide) (by decide)⟩
  · unfold tt_to
    rw [if_neg z, if_neg z1]
    rfl
  · unfold tt_to
    rw [if_neg z, if_pos z1]
    rfl
  · unfold tt_to
    rw [if_pos z]
    rfl
end TYS
