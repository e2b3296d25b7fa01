/-! ===== bookings, ships and boxes, in the reference ===== -/
theorem tt_ct_up {p q : Nat → Bool} {b : Nat} (hne : ∀ i, i ≠ b → q i = p i) (hp : p b = false) (hq : q b = true) : ∀ n, tt_ct q n = tt_ct p n + (if b < n then 1 else 0)
  | 0 => by rw [if_neg (Nat.not_lt_zero _)]; rfl
  | n + 1 => by
    have ih := tt_ct_up hne hp hq n
    show tt_ct q n + (if q n = true then 1 else 0) = tt_ct p n + (if p n = true then 1 else 0) + _
    by_cases c : n = b
    · subst c
      rw [ih, hp, hq, if_neg (Nat.lt_irrefl _), if_pos rfl, if_neg (by decide), if_pos (Nat.lt_succ_self _)]
    · rw [ih, hne n c]
      by_cases d : b < n
      · have e2 : (if b < n + 1 then 1 else 0) = 1 := if_pos (by omega)
        rw [if_pos d, e2]
        exact Nat.add_right_comm _ _ _
      · have e2 : (if b < n + 1 then 1 else 0) = 0 := if_neg (by omega)
        rw [if_neg d, e2]
        rfl
theorem tt_ct_cg {p q : Nat → Bool} : ∀ n, (∀ i, i < n → q i = p i) → tt_ct q n = tt_ct p n
  | 0, _ => rfl
  | n + 1, h => by
    show tt_ct q n + (if q n = true then 1 else 0) = tt_ct p n + (if p n = true then 1 else 0)
    rw [tt_ct_cg n (fun i hi => h i (by omega)), h n (by omega)]
theorem nI_le0 {x : Int32} : x ≤ 0 ↔ x < 1 := ps_lt1.symm
section TYB
variable {t0 m9 y c : Nat} {S : qs_S} {T : tt_T} {H : Nat → Nat} {M : mm_M} {post : Int32 → qs_S → Prop}
theorem cy_cb195 (h : tx_M S y H M) {b i k : Nat} {ho : Int32} (h0 : post 0 S) : wp_X7_canBook_b195 t0 m9 post (wp_X7_canBook_b39 t0 m9 post (k + 1)) S y ho (nI b) (nI i) := by
  intro v1 e1
  have b204 : wp_X7_canBook_b204 t0 m9 post S 0 := ⟨Or.inl rfl, h0⟩
  exact ⟨h.y7, h.rI (k := 6) ⟨fun _ => b204, fun _ => ⟨fun _ => b204, fun z => absurd rfl z⟩⟩⟩
theorem cy_canBookL (h : tx_M S y H M) (s : sm T M) (I : iv T c) {b : Nat} (hb : b < (tl T 1).length) (hb3 : ti T 1 2 b = 3) {n : Nat} (hn : n < 2 ^ 30) (h1 : tt_isC T b (nI n) = false → post 1 S) (h0 : tt_isC T b (nI n) = true → post 0 S) : ∀ (k i : Nat), i + k = (tl T 1).length → (∀ i', i' < i → ¬ tt_cb T b (nI n) i') → wp_X7_canBook_b39 t0 m9 post (k + 2) S y (nI n) (nI b) 1 (nI i) := by
  have hl := I.n.2.1
  intro k
  induction k with
  | zero =>
    intro i hi hno
    have hi' : i = (tl T 1).length := hi
    subst hi'
    refine ⟨h.y7, h.rI (k := 6) ?_⟩
    rw [s.i.2.2.1]
    refine ⟨fun _ => ⟨Or.inr rfl, h1 ?_⟩, fun z => absurd (nI_le (Nat.le_refl _) (by omega)) z⟩
    cases hc : tt_isC T b (nI n) with
    | false => rfl
    | true =>
      obtain ⟨i, hi, hi2⟩ := tt_isC_iff.mp hc
      exact absurd hi2 (hno i hi)
  | succ k ih =>
    intro i hi hno
    have hlt : i < (tl T 1).length := by omega
    have i24 : i < 24 := by omega
    have b24 : b < 24 := by omega
    have sb := s.b i hlt
    have sbb := s.b b hb
    have b191 : ¬ tt_cb T b (nI n) i → wp_X7_canBook_b191 t0 m9 post (wp_X7_canBook_b39 t0 m9 post (k + 2)) S y (nI n) (nI b) (nI i) := by
      intro hn' v1 e1
      rw [e1, nI_1]
      refine ih (i + 1) (by omega) (fun i' hi' => ?_)
      by_cases z : i' = i
      · rw [z]; exact hn'
      · exact hno i' (by omega)
    have b195 : tt_cb T b (nI n) i → wp_X7_canBook_b195 t0 m9 post (wp_X7_canBook_b39 t0 m9 post (k + 2)) S y (nI n) (nI b) (nI i) := fun z => cy_cb195 h (h0 (tt_isC_iff.mpr ⟨i, hlt, z⟩))
    have e12 : ma M 12 i = ti T 1 7 i := sb.2.2.2.2.2.1
    -- the two levels are read; A, B: does it stand above, below
    have b169 : ∀ (A B : Prop) (x8 : Int32), (¬ A ∨ ¬ (ti T 1 7 i = -1 ∨ nI n < ti T 1 7 i)) → ((x8 = 1 ∧ B) ∨ (x8 = 0 ∧ ¬ B)) → (tt_cb T b (nI n) i ↔ (A ∧ (ti T 1 7 i = -1 ∨ nI n < ti T 1 7 i)) ∨ (B ∧ ti T 1 7 i ≠ -1 ∧ ti T 1 7 i < nI n)) → wp_X7_canBook_b169 t0 m9 post (wp_X7_canBook_b39 t0 m9 post (k + 2)) S y (nI n) (nI b) (nI i) x8 := by
      intro A B x8 hA hB hcb
      refine ⟨fun z => b191 (fun q => ?_), fun z => ⟨h.y7, h.rA (k := 12) (i := i) rfl (fun v10 e10 => ?_) i24⟩⟩
      · rcases hB with hB | hB
        · rw [hB.1] at z
          exact absurd z (by decide)
        · rcases hcb.mp q with q | q
          · exact hA.elim (fun r => r q.1) (fun r => r q.2)
          · exact hB.2 q.1
      · have hB' : B := by
          rcases hB with hB | hB
          · exact hB.2
          · exact absurd hB.1 z
        rw [e12, e10]
        have hlt' : ∀ x : Int32, ¬ x < 0 → (nI n - 1 < x ↔ ¬ x < nI n) := by
          intro x hx
          obtain ⟨j, hj, e⟩ := nI_of hx
          rw [e]
          cases n with
          | zero => exact ⟨fun _ q => nI_pos hj q, fun _ => Int32.lt_of_lt_of_le (by decide) (nI_pos' hj)⟩
          | succ n' =>
            rw [nI_pred, nI_ltI (by omega) hj, nI_ltI hj (by omega)]
            omega
        refine cy_in (fun q1 q2 => ⟨fun _ => b195 (hcb.mpr (Or.inr ⟨hB', ?_, ?_⟩)), fun q => absurd q (by decide)⟩) (fun q => ⟨fun r => absurd rfl r, fun _ => b191 (fun r => ?_)⟩)
        · intro r
          rw [r] at q1
          exact q1 (by decide)
        · exact Classical.byContradiction (fun r => q2 ((hlt' _ q1).mpr r))
        · rcases hcb.mp r with r | r
          · exact hA.elim (fun w => w r.1) (fun w => w r.2)
          · have hpos : ¬ ti T 1 7 i < 0 := (I.b i hlt).2.2.2.2.resolve_left r.2.1
            rcases q with q | q
            · exact hpos q
            · exact (hlt' _ hpos).mp q r.2.2
    have b147 : ∀ (A B : Prop) (x7 x8 : Int32), ((x7 = 1 ∧ A) ∨ (x7 = 0 ∧ ¬ A)) → ((x8 = 1 ∧ B) ∨ (x8 = 0 ∧ ¬ B)) → (tt_cb T b (nI n) i ↔ (A ∧ (ti T 1 7 i = -1 ∨ nI n < ti T 1 7 i)) ∨ (B ∧ ti T 1 7 i ≠ -1 ∧ ti T 1 7 i < nI n)) → wp_X7_canBook_b147 t0 m9 post (wp_X7_canBook_b39 t0 m9 post (k + 2)) S y (nI n) (nI b) (nI i) x7 x8 := by
      intro A B x7 x8 hA hB hcb
      refine ⟨fun z => b169 A B x8 (Or.inl ?_) hB hcb, fun z => ⟨h.y7, h.rA (k := 12) (i := i) rfl ?_ i24⟩⟩
      · rcases hA with hA | hA
        · rw [hA.1] at z
          exact absurd z (by decide)
        · exact hA.2
      · have hA' : A := by
          rcases hA with hA | hA
          · exact hA.2
          · exact absurd hA.1 z
        rw [e12]
        refine cy_in (fun q1 q2 => ⟨fun q => absurd q (by decide), fun _ => b169 A B x8 (Or.inr (fun r => ?_)) hB hcb⟩) (fun q => ⟨fun _ => b195 (hcb.mpr (Or.inl ⟨hA', ?_⟩)), fun r => absurd rfl r⟩)
        · rcases r with r | r
          · rw [r] at q1
            exact q1 (by decide)
          · exact q2 r
        · rcases q with q | q
          · exact Or.inl ((I.b i hlt).2.2.2.2.resolve_right (fun r => r q))
          · exact Or.inr q
    have b90 : ¬ tt_cb T b (nI n) i → wp_X7_canBook_b90 t0 m9 post (wp_X7_canBook_b39 t0 m9 post (k + 2)) S y (nI n) (nI b) (nI i) := fun z => ⟨fun _ => ⟨fun _ => ⟨fun _ => ⟨fun _ => b191 z, fun q => absurd rfl q⟩, fun q => absurd rfl q⟩, fun q => absurd rfl q⟩, fun q => absurd rfl q⟩
    refine ⟨h.y7, h.rI (k := 6) ?_⟩
    rw [s.i.2.2.1]
    refine ⟨fun z => absurd z (nI_ge hlt (by omega)), fun _ => ⟨fun z => absurd z (by decide), fun _ => ⟨fun z => b90 (fun q => ?_), fun z1 => h.rA (k := 9) (i := i) rfl ?_ i24⟩⟩⟩
    · have : i = b := (nI_eq (by omega) (by omega)).mp z
      rw [this] at q
      rcases q.2 with q | q
      · exact Int32.lt_irrefl q.1
      · exact Int32.lt_irrefl q.1
    rw [sb.2.2.1]
    refine ⟨fun z => b90 (fun q => z q.1.1), fun z3 => h.rA (k := 10) (i := i) rfl (h.rA (k := 10) (i := b) rfl ?_ b24) i24⟩
    rw [sb.2.2.2.1 (by rw [z3]; decide) (by rw [z3]; decide), sbb.2.2.2.1 (by rw [hb3]; decide) (by rw [hb3]; decide)]
    refine ⟨fun z => b90 (fun q => z q.1.2), fun z4 => ⟨fun q => absurd q (by decide), fun _ => ⟨h.y7, h.rA (k := 15) (i := i) rfl (h.rA (k := 15) (i := b) rfl ?_ b24) i24⟩⟩⟩
    rw [sb.2.2.2.2.2.2.2 z3, sbb.2.2.2.2.2.2.2 hb3]
    have b119 : ∀ x7 : Int32, ((x7 = 1 ∧ ti T 1 4 b < ti T 1 4 i) ∨ (x7 = 0 ∧ ¬ ti T 1 4 b < ti T 1 4 i)) → wp_X7_canBook_b119 t0 m9 post (wp_X7_canBook_b39 t0 m9 post (k + 2)) S y (nI n) (nI b) (nI i) 1 x7 := by
      intro x7 h7
      have hcb : tt_cb T b (nI n) i ↔ (ti T 1 4 b < ti T 1 4 i ∧ (ti T 1 7 i = -1 ∨ nI n < ti T 1 7 i)) ∨ (ti T 1 4 i < ti T 1 4 b ∧ ti T 1 7 i ≠ -1 ∧ ti T 1 7 i < nI n) := ⟨fun q => q.2, fun q => ⟨⟨z3, z4⟩, q⟩⟩
      refine ⟨fun q => absurd q (by decide), fun _ => ⟨h.y7, h.rA (k := 15) (i := i) rfl (h.rA (k := 15) (i := b) rfl ?_ b24) i24⟩⟩
      rw [sb.2.2.2.2.2.2.2 z3, sbb.2.2.2.2.2.2.2 hb3]
      exact ⟨fun q => b147 _ _ x7 0 h7 (Or.inr ⟨rfl, Int32.not_lt.mpr q⟩) hcb, fun q => b147 _ _ x7 1 h7 (Or.inl ⟨rfl, Int32.not_le.mp q⟩) hcb⟩
    exact ⟨fun q => b119 0 (Or.inr ⟨rfl, Int32.not_lt.mpr q⟩), fun q => b119 1 (Or.inl ⟨rfl, Int32.not_le.mp q⟩)⟩
theorem cy_canBook (h : tx_M S y H M) (s : sm T M) (I : iv T c) {b : Nat} (hb : b < (tl T 1).length) {g : Int32} {n : Nat} (hn : n < 2 ^ 30) (h1 : ti T 1 2 b = 3 ∧ ti T 1 7 b = -1 ∧ ¬ tt_sl T g (nI n) < 1 ∧ tt_isC T b (nI n) = false → post 1 S) (h0 : ¬ (ti T 1 2 b = 3 ∧ ti T 1 7 b = -1 ∧ ¬ tt_sl T g (nI n) < 1 ∧ tt_isC T b (nI n) = false) → post 0 S) : wp_X7_canBook t0 m9 post S y g (nI n) (nI b) := by
  have hl := I.n.2.1
  have b24 : b < 24 := by omega
  have sbb := s.b b hb
  have b33 : ¬ (ti T 1 2 b = 3 ∧ ti T 1 7 b = -1 ∧ ¬ tt_sl T g (nI n) < 1 ∧ tt_isC T b (nI n) = false) → wp_X7_canBook_b33 t0 m9 post S y (nI n) (nI b) := fun z => by
    have b204 : wp_X7_canBook_b204 t0 m9 post S 0 := ⟨Or.inl rfl, h0 z⟩
    exact ⟨1, h.y7, h.rI (k := 6) ⟨fun _ => b204, fun _ => ⟨fun _ => b204, fun z => absurd rfl z⟩⟩⟩
  refine ⟨h.y7, h.rA (k := 9) (i := b) rfl ?_ b24⟩
  rw [sbb.2.2.1]
  refine ⟨fun z => b33 (fun q => z q.1), fun z3 => h.rA (k := 12) (i := b) rfl ?_ b24⟩
  rw [sbb.2.2.2.2.2.1]
  refine ⟨fun z => b33 (fun q => z q.2.1), fun z7 => cy_slotsFor h s.i.2.2.1 s.b hl (ps_ne1 (by omega)) ⟨fun z => b33 (fun q => q.2.2.1 (nI_le0.mp z)), fun z => ⟨(tl T 1).length + 2, ?_⟩⟩⟩
  exact cy_canBookL h s I hb z3 hn (fun q => h1 ⟨z3, z7, fun r => z (nI_le0.mpr r), q⟩) (fun q => h0 (fun r => by rw [q] at r; exact absurd r.2.2.2 (by decide))) _ 0 (Nat.zero_add _) (fun _ z => absurd z (Nat.not_lt_zero _))
theorem cm_book (h : tx_M S y H M) (s : sm T M) (I : iv T c) {g ho x : Int32} (hp : ty_H cA post t0 S y H (tq_book T g ho x)) : wp_X7_book t0 m9 post S y g ho x := by
  have hl := I.n.2.1
  unfold tq_book at hp
  have no : ∀ e : Nat, e ≠ 0 → ty_H cA post t0 S y H (e, 0, T) → ∀ v : Int32, v = nI e → ¬ v ≤ 0 → wp_X7_book_b59 t0 m9 post S y g ho x y v := fun e he hp v ev hv => by
    obtain ⟨r, k⟩ := h.wI (k := 0) (v := v) t0
    exact ⟨h.y7, r.y7, r.r0 ⟨fun q => absurd q hv, fun _ => hp _ _ _ r k ev (fun q => absurd q he) s.th⟩⟩
  refine cy_inx (n := 2) (by decide) rfl (fun gi hgi eg => ⟨fun q => absurd q (by decide), fun _ => ⟨h.y7, ?_⟩⟩) (fun z => ⟨fun _ => no 1 (by decide) (by rw [if_pos (show g < 0 ∨ ¬ g < 2 from tt_ix_0 z)] at hp; exact hp) 1 rfl (by decide), fun q => absurd rfl q⟩)
  have gin : ¬ (g < 0 ∨ ¬ g < 2) := by
    rw [eg]
    exact fun r => r.elim (fun r => nI_pos (by omega) r) (fun r => r (nI_lt (b := 2) hgi (by decide)))
  rw [if_neg gin] at hp
  refine cy_isBox h s I (fun b hb e => ⟨fun _ => ⟨h.y7, h.rI (k := 1) (h.rI (k := 1) (fun v35 e35 => ?_))⟩, fun q => absurd q (by decide)⟩) (fun z => ⟨fun q => absurd rfl q, fun _ => no 1 (by decide) (by rw [z] at hp; exact hp) 1 rfl (by decide)⟩)
  rw [e, tt_ix_in hb (by omega)] at hp
  simp only at hp
  rw [e35, s.i.1]
  obtain ⟨hr, mk', eh, hh5, -⟩ := I.t
  refine cy_in (fun z1 z2 => ⟨fun _ => ⟨h.y7, ?_⟩, fun q => absurd q (by decide)⟩) (fun z => ⟨fun q => absurd rfl q, fun _ => no 2 (by decide) (by rw [if_pos (z.elim Or.inl (fun z => Or.inr (Int32.not_le.mpr z)))] at hp; exact hp) 2 rfl (by decide)⟩)
  rw [if_neg (fun r => r.elim z1 (fun r => z2 (Int32.not_le.mp r)))] at hp
  obtain ⟨n, hn, en⟩ : ∃ n : Nat, n < 2 ^ 30 ∧ ho = nI n := by
    rw [eh] at z1 z2
    have p0 : ¬ ho < 0 := fun q => z1 (Int32.lt_of_lt_of_le q (nI_pos' (by omega)))
    obtain ⟨j, hj, e⟩ := nI_of p0
    refine ⟨j, ?_, e⟩
    have z2' : ¬ nI hr + nI 24 < ho := z2
    rw [nI_add, e, nI_ltI (by omega) hj] at z2'
    omega
  rw [en] at hp ⊢
  rw [e]
  refine cy_canBook h s I hb hn (fun z => ⟨fun q => absurd q (by decide), fun _ => ?_⟩) (fun z => ⟨fun _ => ?_, fun q => absurd rfl q⟩)
  · rw [if_pos z] at hp
    obtain ⟨r, k⟩ := h.wI (k := 0) (v := 0) t0
    have b24 : b < 24 := by omega
    obtain ⟨r2, k2⟩ := r.wA (k := 12) (x := nI b) (i := b) (v := nI n) t0 rfl b24
    obtain ⟨r3, k3⟩ := r2.wA (k := 13) (x := nI b) (i := b) (v := g) t0 rfl b24
    have s3 := sw_book (b := b) (g := g) (h := nI n) (s.th (v := 0))
    refine ⟨h.y7, r.y7, r.r0 ⟨fun _ => ⟨_, r.ar 12, r.hk 12, r.vp (k := 12) rfl b24, _, r2.ar 13, r2.hk 13, r2.vp (k := 13) rfl b24, cy_slotsFor r3 s3.i.2.2.1 s3.b hl (ps_ne1 (by omega)) (hp _ _ _ r3 ((k.tr k2).tr k3) rfl (fun _ => ?_) s3)⟩, fun q => absurd (by decide) q⟩⟩
    show 2 - nI (tt_ct (tt_bk (tt_bo T b g (nI n)) g (nI n)) (tl T 1).length) = 2 - nI (tt_ct (tt_bk T g (nI n)) (tl T 1).length) - 1
    have t6 : ∀ i, ti (tt_bo T b g (nI n)) 1 6 i = if 1 = 1 ∧ 6 = 6 ∧ i = b then g else ti T 1 6 i := fun _ => rfl
    have t7 : ∀ i, ti (tt_bo T b g (nI n)) 1 7 i = if 1 = 1 ∧ 7 = 7 ∧ i = b then nI n else ti T 1 7 i := fun _ => rfl
    have ec := tt_ct_up (p := tt_bk T g (nI n)) (q := tt_bk (tt_bo T b g (nI n)) g (nI n)) (b := b) (fun i hi => by
      unfold tt_bk
      rw [t6, t7, if_neg (fun q => hi q.2.2), if_neg (fun q => hi q.2.2)]) (decide_eq_false (fun q => ps_ne1 (j := n) (by omega) (by rw [← q.2, z.2.1]))) (by
      unfold tt_bk
      rw [t6, t7, if_pos ⟨rfl, rfl, rfl⟩, if_pos ⟨rfl, rfl, rfl⟩]
      exact decide_eq_true ⟨rfl, rfl⟩) (tl T 1).length
    rw [ec, if_pos hb, nI_succ, Int32.sub_eq_add_neg, Int32.sub_eq_add_neg, Int32.sub_eq_add_neg, Int32.neg_add, Int32.add_assoc, Int32.sub_eq_add_neg]
  · rw [if_neg z] at hp
    have := no 3 (by decide) hp 3 rfl (by decide)
    rw [e] at this
    exact en ▸ this
end TYB
