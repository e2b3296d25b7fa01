/-! ===== where a box is by the log, in the reference ===== -/
section TYW
variable {t0 m9 y c : Nat} {S : qs_S} {T : tt_T} {H : Nat → Nat} {M : mm_M} {post : Int32 → qs_S → Prop}
theorem tt_ll_m {b : Nat} : ∀ n, n ≤ (tl T 3).length → ∀ m, tt_ll T b n = m + 1 → m ∈ tl T 3
  | 0, _, m, h => absurd (show 0 = m + 1 from h) (by omega)
  | n + 1, hn, m, h => by
    unfold tt_ll at h
    split at h
    · rw [← Nat.succ.inj h]
      exact ps_getD_mem (by omega)
    · exact tt_ll_m n (by omega) m h
theorem iv.o1 (I : iv T c) (hc : c < 2 ^ 30) {m : Nat} (hm : m < (tl T 2).length) : ∃ o, o < 2 ^ 30 + 1 ∧ ti T 2 5 m + 1 = nI o ∧ (ti T 2 5 m).toInt = (o : Int) - 1 := by
  obtain ⟨hr, k, -, -, -, hk, ho⟩ := I.t
  rcases ho m hm with z | ⟨o, ho, z⟩
  · exact ⟨0, by omega, by rw [z]; decide, by rw [z]; decide⟩
  · refine ⟨o + 1, by omega, by rw [z, nI_1], ?_⟩
    rw [z, nI_toInt (by omega)]
    omega
theorem cy_wblL (h : tx_M S y H M) (s : sm T M) (I : iv T c) (hc : c < 2 ^ 30) {b : Nat} (hb : b < (tl T 1).length) (hp : post (match tt_ll T b (tl T 3).length with | 0 => 0 + ti T 1 1 b | m + 1 => if ti T 2 1 m = 0 then 100 + ti T 1 1 b else if ti T 2 1 m = 1 then 300 + 10 * ti T 2 3 m else 400 + ti T 2 3 m) S) : ∀ (k i : Nat), i + k = (tl T 3).length → wp_X7_whereByLog_b14 t0 m9 post (k + 1) S y (nI b) (me (tt_ll T b i)) (nI i) := by
  have hl := I.len (j := 3) (Or.inl rfl) (by decide)
  have hl1 := I.n.2.1
  have hl2 := I.n.2.2
  have b24 : b < 24 := by omega
  have sb := s.b b hb
  obtain ⟨-, qb⟩ := I.l 3 (Or.inl rfl) (by decide)
  intro k
  induction k with
  | zero =>
    intro i hi
    have hi' : i = (tl T 3).length := hi
    subst hi'
    refine ⟨h.y7, h.rI (k := 27) ?_⟩
    rw [s.i.2.2.2.2.2]
    refine ⟨fun _ => ?_, fun z => absurd (nI_le (Nat.le_refl _) (by omega)) z⟩
    cases hf : tt_ll T b (tl T 3).length with
    | zero =>
      rw [hf] at hp
      refine ⟨fun q => absurd rfl q, fun _ => ⟨fun q => absurd rfl q, fun _ => ⟨h.y7, h.rA (k := 8) (i := b) rfl ?_ b24⟩⟩⟩
      rw [sb.2.1]
      have e : (0 : Int32) + ti T 1 1 b = ti T 1 1 b := Int32.zero_add _
      simp only [e] at hp
      exact hp
    | succ m =>
      rw [hf] at hp
      simp only at hp
      have hm := qb m (tt_ll_m _ (Nat.le_refl _) m hf)
      have m80 : m < 80 := by omega
      have sm' := s.m m hm
      refine ⟨fun _ => h.rA (k := 19) (i := m) rfl ?_ m80, fun q => absurd q (ps_ne1 (by omega))⟩
      rw [sm'.1]
      refine ⟨fun _ => ⟨fun n0 => ⟨fun n1 => ⟨h.y7, h.rA (k := 21) (i := m) rfl ?_ m80⟩, fun e1 => ⟨h.y7, h.rA (k := 21) (i := m) rfl ?_ m80⟩⟩, fun e0 => ⟨h.y7, h.rA (k := 8) (i := b) rfl ?_ b24⟩⟩, fun q => ?_⟩
      · rw [sm'.2.2.1]
        rw [if_neg n0, if_neg n1] at hp
        intro v39 e39
        rw [e39]
        exact hp
      · rw [sm'.2.2.1]
        rw [if_neg n0, if_pos e1] at hp
        intro v47 e47 v48 e48
        rw [e48, e47]
        exact hp
      · rw [sb.2.1]
        rw [if_pos e0] at hp
        intro v56 e56
        rw [e56]
        exact hp
      · rcases (I.m m hm).1 with w | w | w
        · rw [w] at q; exact absurd q (by decide)
        · rw [w] at q; exact absurd q (by decide)
        · rw [w] at q; exact absurd q (by decide)
  | succ k ih =>
    intro i hi
    have hlt : i < (tl T 3).length := by omega
    have hm := qb _ (ps_getD_mem hlt)
    have m80 : (tl T 3).getD i 0 < 80 := by omega
    have i80 : i < 80 := by omega
    obtain ⟨b', hb', eb'⟩ := I.h.2.2.1 _ hm
    have e20 : ma M 20 ((tl T 3).getD i 0) = nI b' := by rw [(s.m _ hm).2.1, eb', Nat.add_sub_cancel]
    have nx : ∀ f : Nat, tt_ll T b (i + 1) = f → ∀ v : Int32, v = nI i + 1 → wp_X7_whereByLog_b14 t0 m9 post (k + 1) S y (nI b) (me f) v := by
      intro f ef v e
      rw [e, nI_1, ← ef]
      exact ih (i + 1) (by omega)
    refine ⟨h.y7, h.rI (k := 27) ?_⟩
    rw [s.i.2.2.2.2.2]
    refine ⟨fun z => absurd z (nI_ge hlt (by omega)), fun _ => ⟨_, h.ar 20, h.rA (k := 28) (i := i) rfl ?_ i80⟩⟩
    rw [s.l i hlt]
    refine h.rB (k := 20) (i := (tl T 3).getD i 0) rfl ?_ m80
    rw [e20]
    have keep : ¬ (tr T 2 2 ((tl T 3).getD i 0) = b + 1 ∧ (tt_ll T b i = 0 ∨ ti T 2 5 (tt_ll T b i - 1) < ti T 2 5 ((tl T 3).getD i 0))) → wp_X7_whereByLog_b83 t0 m9 post (wp_X7_whereByLog_b14 t0 m9 post (k + 1)) S y (nI b) (me (tt_ll T b i)) (nI i) := fun z => nx _ (if_neg z)
    have take : (tr T 2 2 ((tl T 3).getD i 0) = b + 1 ∧ (tt_ll T b i = 0 ∨ ti T 2 5 (tt_ll T b i - 1) < ti T 2 5 ((tl T 3).getD i 0))) → wp_X7_whereByLog_b74 t0 m9 post (wp_X7_whereByLog_b14 t0 m9 post (k + 1)) S y (nI b) (nI i) := fun z => ⟨h.y7, h.rA (k := 28) (i := i) rfl (by
      rw [s.l i hlt]
      exact nx _ (if_pos z)) i80⟩
    refine ⟨fun q => ⟨fun _ => keep (fun z => q ?_), fun z => absurd rfl z⟩, fun q => ⟨fun z => absurd z (by decide), fun _ => ⟨fun q1 => take ⟨?_, Or.inl ?_⟩, fun q1 => ?_⟩⟩⟩
    · have z1 := z.1
      rw [eb'] at z1
      rw [Nat.succ.inj z1]
    · rw [eb', (nI_eq (by omega) (by omega)).mp q]
    · cases hf : tt_ll T b i with
      | zero => rfl
      | succ m =>
        rw [hf] at q1
        have hm' := qb m (tt_ll_m _ (by omega) m hf)
        exact absurd q1 (ps_ne1 (by omega))
    · have ebb : tr T 2 2 ((tl T 3).getD i 0) = b + 1 := by rw [eb', (nI_eq (by omega) (by omega)).mp q]
      cases hf : tt_ll T b i with
      | zero =>
        rw [hf] at q1
        exact absurd rfl q1
      | succ m =>
        rw [hf] at keep take
        have hm' := qb m (tt_ll_m _ (by omega) m hf)
        have m80' : m < 80 := by omega
        obtain ⟨o1, ho1, eo1, to1⟩ := I.o1 hc hm
        obtain ⟨o2, ho2, eo2, to2⟩ := I.o1 hc hm'
        refine ⟨h.y7, _, h.ar 23, _, h.ar 28, h.rB (k := 28) (i := i) rfl ?_ i80⟩
        rw [s.l i hlt]
        refine h.rB (k := 23) (i := (tl T 3).getD i 0) rfl (h.rA (k := 23) (i := m) rfl ?_ m80') m80
        rw [(s.m _ hm).2.2.2.2.1, (s.m _ hm').2.2.2.2.1, eo1, eo2, nI_leI (by omega) (by omega)]
        refine ⟨fun w => keep (fun z => ?_), fun w => take ⟨ebb, Or.inr ?_⟩⟩
        · rcases z.2 with z2 | z2
          · omega
          · rw [Nat.add_sub_cancel, Int32.lt_iff_toInt_lt, to1, to2] at z2
            omega
        · rw [Nat.add_sub_cancel, Int32.lt_iff_toInt_lt, to1, to2]
          omega
theorem cm_whereByLog (h : tx_M S y H M) (s : sm T M) (I : iv T c) (hc : c < 2 ^ 30) {x : Int32} (hp : ty_H cA post t0 S y H (tq_whereByLog T x)) : wp_X7_whereByLog t0 m9 post S y x := by
  have hl := I.n.2.1
  unfold tq_whereByLog at hp
  refine ⟨h.y7, cy_asksBox h s I (fun S1 r1 k1 i hi e => ⟨fun _ => ⟨(tl T 3).length + 1, ?_⟩, fun q => absurd q (by decide)⟩) (fun S1 r1 k1 z => ⟨fun q => absurd rfl q, fun _ => ?_⟩)⟩
  · rw [e, tt_ix_in hi (by omega)] at hp
    rw [e]
    refine cy_wblL r1 s.th I hc hi ?_ _ 0 (Nat.zero_add _)
    simp only at hp
    cases hf : tt_ll T i (tl T 3).length with
    | zero =>
      simp only [hf] at hp
      exact hp _ _ _ r1 k1 rfl (fun _ => rfl) s.th
    | succ m =>
      simp only [hf] at hp
      exact hp _ _ _ r1 k1 rfl (fun _ => rfl) s.th
  · rw [z] at hp
    exact hp _ _ _ r1 k1 rfl (fun q => absurd (show (1 : Nat) = 0 from q) (by decide)) s.th
end TYW
