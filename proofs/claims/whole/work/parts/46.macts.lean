/-! ===== the reference's calls that change little ===== -/
theorem mm_A_self {M : mm_M} {k i : Nat} {v : Int32} (h : v = ma M k i) : mm_A M k i v = M := by
  refine Prod.ext rfl ?_
  funext k' i'
  show (if k' = k ∧ i' = i then v else ma M k' i') = ma M k' i'
  by_cases c : k' = k ∧ i' = i
  · rw [if_pos c, c.1, c.2, h]
  · rw [if_neg c]
theorem mm_II {M : mm_M} {k : Nat} {a b : Int32} : mm_I (mm_I M k a) k b = mm_I M k b := by
  refine Prod.ext ?_ rfl
  funext k'
  show (if k' = k then b else if k' = k then a else mi M k') = if k' = k then b else mi M k'
  by_cases c : k' = k
  · rw [if_pos c, if_pos c]
  · simp only [if_neg c]
section TYA
variable {t0 m9 y c : Nat} {S : qs_S} {T : tt_T} {H : Nat → Nat} {M : mm_M} {post : Int32 → qs_S → Prop}
theorem cm_lose (h : tx_M S y H M) (s : sm T M) {x n a : Int32} (hp : ty_H cA post t0 S y H (tq_lose T x n a)) : wp_X7_lose t0 m9 post S y x n a := by
  unfold tq_lose at hp
  refine cy_isWorker (fun w hw e => ⟨fun _ => ?_, fun q => absurd q (by decide)⟩) (fun z => ⟨fun q => absurd rfl q, fun _ => ?_⟩)
  · rw [e, tt_ix_in hw (by decide)] at hp
    simp only at hp
    refine cy_in (fun z1 z2 => ⟨fun q => absurd q (by decide), fun _ => ?_⟩) (fun z => ⟨fun _ => ?_, fun q => absurd rfl q⟩)
    · rw [if_neg (fun r => r.elim z1 (fun r => z2 (Int32.not_le.mp r)))] at hp
      obtain ⟨r, k⟩ := h.wI (k := 0) (v := 0) t0
      have e31 : ma (mm_I M 0 0) 31 w = ti T 3 3 w := (s.w w hw).2.2.1
      have e32 : ma (mm_I M 0 0) 32 w = ti T 3 4 w := (s.w w hw).2.2.2.1
      refine ⟨h.y7, r.y7, r.r0 ⟨fun _ => ⟨_, r.ar 32, r.rB (k := 32) (i := w) e ⟨fun q => ?_, fun q => ?_⟩ hw⟩, fun q => absurd (by decide) q⟩⟩
      · rw [if_pos q] at hp
        intro v20 e20
        refine ⟨r.hk 32, r.vp (k := 32) e hw, ?_⟩
        obtain ⟨r2, k2⟩ := r.wA (k := 32) (v := v20) t0 e hw
        have es : mm_A (mm_I M 0 0) 32 w v20 = mm_I M 0 0 := mm_A_self (by rw [e20, Int32.add_zero])
        rw [es] at r2
        refine ⟨r2.y7, _, r2.ar 31, r2.rB (k := 31) (i := w) e ⟨fun _ v1 e1 => ⟨r2.hk 31, r2.vp (k := 31) e hw, ?_⟩, fun z => absurd q z⟩ hw⟩
        obtain ⟨r3, k3⟩ := r2.wA (k := 31) (v := v1) t0 e hw
        have e33 : ma (mm_A (mm_I M 0 0) 31 w v1) 31 w = v1 := if_pos ⟨rfl, rfl⟩
        refine ⟨fun _ => ⟨r3.y7, r3.rA (k := 31) (i := w) e ?_ hw⟩, fun z => absurd q z⟩
        rw [e1, e31] at r3 k3 e33 ⊢
        rw [e33]
        exact hp _ _ _ r3 ((k.tr k2).tr k3) rfl (fun _ => rfl) (sw_lossM s.th)
      · rw [if_neg q] at hp
        intro v20 e20
        refine ⟨r.hk 32, r.vp (k := 32) e hw, ?_⟩
        obtain ⟨r2, k2⟩ := r.wA (k := 32) (v := v20) t0 e hw
        have e31' : ma (mm_A (mm_I M 0 0) 32 w v20) 31 w = ti T 3 3 w := e31
        refine ⟨r2.y7, _, r2.ar 31, r2.rB (k := 31) (i := w) e ⟨fun z => absurd z q, fun _ v1 e1 => ⟨r2.hk 31, r2.vp (k := 31) e hw, ?_⟩⟩ hw⟩
        obtain ⟨r3, k3⟩ := r2.wA (k := 31) (v := v1) t0 e hw
        have es : mm_A (mm_A (mm_I M 0 0) 32 w v20) 31 w v1 = mm_A (mm_I M 0 0) 32 w v20 := mm_A_self (by rw [e1, Int32.add_zero])
        rw [es] at r3
        have e33 : ma (mm_A (mm_I M 0 0) 32 w v20) 32 w = v20 := if_pos ⟨rfl, rfl⟩
        refine ⟨fun z => absurd z q, fun _ => ⟨r3.y7, r3.rA (k := 32) (i := w) e ?_ hw⟩⟩
        rw [e20, e32] at r3 k3 e33 k2 ⊢
        rw [e33]
        exact hp _ _ _ r3 ((k.tr k2).tr k3) rfl (fun _ => rfl) (sw_lossA s.th)
    · rw [if_pos (z.elim Or.inl (fun z => Or.inr (Int32.not_le.mpr z)))] at hp
      obtain ⟨r, k⟩ := h.wI (k := 0) (v := 2) t0
      exact ⟨h.y7, r.y7, r.r0 ⟨fun q => absurd q (by decide), fun _ => hp _ _ _ r k rfl (fun q => absurd (show (2 : Nat) = 0 from q) (by decide)) s.th⟩⟩
  · rw [z] at hp
    obtain ⟨r, k⟩ := h.wI (k := 0) (v := 1) t0
    exact ⟨h.y7, r.y7, r.r0 ⟨fun q => absurd q (by decide), fun _ => hp _ _ _ r k rfl (fun q => absurd (show (1 : Nat) = 0 from q) (by decide)) s.th⟩⟩
theorem cm_silence (h : tx_M S y H M) (s : sm T M) (I : iv T c) {x a : Int32} (ha : a = 0 ∨ a = 1) (hp : ty_H cA post t0 S y H (tq_silence T x a)) : wp_X7_silence t0 m9 post S y x a := by
  unfold tq_silence at hp
  refine cy_isCrane (fun w hw e => ⟨fun q => absurd q (by decide), fun _ => ?_⟩) (fun z => ⟨fun _ => ?_, fun q => absurd rfl q⟩)
  · rw [e, tt_ix_in hw (by decide)] at hp
    obtain ⟨r, k⟩ := h.wI (k := 0) (v := 0) t0
    have e17 : ma (mm_I M 0 0) 17 w = ti T 3 5 w := (s.w w (by omega)).2.1
    refine ⟨h.y7, r.y7, r.r0 ⟨fun _ => r.rA (k := 17) (i := w) e ⟨_, r.ar 17, r.hk 17, r.vp (k := 17) e (by show w < 8; omega), ha, ?_, ?_⟩ (by show w < 8; omega), fun q => absurd (by decide) q⟩⟩
    · rw [e17]
      exact (I.f w (by omega)).1
    · obtain ⟨r2, k2⟩ := r.wA (k := 17) (v := a) t0 e (by show w < 8; omega)
      exact hp _ _ _ r2 (k.tr k2) rfl (fun _ => e17) (sw_sil s.th)
  · rw [z] at hp
    obtain ⟨r, k⟩ := h.wI (k := 0) (v := 1) t0
    exact ⟨h.y7, r.y7, r.r0 ⟨fun q => absurd q (by decide), fun _ => hp _ _ _ r k rfl (fun q => absurd (show (1 : Nat) = 0 from q) (by decide)) s.th⟩⟩
theorem cm_park (h : tx_M S y H M) (s : sm T M) {x p : Int32} (hp : ty_H cB post t0 S y H (tq_park T x p)) : wp_X7_park t0 m9 post S y x p := by
  unfold tq_park at hp
  have no : ty_H cB post t0 S y H (1, 0, T) → wp_X7_park_b15 t0 m9 post S y x p y := fun hp => by
    obtain ⟨r, k⟩ := h.wI (k := 0) (v := 1) t0
    exact ⟨h.y7, r.y7, r.r0 ⟨fun q => absurd q (by decide), fun _ => hp _ _ _ r k rfl (fun q => absurd (show (1 : Nat) = 0 from q) (by decide)) s.th⟩⟩
  have no2 : ty_H cB post t0 S y H (3, 0, T) → wp_X7_park_b37 t0 m9 post S y x p y := fun hp => by
    obtain ⟨r, k⟩ := h.wI (k := 0) (v := 2) t0
    exact ⟨h.y7, r.y7, r.r0 ⟨fun q => absurd q (by decide), fun _ => hp _ _ _ r k rfl (fun q => absurd (show (3 : Nat) = 0 from q) (by decide)) s.th⟩⟩
  refine cy_isCrane (fun w hw e => ⟨fun q => absurd q (by decide), fun _ => ?_⟩) (fun z => ⟨fun _ => no (by rw [z] at hp; exact hp), fun q => absurd rfl q⟩)
  rw [e, tt_ix_in hw (by decide)] at hp
  simp only at hp
  refine cy_isPlace (fun i hi ei => ⟨fun _ => ⟨h.y7, h.rA (k := 17) (i := w) e ?_ (by show w < 8; omega)⟩, fun q => absurd q (by decide)⟩) (fun z => ⟨fun q => absurd rfl q, fun _ => no (by rw [if_pos z] at hp; exact hp)⟩)
  have pin : ¬ (p < 0 ∨ ¬ p < 16) := by
    rw [ei]
    exact fun r => r.elim (fun r => nI_pos (by omega) r) (fun r => r (nI_lt (b := 16) hi (by decide)))
  rw [if_neg pin] at hp
  rw [(s.w w (by omega)).2.1]
  refine ⟨fun q => no2 (by rw [if_pos (Or.inl q)] at hp; exact hp), fun q => ?_⟩
  rw [e]
  refine cy_canGo h s hw (fun d => ⟨fun _ => ?_, fun q => absurd q (by decide)⟩) (fun d => ⟨fun q => absurd rfl q, fun _ => ?_⟩)
  · rw [if_neg (fun r => r.elim (fun r => r q) (fun r => r d))] at hp
    obtain ⟨r, k⟩ := h.wI (k := 0) (v := 0) t0
    have e16 : ma (mm_I M 0 0) 16 w = ti T 3 7 w := (s.w w (by omega)).1 hw
    refine ⟨h.y7, r.y7, r.r0 ⟨fun _ => r.rA (k := 16) (i := w) rfl ⟨_, r.ar 16, r.hk 16, r.vp (k := 16) rfl hw, ?_⟩ hw, fun q => absurd (by decide) q⟩⟩
    obtain ⟨r2, k2⟩ := r.wA (k := 16) (x := nI w) (v := p) t0 rfl hw
    exact hp _ _ _ r2 (k.tr k2) rfl (fun _ => e16) (sw_place s.th)
  · rw [← e]
    exact no2 (by rw [if_pos (Or.inr d)] at hp; exact hp)
theorem cm_unbook (h : tx_M S y H M) (s : sm T M) (I : iv T c) {x : Int32} (hp : ty_H cB post t0 S y H (tq_unbook T x)) : wp_X7_unbook t0 m9 post S y x := by
  unfold tq_unbook at hp
  have hl := I.n.2.1
  refine ⟨h.y7, cy_isBox h s I (fun i hi e => ⟨fun _ => ⟨h.y7, ?_⟩, fun q => absurd q (by decide)⟩) (fun z => ⟨fun q => absurd rfl q, fun _ => ?_⟩)⟩
  · rw [e, tt_ix_in hi (by omega)] at hp
    simp only at hp
    have i24 : i < 24 := by omega
    have e12 : ma M 12 i = ti T 1 7 i := (s.b i hi).2.2.2.2.2.1
    refine h.rA (k := 12) (i := i) e ?_ i24
    rw [e12]
    refine ⟨fun q => ?_, fun q => ?_⟩
    · rw [if_neg q] at hp
      obtain ⟨r, k⟩ := h.wI (k := 0) (v := 0) t0
      refine ⟨h.y7, r.y7, r.r0 ⟨fun _ => r.rA (k := 12) (i := i) e ⟨_, r.ar 12, r.hk 12, r.vp (k := 12) e i24, ?_⟩ i24, fun q => absurd (by decide) q⟩⟩
      obtain ⟨r2, k2⟩ := r.wA (k := 12) (v := -1) t0 e i24
      exact hp _ _ _ r2 (k.tr k2) rfl (fun _ => e12) (sw_drop s.th)
    · rw [if_pos q] at hp
      obtain ⟨r, k⟩ := h.wI (k := 0) (v := 2) t0
      exact ⟨h.y7, r.y7, r.r0 ⟨fun q => absurd q (by decide), fun _ => hp _ _ _ r k rfl (fun q => absurd (show (3 : Nat) = 0 from q) (by decide)) s.th⟩⟩
  · rw [z] at hp
    obtain ⟨r, k⟩ := h.wI (k := 0) (v := 1) t0
    exact ⟨h.y7, r.y7, r.r0 ⟨fun q => absurd q (by decide), fun _ => hp _ _ _ r k rfl (fun q => absurd (show (1 : Nat) = 0 from q) (by decide)) s.th⟩⟩
theorem cm_advanceL (T1 : tt_T) (n0 : Nat) (hn0 : (tl T1 1).length = n0) (hl : n0 ≤ 24) (S0 : qs_S) (hp : ∀ S' M', tx_M S' y H M' → tx_J t0 S0 S' → mi M' 0 = 0 → sm (tt_ad T1 n0).2 M' → post (nI (tt_ad T1 n0).1) S') : ∀ (k i : Nat) (S : qs_S) (M : mm_M), i + k = n0 → tx_M S y H M → tx_J t0 S0 S → mi M 0 = 0 → sm (tt_ad T1 i).2 M → wp_X7_advance_b58 t0 m9 post (k + 1) S y (nI (tt_ad T1 i).1) (nI i) := by
  intro k
  induction k with
  | zero =>
    intro i S M hi h hk hz s
    have hi' : i = n0 := hi
    subst hi'
    refine ⟨h.y7, h.rI (k := 6) ?_⟩
    rw [s.i.2.2.1, tt_ad_l, hn0]
    exact ⟨fun _ => hp S M h hk hz s, fun z => absurd (nI_le (Nat.le_refl _) (by omega)) z⟩
  | succ k ih =>
    intro i S M hi h hk hz s
    have hlt : i < n0 := by omega
    have i24 : i < 24 := by omega
    refine ⟨h.y7, h.rI (k := 6) ?_⟩
    rw [s.i.2.2.1, tt_ad_l, hn0]
    have e12 : ma M 12 i = ti (tt_ad T1 i).2 1 7 i := (s.b i (by rw [tt_ad_l, hn0]; exact hlt)).2.2.2.2.2.1
    have nx : ∀ (r : Nat × tt_T) (S' : qs_S) (M' : mm_M), tt_ad T1 (i + 1) = r → tx_M S' y H M' → tx_J t0 S0 S' → mi M' 0 = 0 → sm r.2 M' → ∀ v : Int32, v = nI i + 1 → wp_X7_advance_b58 t0 m9 post (k + 1) S' y (nI r.1) v := by
      intro r S' M' er hr hk' hz' hs' v e
      rw [e, nI_1, ← er]
      rw [← er] at hs'
      exact ih (i + 1) S' M' (by omega) hr hk' hz' hs'
    refine ⟨fun z => absurd z (nI_ge hlt (by omega)), fun _ => h.rA (k := 12) (i := i) rfl ?_ i24⟩
    rw [e12]
    refine ⟨fun q => nx _ S M (if_neg (fun r => r.1 q)) h hk hz s, fun q1 => h.rA (k := 12) (i := i) rfl (h.rI (k := 1) ?_) i24⟩
    rw [e12, s.i.1]
    refine ⟨fun q => nx _ S M (if_neg (fun r => (Int32.not_lt.mpr q) r.2)) h hk hz s, fun q2 => ⟨_, h.ar 12, h.hk 12, h.vp (k := 12) rfl i24, fun v23 e23 => ?_⟩⟩
    obtain ⟨r2, k2⟩ := h.wA (k := 12) (x := nI i) (v := -1) t0 rfl i24
    rw [e23, nI_1]
    exact nx ((tt_ad T1 i).1 + 1, tt_db (tt_ad T1 i).2 i) _ _ (if_pos ⟨q1, Int32.not_le.mp q2⟩) r2 (hk.tr k2) hz (sw_drop s)
theorem cm_advance (h : tx_M S y H M) (s : sm T M) (I : iv T c) {x : Int32} (hp : ty_H cV post t0 S y H (tq_advance T x)) : wp_X7_advance t0 m9 post S y x := by
  unfold tq_advance at hp
  refine cy_in (fun z1 z2 => ⟨fun _ => ⟨h.y7, h.rI (k := 1) (fun v41 e41 => ?_)⟩, fun q => absurd q (by decide)⟩) (fun z => ⟨fun q => absurd rfl q, fun _ => ?_⟩)
  · rw [if_neg (fun r => r.elim z1 (fun r => z2 (Int32.not_le.mp r)))] at hp
    rw [e41, s.i.1]
    refine ⟨fun q => ?_, fun q => ?_⟩
    · rw [if_neg (fun r => r q)] at hp
      obtain ⟨r, k⟩ := h.wI (k := 0) (v := 0) t0
      have e1 : mi (mm_I M 0 0) 1 = ti T 6 6 0 := s.i.1
      refine ⟨h.y7, r.y7, r.r0 ⟨fun _ => r.rI (k := 1) (fun v31 e31 => ⟨(tl T 1).length + 1, ?_⟩), fun q => absurd (by decide) q⟩⟩
      rw [e31, e1]
      obtain ⟨r2, k2⟩ := r.wI (k := 1) (v := ti T 6 6 0 + x) t0
      exact cm_advanceL (tt_h1 T x) (tl T 1).length rfl I.n.2.1 S (fun S' M' r' k' z' s' => hp _ _ _ r' k' z' (fun _ => rfl) s') _ 0 _ _ (Nat.zero_add _) r2 (k.tr k2) rfl (sw_hour s.th)
    · rw [if_pos q] at hp
      obtain ⟨r, k⟩ := h.wI (k := 0) (v := 2) t0
      exact ⟨h.y7, r.y7, r.r0 ⟨fun q => absurd q (by decide), fun _ => hp _ _ _ r k rfl (fun q => absurd (show (3 : Nat) = 0 from q) (by decide)) s.th⟩⟩
  · rw [if_pos (z.elim Or.inl (fun z => Or.inr (Int32.not_le.mpr z)))] at hp
    obtain ⟨r, k⟩ := h.wI (k := 0) (v := 1) t0
    exact ⟨h.y7, r.y7, r.r0 ⟨fun q => absurd q (by decide), fun _ => hp _ _ _ r k rfl (fun q => absurd (show (2 : Nat) = 0 from q) (by decide)) s.th⟩⟩
theorem cm_leaveL (h0S : qs_S) (s : sm T M) (I : iv T c) {sh : Nat} (hs : sh < (tl T 0).length) (hp0 : tt_isOn T sh = false → ∀ S' M', tx_M S' y H M' → tx_J t0 h0S S' → mi M' 0 = 0 → sm (tt_I T 0 2 sh 1) M' → post (nI (tt_ct (tt_on T sh) (tl T 1).length)) S') (hp3 : tt_isOn T sh = true → ∀ S' M', tx_M S' y H M' → tx_J t0 h0S S' → mi M' 0 = 2 → sm T M' → post 0 S') : ∀ (k i : Nat) (S : qs_S), i + k = (tl T 1).length → (∀ i', i' < i → ¬ (tr T 1 0 i' = sh + 1 ∧ ti T 1 2 i' = 0)) → tx_M S y H (mm_I M 0 0) → tx_J t0 h0S S → wp_X7_leave_b21 t0 m9 post (k + 2) S y (nI sh) (nI (tt_ct (tt_on T sh) i)) (nI i) := by
  have hl := I.n.2.1
  have hl0 := I.n.1
  intro k
  induction k with
  | zero =>
    intro i S hi hno h hk
    have hi' : i = (tl T 1).length := hi
    subst hi'
    refine ⟨h.y7, h.rI (k := 6) ?_⟩
    have e6 : mi (mm_I M 0 0) 6 = nI (tl T 1).length := s.i.2.2.1
    rw [e6]
    refine ⟨fun _ => ⟨h.y7, h.r0 ⟨fun _ => ⟨_, h.ar 5, h.hk 5, h.vp (k := 5) rfl (by show sh < 10; omega), ?_⟩, fun q => absurd (by decide) q⟩⟩, fun z => absurd (nI_le (Nat.le_refl _) (by omega)) z⟩
    obtain ⟨r2, k2⟩ := h.wA (k := 5) (x := nI sh) (v := 1) t0 rfl (by show sh < 10; omega)
    refine hp0 ?_ _ _ r2 (hk.tr k2) rfl (sw_left s.th hs)
    cases hc : tt_isOn T sh with
    | false => rfl
    | true =>
      obtain ⟨i, hi, hi2⟩ := tt_isOn_iff.mp hc
      exact absurd hi2 (hno i hi)
  | succ k ih =>
    intro i S hi hno h hk
    have hlt : i < (tl T 1).length := by omega
    have i24 : i < 24 := by omega
    have e6 : mi (mm_I M 0 0) 6 = nI (tl T 1).length := s.i.2.2.1
    have sb := s.b i hlt
    have e7 : ma (mm_I M 0 0) 7 i = nI (tr T 1 0 i - 1) := sb.1
    have e9 : ma (mm_I M 0 0) 9 i = ti T 1 2 i := sb.2.2.1
    obtain ⟨s', hs', es'⟩ := I.h.2.2.2 i hlt
    have e7' : ma (mm_I M 0 0) 7 i = nI s' := by rw [e7, es']; rfl
    have es : tt_ct (tt_on T sh) (i + 1) = tt_ct (tt_on T sh) i + (if tt_on T sh i = true then 1 else 0) := rfl
    have b60 : ¬ (tr T 1 0 i = sh + 1 ∧ ti T 1 2 i = 0) → wp_X7_leave_b60 t0 m9 post (wp_X7_leave_b21 t0 m9 post (k + 2)) S y (nI sh) (nI (tt_ct (tt_on T sh) i)) (nI i) y := by
      intro hn
      obtain ⟨r, k1⟩ := h.wI (k := 0) (v := 0) t0
      have er : mm_I (mm_I M 0 0) 0 0 = mm_I M 0 0 := mm_II
      rw [er] at r
      refine ⟨h.y7, r.y7, r.rA (k := 7) (i := i) rfl ?_ i24⟩
      rw [e7']
      have go : ∀ n, n = tt_ct (tt_on T sh) (i + 1) → wp_X7_leave_b21 t0 m9 post (k + 2) (qs_wI S 0 y 0) y (nI sh) (nI n) (nI (i + 1)) := by
        intro n en
        rw [en]
        refine ih (i + 1) _ (by omega) (fun i' hi' => ?_) r (hk.tr k1)
        by_cases z : i' = i
        · rw [z]; exact hn
        · exact hno i' (by omega)
      refine ⟨fun q v1 e1 v2 e2 => ?_, fun q v1 e1 v2 e2 => ?_⟩
      · rw [e1, e2, nI_1, Int32.add_zero]
        refine go _ ?_
        rw [es, if_neg]
        · rfl
        · rw [show tt_on T sh i = false from decide_eq_false (fun z => q (by rw [es'] at z; rw [Nat.succ.inj z]))]
          decide
      · rw [e1, e2, nI_1, nI_1]
        refine go _ ?_
        have : s' = sh := (nI_eq (by omega) (by omega)).mp q
        rw [es, if_pos (show tt_on T sh i = true from decide_eq_true (by rw [es', this]))]
    refine ⟨h.y7, h.rI (k := 6) ?_⟩
    rw [e6]
    refine ⟨fun z => absurd z (nI_ge hlt (by omega)), fun _ => h.r0 ⟨fun q => absurd rfl q, fun _ => h.rA (k := 7) (i := i) rfl ?_ i24⟩⟩
    rw [e7']
    refine ⟨fun q => b60 (fun z => q ?_), fun q => h.rA (k := 9) (i := i) rfl ?_ i24⟩
    · have z1 := z.1
      rw [es'] at z1
      rw [Nat.succ.inj z1]
    rw [e9]
    refine ⟨fun z => b60 (fun r => z r.2), fun z => ?_⟩
    have ess : s' = sh := (nI_eq (by omega) (by omega)).mp q
    have hon : tt_isOn T sh = true := tt_isOn_iff.mpr ⟨i, hlt, by rw [es', ess], z⟩
    obtain ⟨r, k1⟩ := h.wI (k := 0) (v := 2) t0
    have er : mm_I (mm_I M 0 0) 0 2 = mm_I M 0 2 := mm_II
    rw [er] at r
    refine ⟨h.y7, r.y7, r.rA (k := 7) (i := i) rfl ?_ i24⟩
    have e72 : ma (mm_I M 0 2) 7 i = nI s' := e7'
    rw [e72]
    have fin : ∀ v1 v2 : Int32, v2 = nI i + 1 → wp_X7_leave_b21 t0 m9 post (k + 2) (qs_wI S 0 y 2) y (nI sh) v1 v2 := by
      intro v1 v2 e2
      rw [e2, nI_1]
      have b88 : wp_X7_leave_b88 t0 m9 post (qs_wI S 0 y 2) y (nI sh) v1 := ⟨r.y7, r.r0 ⟨fun q => absurd q (by decide), fun _ => hp3 hon _ _ r (hk.tr k1) rfl s.th⟩⟩
      refine ⟨r.y7, r.rI (k := 6) ⟨fun _ => b88, fun _ => r.r0 ⟨fun _ => b88, fun q => absurd q (by decide)⟩⟩⟩
    exact ⟨fun q v1 _ v2 e2 => fin v1 v2 e2, fun q v1 _ v2 e2 => fin v1 v2 e2⟩
theorem cm_leave (h : tx_M S y H M) (s : sm T M) (I : iv T c) {x : Int32} (hp : ty_H cB post t0 S y H (tq_leave T x)) : wp_X7_leave t0 m9 post S y x := by
  unfold tq_leave at hp
  have hl := I.n.1
  have hl1 := I.n.2.1
  refine ⟨h.y7, cy_isShip h s I (fun i hi e z => ⟨fun q => absurd q (by decide), fun _ => ⟨h.y7, (tl T 1).length + 2, ?_⟩⟩) (fun z => ⟨fun _ => ⟨h.y7, 1, ?_⟩, fun q => absurd rfl q⟩)⟩
  · obtain ⟨r, k⟩ := h.wI (k := 0) (v := 0) t0
    rw [e, tt_ix_in hi (by omega)] at hp
    simp only at hp
    rw [if_neg (fun q => q z)] at hp
    rw [e]
    refine cm_leaveL S s I hi (fun q S' M' r' k' z' s' => ?_) (fun q S' M' r' k' z' s' => ?_) _ 0 _ (Nat.zero_add _) (fun _ z => absurd z (Nat.not_lt_zero _)) r k
    · rw [if_neg (by rw [q]; decide)] at hp
      exact hp _ _ _ r' k' z' (fun _ => rfl) s'
    · rw [if_pos q] at hp
      exact hp _ _ _ r' k' z' (fun q => absurd (show (3 : Nat) = 0 from q) (by decide)) s'
  · have hp1 : ty_H cB post t0 S y H (1, 0, T) := by
      cases hx : tt_ix x (tl T 0).length with
      | zero =>
        simp only [hx] at hp
        exact hp
      | succ j =>
        simp only [hx] at hp
        obtain ⟨hj, e⟩ := tt_ix_eq (by omega) hx
        rw [if_pos (z j hj e)] at hp
        exact hp
    obtain ⟨r, k⟩ := h.wI (k := 0) (v := 1) t0
    have b88 : ∀ v1, wp_X7_leave_b88 t0 m9 post (qs_wI S 0 y 1) y x v1 := fun v1 => ⟨r.y7, r.r0 ⟨fun q => absurd q (by decide), fun _ => hp1 _ _ _ r k rfl (fun q => absurd (show (1 : Nat) = 0 from q) (by decide)) s.th⟩⟩
    exact ⟨r.y7, r.rI (k := 6) ⟨fun _ => b88 _, fun _ => r.r0 ⟨fun _ => b88 _, fun q => absurd q (by decide)⟩⟩⟩
end TYA
