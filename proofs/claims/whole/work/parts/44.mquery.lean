/-! ===== what the reference answers where nothing changes ===== -/
def cA (e : Nat) : Nat := e
def cB (e : Nat) : Nat := if e = 3 then 2 else e
def cS (e : Nat) : Nat := if e = 1 then 2 else if e = 2 then 1 else e
def cV (e : Nat) : Nat := if e = 2 then 1 else if e = 3 then 2 else e
def ty_H (cd : Nat → Nat) (post : Int32 → qs_S → Prop) (t0 : Nat) (S : qs_S) (y : Nat) (H : Nat → Nat) (r : tq_r) : Prop :=
  ∀ S' M' v, tx_M S' y H M' → tx_J t0 S S' → mi M' 0 = nI (cd r.1) → (r.1 = 0 → v = r.2.1) → sm r.2.2 M' → post v S'
theorem tt_ix_0 {x : Int32} {n : Nat} (h : tt_ix x n = 0) : x < 0 ∨ ¬ x < nI n := by
  unfold tt_ix at h
  by_cases q : x < 0 ∨ ¬ x < nI n
  · exact q
  · rw [if_neg q] at h
    omega
section TYQ
variable {t0 m9 y c : Nat} {S : qs_S} {T : tt_T} {H : Nat → Nat} {M : mm_M} {post : Int32 → qs_S → Prop}
theorem tx_M.r0 {v : Int32} (h : tx_M S y H (mm_I M 0 v)) {P : Int32 → Prop} (p : P v) : ∀ x : Int32, x = qs_I S 0 y → P x := h.rI (k := 0) p
theorem cy_thrown (h : tx_M S y H M) (hp : post (mi M 0) S) : wp_X7_thrown t0 m9 post S y := ⟨h.y7, h.rI (k := 0) hp⟩
theorem cm_hour (h : tx_M S y H M) (s : sm T M) (hp : ty_H cA post t0 S y H (tq_hour T)) : wp_X7_hour t0 m9 post S y := by
  obtain ⟨r, k⟩ := h.wI (k := 0) (v := 0) t0
  exact ⟨h.y7, r.rI (k := 1) (hp _ _ _ r k rfl (fun _ => s.i.1) s.th)⟩
theorem cm_boxes (h : tx_M S y H M) (s : sm T M) (hp : ty_H cA post t0 S y H (tq_boxes T)) : wp_X7_boxes t0 m9 post S y := by
  obtain ⟨r, k⟩ := h.wI (k := 0) (v := 0) t0
  exact ⟨h.y7, r.rI (k := 6) (hp _ _ _ r k rfl (fun _ => s.i.2.2.1) s.th)⟩
theorem cm_moves (h : tx_M S y H M) (s : sm T M) (hp : ty_H cA post t0 S y H (tq_moves T)) : wp_X7_moves t0 m9 post S y := by
  obtain ⟨r, k⟩ := h.wI (k := 0) (v := 0) t0
  exact ⟨h.y7, r.rI (k := 27) (hp _ _ _ r k rfl (fun _ => s.i.2.2.2.2.2) s.th)⟩
theorem cm_unheard (h : tx_M S y H M) (s : sm T M) (hp : ty_H cA post t0 S y H (tq_unheard T)) : wp_X7_unheard t0 m9 post S y := by
  obtain ⟨r, k⟩ := h.wI (k := 0) (v := 0) t0
  refine ⟨h.y7, r.rI (k := 25) (r.rI (k := 27) (fun v e => ?_))⟩
  refine hp _ _ v r k rfl (fun _ => ?_) s.th
  have e1 : mi (mm_I M 0 0) 25 = ti T 6 7 0 := s.i.2.2.2.2.1
  have e2 : mi (mm_I M 0 0) 27 = nI (tl T 3).length := s.i.2.2.2.2.2
  rw [e, e1, e2]
  rfl
theorem cy_asksBox (h : tx_M S y H M) (s : sm T M) (I : iv T c) {v : Int32} (h1 : ∀ S', tx_M S' y H (mm_I M 0 0) → tx_J t0 S S' → ∀ i, i < (tl T 1).length → v = nI i → post 1 S') (h0 : ∀ S', tx_M S' y H (mm_I M 0 1) → tx_J t0 S S' → tt_ix v (tl T 1).length = 0 → post 0 S') : wp_X7_asksBox t0 m9 post S y v := by
  refine ⟨h.y7, cy_isBox h s I (fun i hi e => ⟨fun z => absurd z (by decide), fun _ => ?_⟩) (fun z => ⟨fun _ => ?_, fun q => absurd rfl q⟩)⟩
  · obtain ⟨r, k⟩ := h.wI (k := 0) (v := 0) t0
    exact ⟨h.y7, r.y7, r.r0 ⟨fun q => absurd rfl q, fun _ => ⟨Or.inr rfl, h1 _ r k i hi e⟩⟩⟩
  · obtain ⟨r, k⟩ := h.wI (k := 0) (v := 1) t0
    exact ⟨h.y7, r.y7, r.r0 ⟨fun _ => ⟨Or.inl rfl, h0 _ r k z⟩, fun q => absurd q (by decide)⟩⟩
theorem cy_asksMessage (h : tx_M S y H M) (s : sm T M) (I : iv T c) {v : Int32} (h1 : ∀ S', tx_M S' y H (mm_I M 0 0) → tx_J t0 S S' → ∀ i, i < (tl T 2).length → v = nI i → post 1 S') (h0 : ∀ S', tx_M S' y H (mm_I M 0 1) → tx_J t0 S S' → tt_ix v (tl T 2).length = 0 → post 0 S') : wp_X7_asksMessage t0 m9 post S y v := by
  have hl := I.n.2.2
  refine ⟨h.y7, h.rI (k := 18) (fun v11 e11 => cy_inx (n := (tl T 2).length) (by omega) (by rw [e11, s.i.2.2.2.1]) (fun i hi e => ⟨fun z => absurd z (by decide), fun _ => ?_⟩) (fun z => ⟨fun _ => ?_, fun q => absurd rfl q⟩))⟩
  · obtain ⟨r, k⟩ := h.wI (k := 0) (v := 0) t0
    exact ⟨h.y7, r.y7, r.r0 ⟨fun q => absurd rfl q, fun _ => ⟨Or.inr rfl, h1 _ r k i hi e⟩⟩⟩
  · obtain ⟨r, k⟩ := h.wI (k := 0) (v := 1) t0
    exact ⟨h.y7, r.y7, r.r0 ⟨fun _ => ⟨Or.inl rfl, h0 _ r k z⟩, fun q => absurd q (by decide)⟩⟩
theorem cm_whereIs (h : tx_M S y H M) (s : sm T M) (I : iv T c) {x : Int32} (hp : ty_H cA post t0 S y H (tq_whereIs T x)) : wp_X7_whereIs t0 m9 post S y x := by
  have hl := I.n.2.1
  unfold tq_whereIs at hp
  refine ⟨h.y7, cy_asksBox h s I (fun S1 r1 k1 i hi e => ⟨fun _ => ⟨r1.y7, ?_⟩, fun q => absurd q (by decide)⟩) (fun S1 r1 k1 z => ⟨fun q => absurd rfl q, fun _ => ?_⟩)⟩
  · rw [e, tt_ix_in hi (by omega)] at hp
    rw [e]
    have i24 : i < 24 := by omega
    have sb := s.b i hi
    have b9 : ma (mm_I M 0 0) 9 i = ti T 1 2 i := sb.2.2.1
    obtain ⟨p, hp16, ep⟩ := (I.b i hi).1
    obtain ⟨q, hq5, eq⟩ := (I.b i hi).2.1
    have fin : ∀ s0 : Int32, 100 * ti T 1 2 i + s0 = (if ti T 1 2 i = 3 then 300 + 10 * ti T 1 3 i + ti T 1 4 i else 100 * ti T 1 2 i + ti T 1 3 i) → wp_X7_whereIs_b64 t0 m9 post S1 y (nI i) s0 := by
      intro s0 es
      refine ⟨r1.y7, r1.rA (k := 9) (i := i) rfl (fun v8 e8 v9 e9 => hp _ _ v9 r1 k1 rfl (fun _ => ?_) s.th) i24⟩
      rw [e9, e8, b9]
      exact es
    refine r1.rA (k := 9) (i := i) rfl ?_ i24
    rw [b9]
    refine ⟨fun q1 => r1.rA (k := 9) (i := i) rfl ?_ i24, fun q1 => r1.rA (k := 8) (i := i) rfl (fin _ ?_) i24⟩
    · rw [b9]
      have n0 : ti T 1 2 i ≠ 0 := fun z => by rw [z] at q1; exact absurd q1 (by decide)
      have n1 : ti T 1 2 i ≠ 1 := fun z => by rw [z] at q1; exact absurd q1 (by decide)
      have b10 : ma (mm_I M 0 0) 10 i = ti T 1 3 i := sb.2.2.2.1 n0 n1
      refine ⟨fun q3 => r1.rA (k := 10) (i := i) rfl (fin _ ?_) i24, fun q3 => r1.rA (k := 10) (i := i) rfl (fun v41 e41 => r1.rA (k := 15) (i := i) rfl (fun v47 e47 => fin _ ?_) i24) i24⟩
      · rw [if_neg q3, b10]
      · have b15 : ma (mm_I M 0 0) 15 i = ti T 1 4 i := sb.2.2.2.2.2.2.2 q3
        rw [if_pos q3, q3, e47, e41, b10, b15]
        show (300 : Int32) + (10 * ti T 1 3 i + ti T 1 4 i) = 300 + 10 * ti T 1 3 i + ti T 1 4 i
        rw [Int32.add_assoc]
    · have b8 : ma (mm_I M 0 0) 8 i = ti T 1 1 i := sb.2.1
      have le1 : ti T 1 2 i = 0 ∨ ti T 1 2 i = 1 := by
        rw [eq] at q1 ⊢
        have : ¬ 1 < q := fun z => q1 (nI_lt (a := 1) z (by omega))
        rcases (show q = 0 ∨ q = 1 by omega) with z | z
        · exact Or.inl (by rw [z]; rfl)
        · exact Or.inr (by rw [z]; rfl)
      have n3 : ti T 1 2 i ≠ 3 := fun z => by
        rcases le1 with w | w
        · rw [w] at z; exact absurd z (by decide)
        · rw [w] at z; exact absurd z (by decide)
      rw [if_neg n3, b8, (I.b i hi).2.2.1 le1]
  · rw [z] at hp
    exact hp _ _ _ r1 k1 rfl (fun q => absurd (show (1 : Nat) = 0 from q) (by decide)) s.th
theorem cm_liftedBy (h : tx_M S y H M) (s : sm T M) (I : iv T c) {x : Int32} (hp : ty_H cA post t0 S y H (tq_boxI 5 T x)) : wp_X7_liftedBy t0 m9 post S y x := by
  have hl := I.n.2.1
  unfold tq_boxI at hp
  refine ⟨h.y7, cy_asksBox h s I (fun S1 r1 k1 i hi e => ⟨fun q => absurd q (by decide), fun _ => ⟨r1.y7, ?_⟩⟩) (fun S1 r1 k1 z => ⟨fun _ => ?_, fun q => absurd rfl q⟩)⟩
  · rw [e, tt_ix_in hi (by omega)] at hp
    exact r1.rA (k := 11) (i := i) e (hp _ _ _ r1 k1 rfl (fun _ => (s.b i hi).2.2.2.2.1) s.th) (by show i < 24; omega)
  · rw [z] at hp
    exact hp _ _ _ r1 k1 rfl (fun q => absurd (show (1 : Nat) = 0 from q) (by decide)) s.th
theorem cm_bookedFor (h : tx_M S y H M) (s : sm T M) (I : iv T c) {x : Int32} (hp : ty_H cA post t0 S y H (tq_boxI 7 T x)) : wp_X7_bookedFor t0 m9 post S y x := by
  have hl := I.n.2.1
  unfold tq_boxI at hp
  refine ⟨h.y7, cy_asksBox h s I (fun S1 r1 k1 i hi e => ⟨fun q => absurd q (by decide), fun _ => ⟨r1.y7, ?_⟩⟩) (fun S1 r1 k1 z => ⟨fun _ => ?_, fun q => absurd rfl q⟩)⟩
  · rw [e, tt_ix_in hi (by omega)] at hp
    exact r1.rA (k := 12) (i := i) e (hp _ _ _ r1 k1 rfl (fun _ => (s.b i hi).2.2.2.2.2.1) s.th) (by show i < 24; omega)
  · rw [z] at hp
    exact hp _ _ _ r1 k1 rfl (fun q => absurd (show (1 : Nat) = 0 from q) (by decide)) s.th
theorem cm_handed (h : tx_M S y H M) (s : sm T M) (I : iv T c) {x : Int32} (hp : ty_H cA post t0 S y H (tq_handed T x)) : wp_X7_handed t0 m9 post S y x := by
  have hl := I.n.2.2
  unfold tq_handed at hp
  refine ⟨h.y7, cy_asksMessage h s I (fun S1 r1 k1 i hi e => ⟨fun q => absurd q (by decide), fun _ => ⟨r1.y7, ?_⟩⟩) (fun S1 r1 k1 z => ⟨fun _ => ?_, fun q => absurd rfl q⟩)⟩
  · rw [e, tt_ix_in hi (by omega)] at hp
    exact r1.rA (k := 22) (i := i) e (hp _ _ _ r1 k1 rfl (fun _ => (s.m i hi).2.2.2.1) s.th) (by show i < 80; omega)
  · rw [z] at hp
    exact hp _ _ _ r1 k1 rfl (fun q => absurd (show (1 : Nat) = 0 from q) (by decide)) s.th
theorem iv.om (I : iv T c) (hc : c < 2 ^ 30) {m : Nat} (hm : m < (tl T 2).length) : (ti T 2 5 m + 1 ≤ 0 ↔ ti T 2 5 m = -1) := by
  obtain ⟨hr, k, -, -, -, hk, ho⟩ := I.t
  rcases ho m hm with z | ⟨o, ho, z⟩
  · rw [z]
    exact ⟨fun _ => rfl, fun _ => by decide⟩
  · rw [z, nI_1]
    refine ⟨fun q => ?_, fun q => absurd q (ps_ne1 (by omega))⟩
    exact absurd q (nI_nle (by omega) (by omega))
theorem cm_isDone (h : tx_M S y H M) (s : sm T M) (I : iv T c) (hc : c < 2 ^ 30) {x : Int32} (hp : ty_H cA post t0 S y H (tq_isDone T x)) : wp_X7_isDone t0 m9 post S y x := by
  have hl := I.n.2.2
  unfold tq_isDone at hp
  refine ⟨h.y7, cy_asksMessage h s I (fun S1 r1 k1 i hi e => ⟨fun q => absurd q (by decide), fun _ => ⟨r1.y7, ?_⟩⟩) (fun S1 r1 k1 z => ⟨fun _ => ⟨Or.inl rfl, ?_⟩, fun q => absurd rfl q⟩)⟩
  · rw [e, tt_ix_in hi (by omega)] at hp
    refine r1.rA (k := 23) (i := i) e ?_ (by show i < 80; omega)
    have e23 : ma (mm_I M 0 0) 23 i = ti T 2 5 i + 1 := (s.m i hi).2.2.2.2.1
    rw [e23]
    refine ⟨fun q => ⟨Or.inl rfl, hp _ _ _ r1 k1 rfl (fun _ => ?_) s.th⟩, fun q => ⟨Or.inr rfl, hp _ _ _ r1 k1 rfl (fun _ => ?_) s.th⟩⟩
    · exact (if_pos ((I.om hc hi).mp q)).symm
    · exact (if_neg (fun z => q ((I.om hc hi).mpr z))).symm
  · rw [z] at hp
    exact hp _ _ _ r1 k1 rfl (fun q => absurd (show (1 : Nat) = 0 from q) (by decide)) s.th
theorem cm_placeOf (h : tx_M S y H M) (s : sm T M) {x : Int32} (hp : ty_H cA post t0 S y H (tq_placeOf T x)) : wp_X7_placeOf t0 m9 post S y x := by
  unfold tq_placeOf at hp
  refine cy_isCrane (fun i hi e => ⟨fun q => absurd q (by decide), fun _ => ?_⟩) (fun z => ⟨fun _ => ?_, fun q => absurd rfl q⟩)
  · obtain ⟨r, k⟩ := h.wI (k := 0) (v := 0) t0
    rw [e, tt_ix_in hi (by omega)] at hp
    exact ⟨h.y7, r.y7, r.r0 ⟨fun _ => r.rA (k := 16) (i := i) e (hp _ _ _ r k rfl (fun _ => (s.w i (by omega)).1 hi) s.th) hi, fun q => absurd (by decide) q⟩⟩
  · obtain ⟨r, k⟩ := h.wI (k := 0) (v := 1) t0
    rw [z] at hp
    exact ⟨h.y7, r.y7, r.r0 ⟨fun q => absurd q (by decide), fun _ => hp _ _ _ r k rfl (fun q => absurd (show (1 : Nat) = 0 from q) (by decide)) s.th⟩⟩
theorem cm_height (h : tx_M S y H M) (s : sm T M) {x : Int32} (hp : ty_H cA post t0 S y H (tq_height T x)) : wp_X7_height t0 m9 post S y x := by
  unfold tq_height at hp
  refine cy_inx (n := 6) (by decide) rfl (fun i hi e => ⟨fun q => absurd q (by decide), fun _ => ?_⟩) (fun z => ⟨fun _ => ?_, fun q => absurd rfl q⟩)
  · obtain ⟨r, k⟩ := h.wI (k := 0) (v := 0) t0
    rw [e, tt_ix_in hi (by omega)] at hp
    exact ⟨h.y7, r.y7, r.r0 ⟨fun _ => r.rA (k := 14) (i := i) e (hp _ _ _ r k rfl (fun _ => s.h i hi) s.th) hi, fun q => absurd (by decide) q⟩⟩
  · obtain ⟨r, k⟩ := h.wI (k := 0) (v := 1) t0
    rw [z] at hp
    exact ⟨h.y7, r.y7, r.r0 ⟨fun q => absurd q (by decide), fun _ => hp _ _ _ r k rfl (fun q => absurd (show (1 : Nat) = 0 from q) (by decide)) s.th⟩⟩
theorem cm_queue (h : tx_M S y H M) (s : sm T M) {x : Int32} (hp : ty_H cA post t0 S y H (tq_queue T x)) : wp_X7_queue t0 m9 post S y x := by
  unfold tq_queue at hp
  refine cy_isWorker (fun i hi e => ⟨fun q => absurd q (by decide), fun _ => ?_⟩) (fun z => ⟨fun _ => ?_, fun q => absurd rfl q⟩)
  · obtain ⟨r, k⟩ := h.wI (k := 0) (v := 0) t0
    rw [e, tt_ix_in hi (by omega)] at hp
    exact ⟨h.y7, r.y7, r.r0 ⟨fun _ => r.rA (k := 29) (i := i) e (hp _ _ _ r k rfl (fun _ => (s.q i hi).1) s.th) hi, fun q => absurd (by decide) q⟩⟩
  · obtain ⟨r, k⟩ := h.wI (k := 0) (v := 1) t0
    rw [z] at hp
    exact ⟨h.y7, r.y7, r.r0 ⟨fun q => absurd q (by decide), fun _ => hp _ _ _ r k rfl (fun q => absurd (show (1 : Nat) = 0 from q) (by decide)) s.th⟩⟩
theorem cm_seen (h : tx_M S y H M) (s : sm T M) {x : Int32} (hp : ty_H cA post t0 S y H (tq_seen T x)) : wp_X7_seen t0 m9 post S y x := by
  unfold tq_seen at hp
  refine cy_isTruck (fun i h4 hi e => ⟨fun q => absurd q (by decide), fun _ => ?_⟩) (fun z => ⟨fun _ => ?_, fun q => absurd rfl q⟩)
  · obtain ⟨r, k⟩ := h.wI (k := 0) (v := 0) t0
    rw [e, tt_tx_in h4 hi] at hp
    have e34 := (s.w i hi).2.2.2.2.2 h4
    cases hq : tr T 3 7 i with
    | zero =>
      simp only [hq] at hp
      rw [hq] at e34
      exact ⟨h.y7, r.y7, r.r0 ⟨fun _ => r.rA (k := 34) (i := i) e (hp _ _ _ r k rfl (fun _ => e34) s.th) hi, fun q => absurd (by decide) q⟩⟩
    | succ m =>
      simp only [hq] at hp
      rw [hq] at e34
      exact ⟨h.y7, r.y7, r.r0 ⟨fun _ => r.rA (k := 34) (i := i) e (hp _ _ _ r k rfl (fun _ => e34) s.th) hi, fun q => absurd (by decide) q⟩⟩
  · obtain ⟨r, k⟩ := h.wI (k := 0) (v := 1) t0
    rw [z] at hp
    exact ⟨h.y7, r.y7, r.r0 ⟨fun q => absurd q (by decide), fun _ => hp _ _ _ r k rfl (fun q => absurd (show (1 : Nat) = 0 from q) (by decide)) s.th⟩⟩
theorem cm_moveAt (h : tx_M S y H M) (s : sm T M) (I : iv T c) {x : Int32} (hp : ty_H cA post t0 S y H (tq_moveAt T x)) : wp_X7_moveAt t0 m9 post S y x := by
  unfold tq_moveAt at hp
  have hl := I.len (j := 3) (Or.inl rfl) (by omega)
  refine ⟨h.y7, h.rI (k := 27) (fun v15 e15 => cy_inx (n := (tl T 3).length) (by omega) (by rw [e15, s.i.2.2.2.2.2]) (fun i hi e => ⟨fun q => absurd q (by decide), fun _ => ?_⟩) (fun z => ⟨fun _ => ?_, fun q => absurd rfl q⟩))⟩
  · obtain ⟨r, k⟩ := h.wI (k := 0) (v := 0) t0
    rw [e, tt_ix_in hi (by omega)] at hp
    exact ⟨h.y7, r.y7, r.r0 ⟨fun _ => r.rA (k := 28) (i := i) e (hp _ _ _ r k rfl (fun _ => s.l i hi) s.th) (by show i < 80; omega), fun q => absurd (by decide) q⟩⟩
  · obtain ⟨r, k⟩ := h.wI (k := 0) (v := 1) t0
    rw [z] at hp
    exact ⟨h.y7, r.y7, r.r0 ⟨fun q => absurd q (by decide), fun _ => hp _ _ _ r k rfl (fun q => absurd (show (1 : Nat) = 0 from q) (by decide)) s.th⟩⟩
theorem cm_queued (h : tx_M S y H M) (s : sm T M) (I : iv T c) {x z : Int32} (hp : ty_H cA post t0 S y H (tq_queued T x z)) : wp_X7_queued t0 m9 post S y x z := by
  unfold tq_queued at hp
  have no : ty_H cA post t0 S y H (1, 0, T) → wp_X7_queued_b28 t0 m9 post S y x z y := by
    intro hp
    obtain ⟨r, k⟩ := h.wI (k := 0) (v := 1) t0
    exact ⟨h.y7, r.y7, r.r0 ⟨fun q => absurd q (by decide), fun _ => hp _ _ _ r k rfl (fun q => absurd (show (1 : Nat) = 0 from q) (by decide)) s.th⟩⟩
  refine cy_isWorker (fun w hw e => ⟨fun q => absurd q (by decide), fun _ => ⟨h.y7, h.rA (k := 29) (i := w) e (fun v26 e26 => ?_) hw⟩⟩) (fun q => ⟨fun _ => ?_, fun q => absurd rfl q⟩)
  · rw [e, tt_ix_in hw (by omega)] at hp
    have hl := I.len (j := 6 + w) (Or.inr (by omega)) (by omega)
    obtain ⟨q1, q2⟩ := s.q w hw
    refine cy_inx (n := (tl T (6 + w)).length) (by omega) (by rw [e26, q1]) (fun i hi e' => ⟨fun q => absurd q (by decide), fun _ => ?_⟩) (fun q => ⟨fun _ => ?_, fun q => absurd rfl q⟩)
    · obtain ⟨r, k⟩ := h.wI (k := 0) (v := 0) t0
      simp only [e', tt_ix_in hi (show (tl T (6 + w)).length < 2 ^ 31 by omega)] at hp
      refine ⟨h.y7, r.y7, r.r0 ⟨fun _ => ⟨_, r.ar 30, fun v8 e8 v9 e9 => r.rB (k := 30) (i := 80 * w + i) ?_ (hp _ _ _ r k rfl (fun _ => q2 i hi) s.th) (by show 80 * w + i < 640; omega)⟩, fun q => absurd (by decide) q⟩⟩
      rw [e9, e8, e, e', ← nI_add]
      congr 1
      exact pk_mul 80 w
    · simp only [q] at hp
      exact no hp
  · rw [q] at hp
    exact no hp
end TYQ
