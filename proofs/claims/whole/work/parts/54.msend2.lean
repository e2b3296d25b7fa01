/-! ===== what is sent, in the reference; the invariants behind each call ===== -/
section ST
variable {T : tt_T} {M : mm_M} {c : Nat}
theorem tt_isF_in {k w : Int32} : (¬ w < nI (tt_ff k) ∧ ¬ nI (tt_ff k) + 3 < w) ↔ tt_isF k w := by
  unfold tt_isF tt_ff
  have i3 : (3 : Int32) < w ↔ 4 ≤ w := by
    rw [Int32.lt_iff_toInt_lt, Int32.le_iff_toInt_le]
    show 3 < w.toInt ↔ 4 ≤ w.toInt
    omega
  have i7 : (7 : Int32) < w ↔ 8 ≤ w := by
    rw [Int32.lt_iff_toInt_lt, Int32.le_iff_toInt_le]
    show 7 < w.toInt ↔ 8 ≤ w.toInt
    omega
  by_cases z : k = 0
  · rw [if_pos z, show nI 0 + 3 = 3 by decide, show nI 0 = 0 from nI_0, i3]
    exact ⟨fun q => Or.inl ⟨z, q.1, q.2⟩, fun q => q.elim (fun q => q.2) (fun q => absurd z q.1)⟩
  · rw [if_neg z, show nI 4 + 3 = 7 by decide, show nI 4 = 4 by decide, i7]
    exact ⟨fun q => Or.inr ⟨z, q.1, q.2⟩, fun q => q.elim (fun q => absurd q.1 z) (fun q => q.2)⟩
theorem tt_isF_nI {k w : Int32} (h : tt_isF k w) : ∃ r, r < 8 ∧ w = nI r := by
  have i4 : (4 : Int32) ≤ w ↔ 4 ≤ w.toInt := Int32.le_iff_toInt_le
  have i8 : (8 : Int32) ≤ w ↔ 8 ≤ w.toInt := Int32.le_iff_toInt_le
  have l4 : w < 4 ↔ w.toInt < 4 := Int32.lt_iff_toInt_lt
  have l0 : w < 0 ↔ w.toInt < 0 := Int32.lt_iff_toInt_lt
  refine ps_sm (by decide) (fun q => ?_) (Int32.lt_iff_toInt_lt.mpr ?_)
  · rw [l0] at q
    rcases h with h | h
    · exact h.2.1 (l0.mpr q)
    · exact h.2.1 (l4.mpr (by omega))
  · show w.toInt < 8
    rcases h with h | h
    · have := h.2.2
      rw [i4] at this
      omega
    · have := h.2.2
      rw [i8] at this
      omega
theorem tt_bs_F {k : Int32} {n r : Nat} (h : tt_bs T k n = r + 1) : r < n ∧ tt_isF k (nI r) := by
  rcases bs_up (T := T) (k := k) n with ⟨e, -⟩ | ⟨w, e, h1, -⟩
  · rw [e] at h
    omega
  · rw [e] at h
    have : w = r := Nat.succ.inj h
    rw [← this]
    exact ⟨h1.1, h1.2.1⟩
theorem tt_rv_F {k w : Int32} {r : Nat} (hw : ¬ (w ≠ -1 ∧ ¬ tt_isF k w)) (h : tt_rv T k w = r + 1) : r < 8 ∧ tt_isF k (nI r) := by
  unfold tt_rv at h
  by_cases z : w = -1
  · rw [if_pos z] at h
    exact tt_bs_F h
  · rw [if_neg z] at h
    obtain ⟨h8, e⟩ := tt_ix_eq (by decide) h
    have := Classical.byContradiction (fun q => hw ⟨z, q⟩)
    rw [e] at this
    exact ⟨h8, this⟩
theorem iw_send (I : iv T c) {k x t w : Int32} : iv (tq_send T k x t w).2.2 c := by
  unfold tq_send
  by_cases c1 : k < 0 ∨ ¬ k ≤ 2
  · rw [if_pos c1]; exact I
  rw [if_neg c1]
  cases hx : tt_ix x (tl T 1).length with
  | zero => exact I
  | succ b =>
    have n1 := I.n.2.1
    obtain ⟨hb, -⟩ := tt_ix_eq (by omega) hx
    simp only
    by_cases c2 : t < 0 ∨ ¬ t < tt_to k
    · rw [if_pos c2]; exact I
    rw [if_neg c2]
    by_cases c3 : w ≠ -1 ∧ ¬ tt_isF k w
    · rw [if_pos c3]; exact I
    rw [if_neg c3]
    cases hr : tt_rv T k w with
    | zero => exact I
    | succ r =>
      simp only
      by_cases c4 : 80 ≤ (tl T 2).length
      · rw [if_pos c4]; exact I
      rw [if_neg c4]
      obtain ⟨hr8, hF⟩ := tt_rv_F c3 hr
      have k0 : ¬ k < 0 := fun q => c1 (Or.inl q)
      obtain ⟨j, hj, ej⟩ := nI_of k0
      have hj2 : j ≤ 2 := by
        have : k ≤ 2 := Classical.byContradiction (fun q => c1 (Or.inr q))
        rw [ej] at this
        exact (nI_leI (b := 2) hj (by decide)).mp this
      refine iw_sd I ?_ (fun hk1 => ?_) hb (by omega) hr8 (fun h4 => ?_)
      · rw [ej]
        rcases (show j = 0 ∨ j = 1 ∨ j = 2 by omega) with q | q | q
        · rw [q]; exact Or.inl nI_0
        · rw [q]; exact Or.inr (Or.inl rfl)
        · rw [q]; exact Or.inr (Or.inr rfl)
      · have e6 : tt_to k = nI 6 := by
          unfold tt_to
          rw [hk1]
          rfl
        rw [e6] at c2
        exact ps_sm (by decide) (fun q => c2 (Or.inl q)) (Classical.byContradiction (fun q => c2 (Or.inr q)))
      · have := ((tt_isF_iff hr8).mp hF).2
        intro hk0
        rw [hk0] at this
        have e0 : tt_ff 0 = 0 := if_pos rfl
        rw [e0] at this
        omega
theorem iw_loseQ (I : iv T c) {x n a : Int32} : iv (tq_lose T x n a).2.2 c := by
  unfold tq_lose
  cases hx : tt_ix x 8 with
  | zero => exact I
  | succ w =>
    simp only
    split
    · exact I
    · split
      · exact iw_lossM I
      · exact iw_lossA I
theorem iw_silenceQ (I : iv T c) {x a : Int32} (ha : a = 0 ∨ a = 1) : iv (tq_silence T x a).2.2 c := by
  unfold tq_silence
  cases hx : tt_ix x 4 with
  | zero => exact I
  | succ w => exact iw_sil I (tt_ix_eq (by decide) hx).1 ha
theorem iw_parkQ (I : iv T c) {x p : Int32} : iv (tq_park T x p).2.2 c := by
  unfold tq_park
  cases hx : tt_ix x 4 with
  | zero => exact I
  | succ w =>
    simp only
    split
    · exact I
    · split
      · exact I
      · exact iw_place I
theorem iw_unbookQ (I : iv T c) {x : Int32} : iv (tq_unbook T x).2.2 c := by
  unfold tq_unbook
  cases hx : tt_ix x (tl T 1).length with
  | zero => exact I
  | succ b =>
    simp only
    split
    · exact I
    · exact iw_drop I
theorem iw_bookQ (I : iv T c) {g ho x : Int32} : iv (tq_book T g ho x).2.2 c := by
  unfold tq_book
  split
  · exact I
  · cases hx : tt_ix x (tl T 1).length with
    | zero => exact I
    | succ b =>
      simp only
      split
      · exact I
      · rename_i q
        split
        · obtain ⟨hr, -, eh, h5, -⟩ := I.t
          refine iw_bo I (Or.inr (fun z => q (Or.inl ?_)))
          rw [eh]
          exact Int32.lt_of_lt_of_le z (nI_pos' (by omega))
        · exact I
theorem iw_advanceQ (I : iv T c) {n : Int32} : iv (tq_advance T n).2.2 c := by
  unfold tq_advance
  by_cases c1 : n < 1 ∨ ¬ n ≤ 48
  · rw [if_pos c1]; exact I
  rw [if_neg c1]
  by_cases c2 : ¬ ti T 6 6 0 + n ≤ 5000
  · rw [if_pos c2]; exact I
  rw [if_neg c2]
  obtain ⟨hr, -, eh, h5, -⟩ := I.t
  have n1 : ¬ n < 1 := fun q => c1 (Or.inl q)
  have n48 : n ≤ 48 := Classical.byContradiction (fun q => c1 (Or.inr q))
  have n0 : ¬ n < 0 := fun q => n1 (Int32.lt_of_lt_of_le q (by decide))
  obtain ⟨j, hj, ej⟩ := nI_of n0
  have hj48 : j ≤ 48 := by
    rw [ej] at n48
    exact (nI_leI (b := 48) hj (by decide)).mp n48
  have e : ti T 6 6 0 + n = nI (hr + j) := by rw [eh, ej, nI_add]
  have hle : hr + j ≤ 5000 := by
    have : ti T 6 6 0 + n ≤ 5000 := Classical.byContradiction c2
    rw [e] at this
    exact (nI_leI (b := 5000) (by omega) (by decide)).mp this
  have I1 : iv (tt_h1 T n) c := by
    unfold tt_h1
    rw [e]
    exact iw_hour I hle
  exact iw_ad I1 _
theorem iw_leaveQ (I : iv T c) {x : Int32} : iv (tq_leave T x).2.2 c := by
  unfold tq_leave
  cases hx : tt_ix x (tl T 0).length with
  | zero => exact I
  | succ w =>
    simp only
    split
    · exact I
    · split
      · exact I
      · exact iw_left I
theorem iw_berthQ (I : iv T c) {p l : Int32} : iv (tq_berth T p l).2.2 c := by
  unfold tq_berth
  by_cases c1 : p < 0 ∨ ¬ p < 16
  · rw [if_pos c1]; exact I
  rw [if_neg c1]
  by_cases c2 : l < 1 ∨ 8 < l ∨ ¬ p + l ≤ 16
  · rw [if_pos c2]; exact I
  rw [if_neg c2]
  by_cases c3 : 10 ≤ (tl T 0).length ∨ tt_isTk T p (p + l) = true
  · rw [if_pos c3]; exact I
  rw [if_neg c3]
  obtain ⟨a, ha, ea⟩ := ps_sm (x := p) (n := 16) (by decide) (fun q => c1 (Or.inl q)) (Classical.byContradiction (fun q => c1 (Or.inr q)))
  have l0 : ¬ l < 0 := fun q => c2 (Or.inl (Int32.lt_of_lt_of_le q (by decide)))
  obtain ⟨j, hj, ej⟩ := nI_of l0
  have hj8 : j ≤ 8 := by
    rcases Nat.lt_or_ge 8 j with q | q
    · exact absurd (Or.inr (Or.inl (by rw [ej]; exact nI_lt (a := 8) q hj))) c2
    · exact q
  have hj1 : 1 ≤ j := by
    rcases Nat.lt_or_ge j 1 with q | q
    · exact absurd (Or.inl (by rw [ej]; exact nI_lt (b := 1) q (by decide))) c2
    · exact q
  have h16 : a + j ≤ 16 := by
    rcases Nat.lt_or_ge 16 (a + j) with q | q
    · exact absurd (Or.inr (Or.inr (by rw [ea, ej, nI_add]; exact Int32.not_le.mpr (nI_lt (a := 16) q (by omega))))) c2
    · exact q
  have := iw_berth I hj1 h16 (by omega)
  rw [← nI_add, ← ea, ← ej] at this
  exact this
theorem iw_boxQ (I : iv T c) {x p : Int32} : iv (tq_box T x p).2.2 c := by
  unfold tq_box
  cases hx : tt_ix x (tl T 0).length with
  | zero => exact I
  | succ s =>
    have n0 := I.n.1
    obtain ⟨hs, -⟩ := tt_ix_eq (by omega) hx
    simp only
    by_cases c1 : ti T 0 2 s ≠ 0
    · rw [if_pos c1]; exact I
    rw [if_neg c1]
    by_cases c2 : p < ti T 0 0 s ∨ ¬ p < ti T 0 1 s
    · rw [if_pos c2]; exact I
    rw [if_neg c2]
    by_cases c3 : 24 ≤ (tl T 1).length
    · rw [if_pos c3]; exact I
    rw [if_neg c3]
    obtain ⟨a, l, ea, eb, hl1, hal⟩ := I.s s hs
    have p1 : ¬ p < nI a := fun q => c2 (Or.inl (by rw [ea]; exact q))
    have p2 : p < nI (a + l) := by
      rw [← eb]
      exact Classical.byContradiction (fun q => c2 (Or.inr q))
    obtain ⟨j, hj, ej⟩ := ps_sm (by omega) (fun q => p1 (Int32.lt_of_lt_of_le q (nI_pos' (by omega)))) p2
    have := iw_box I (a := j) (sh := s) (by omega) hs (by omega)
    rw [← ej] at this
    exact this
end ST
section TYT
variable {t0 m9 y c : Nat} {S : qs_S} {T : tt_T} {H : Nat → Nat} {M : mm_M} {post : Int32 → qs_S → Prop}
theorem cm_send (h : tx_M S y H M) (s : sm T M) (I : iv T c) {k x t w : Int32} (hp : ty_H cS post t0 S y H (tq_send T k x t w)) : wp_X7_send t0 m9 post S y k x t w := by
  have hl := I.n.2.2
  have hl1 := I.n.2.1
  have no143 : ∀ (e : Nat) (v its : Int32) (S1 : qs_S) (M1 : mm_M), tx_M S1 y H M1 → tx_J t0 S S1 → sm T M1 → v = nI (cS e) → ¬ v ≤ 0 → e ≠ 0 → ty_H cS post t0 S y H (e, 0, T) → wp_X7_send_b143 t0 m9 post S1 y k x t its y v := fun e v its S1 M1 r k1 s1 ev hv he hp => by
    obtain ⟨r2, k2⟩ := r.wI (k := 0) (v := v) t0
    exact ⟨r.y7, r2.y7, r2.r0 ⟨fun q => absurd q hv, fun _ => hp _ _ _ r2 (k1.tr k2) ev (fun q => absurd q he) s1.th⟩⟩
  have no99 : ∀ (e : Nat) (v : Int32) (S1 : qs_S), tx_M S1 y H (mm_I M 0 v) → tx_J t0 S S1 → v = nI (cS e) → ¬ v ≤ 0 → e ≠ 0 → ty_H cS post t0 S y H (e, 0, T) → wp_X7_send_b99 t0 m9 post S1 y k x t w := fun e v S1 r k1 ev hv he hp =>
    ⟨r.y7, r.r0 ⟨fun q => absurd q hv, fun _ => ⟨fun _ => ⟨r.y7, r.r0 (no143 e v 0 S1 _ r k1 s.th ev hv he hp)⟩, fun q => absurd q (by decide)⟩⟩⟩
  have no96 : ∀ (e : Nat) (v : Int32) (S1 : qs_S), tx_M S1 y H (mm_I M 0 0) → tx_J t0 S S1 → v = nI (cS e) → ¬ v ≤ 0 → e ≠ 0 → ty_H cS post t0 S y H (e, 0, T) → wp_X7_send_b96 t0 m9 post S1 y k x t w y v := fun e v S1 r k1 ev hv he hp => by
    obtain ⟨r2, k2⟩ := r.wI (k := 0) (v := v) t0
    rw [mm_II] at r2
    exact ⟨r.y7, no99 e v _ r2 (k1.tr k2) ev hv he hp⟩
  unfold tq_send at hp
  refine cy_in (fun z1 z2 => ⟨fun q => absurd q (by decide), fun _ => ?_⟩) (fun z => ⟨fun _ => ?_, fun q => absurd rfl q⟩)
  · rw [if_neg (fun q => q.elim z1 (fun q => z2 (Int32.not_le.mp q)))] at hp
    obtain ⟨r, k0⟩ := h.wI (k := 0) (v := 0) t0
    -- the box, the target, the worker, the room
    have b54 : ∀ (s0 : Int32), ((¬ s0 = 0 ∧ ¬ (w ≠ -1 ∧ ¬ tt_isF k w)) ∨ (s0 = 0 ∧ (w ≠ -1 ∧ ¬ tt_isF k w))) → wp_X7_send_b54 t0 m9 post (qs_wI S 0 y 0) y k x t w s0 := by
      intro s0 hs0
      refine ⟨r.y7, cy_isBox r s.th I (fun b hb e => ⟨fun q => absurd q (by decide), fun _ => ?_⟩) (fun z => ⟨fun _ => no96 1 2 _ r k0 rfl (by decide) (by decide) (by rw [z] at hp; exact hp), fun q => absurd rfl q⟩)⟩
      rw [e, tt_ix_in hb (by omega)] at hp
      simp only at hp
      rw [e] at no96 no143 ⊢
      refine cy_isTarget (fun z => ⟨fun q => absurd q (by decide), fun _ => ?_⟩) (fun z => ⟨fun _ => no96 1 2 _ r k0 rfl (by decide) (by decide) (by rw [if_pos z] at hp; exact hp), fun q => absurd rfl q⟩)
      rw [if_neg z] at hp
      refine ⟨fun q => ⟨r.y7, r.rI (k := 18) ?_⟩, fun q => no96 1 2 _ r k0 rfl (by decide) (by decide) ?_⟩
      rotate_left
      · rcases hs0 with hs0 | hs0
        · exact absurd q hs0.1
        · rw [if_pos hs0.2] at hp
          exact hp
      have hF : ¬ (w ≠ -1 ∧ ¬ tt_isF k w) := by
        rcases hs0 with hs0 | hs0
        · exact hs0.2
        · exact absurd hs0.1 q
      rw [if_neg hF] at hp
      have e18 : mi (mm_I M 0 0) 18 = nI (tl T 2).length := s.i.2.2.2.1
      rw [e18]
      refine ⟨fun n80 => ?_, fun e80 => no96 3 3 _ r k0 rfl (by decide) (by decide) ?_⟩
      rotate_left
      · have : (tl T 2).length = 80 := (nI_eq (b := 80) (by omega) (by decide)).mp e80
        cases hr : tt_rv T k w with
        | zero => simp only [hr] at hp; exact hp
        | succ r' =>
          simp only [hr] at hp
          rw [if_pos (by omega)] at hp
          exact hp
      have lt : (tl T 2).length < 80 := by
        rcases Nat.lt_or_ge (tl T 2).length 80 with q | q
        · exact q
        · exact absurd (by rw [show (tl T 2).length = 80 by omega]; rfl) n80
      obtain ⟨r0, k1⟩ := r.wI (k := 0) (v := 0) t0
      rw [mm_II] at r0
      -- the message goes to r'
      have b143 : ∀ r', tt_rv T k w = r' + 1 → wp_X7_send_b143 t0 m9 post (qs_wI (qs_wI S 0 y 0) 0 y 0) y k (nI b) t (nI r') y 0 := by
        intro r' hr'
        obtain ⟨hr8, -⟩ := tt_rv_F hF hr'
        rw [hr'] at hp
        simp only at hp
        rw [if_neg (by omega)] at hp
        obtain ⟨ra, ka⟩ := r0.wI (k := 0) (v := 0) t0
        rw [mm_II] at ra
        refine ⟨r0.y7, ra.y7, ra.r0 ⟨fun _ => ⟨_, ra.ar 19, ra.rI (k := 18) ?_⟩, fun q => absurd (by decide) q⟩⟩
        rw [e18]
        obtain ⟨r1, k2⟩ := ra.wA (k := 19) (x := nI (tl T 2).length) (i := (tl T 2).length) (v := k) t0 rfl lt
        refine ⟨ra.hk 19, ra.vp (k := 19) rfl lt, _, r1.ar 20, r1.rI (k := 18) ?_⟩
        rw [show mi (mm_A (mm_I M 0 0) 19 (tl T 2).length k) 18 = nI (tl T 2).length from e18]
        obtain ⟨r2, k3⟩ := r1.wA (k := 20) (x := nI (tl T 2).length) (i := (tl T 2).length) (v := nI b) t0 rfl lt
        refine ⟨r1.hk 20, r1.vp (k := 20) rfl lt, _, r2.ar 21, r2.rI (k := 18) ?_⟩
        rw [show mi (mm_A (mm_A (mm_I M 0 0) 19 (tl T 2).length k) 20 (tl T 2).length (nI b)) 18 = nI (tl T 2).length from e18]
        obtain ⟨r3, k4⟩ := r2.wA (k := 21) (x := nI (tl T 2).length) (i := (tl T 2).length) (v := t) t0 rfl lt
        refine ⟨r2.hk 21, r2.vp (k := 21) rfl lt, r3.rI (k := 18) ?_⟩
        rw [show mi (mm_A (mm_A (mm_A (mm_I M 0 0) 19 (tl T 2).length k) 20 (tl T 2).length (nI b)) 21 (tl T 2).length t) 18 = nI (tl T 2).length from e18]
        obtain ⟨qd, qb⟩ := I.l (6 + r') (Or.inr (by omega)) (by omega)
        have hq80 := ps_nodup_le _ _ qd qb
        refine cy_joins r3 hr8 (l := tl T (6 + r')) (s.q r' hr8) (by omega) (fun S4 M4 r4 k5 q4 => ⟨r4.y7, r4.rI (k := 18) (fun v29 e29 => ?_)⟩)
        have m18 : mi M4 18 = nI (tl T 2).length := q4.mi.trans e18
        rw [m18] at e29
        obtain ⟨r5, k6⟩ := r4.wI (k := 18) (v := v29) t0
        refine r5.rI (k := 18) (fun v31 e31 => ?_)
        rw [mm_Is] at e31
        rw [e29] at r5 k6 ⊢
        have s5 := sw_msg (s.th (v := 0)) I lt (k := k) (t := t) (b := b)
        have hlen : ∀ w, w < 8 → (tl (tt_N T 2 (tt_mv (tl T 2).length k t) (fun _ => b + 1)) (6 + w)).length ≤ 80 := fun w hw => by
          rw [tt_Nl (by decide) (by omega)]
          exact I.lw w hw
        refine hp _ _ v31 r5 (((((((k0.tr k1).tr ka).tr k2).tr k3).tr k4).tr k5).tr k6) (q4.mi.trans rfl) (fun _ => ?_) (sw_q s5 hlen hr8 q4.I)
        rw [e31, e29, ← nI_succ, nI_pred]
      have none143 : tt_rv T k w = 0 → ∀ its, wp_X7_send_b143 t0 m9 post (qs_wI (qs_wI S 0 y 0) 0 y 0) y k (nI b) t its y 3 := fun hr its => no143 3 3 its _ _ r0 (k0.tr k1) s.th rfl (by decide) (by decide) (by rw [hr] at hp; exact hp)
      have b126 : ∀ f, tt_rv T k w = f → f ≤ 8 → wp_X7_send_b126 t0 m9 post (qs_wI (qs_wI S 0 y 0) 0 y 0) y k (nI b) t (me f) := by
        intro f hf hf8
        cases f with
        | zero => exact ⟨fun q => absurd rfl q, fun _ => none143 hf _⟩
        | succ r' => exact ⟨fun _ => ⟨r0.y7, r0.r0 (b143 r' hf)⟩, fun q => absurd q (ps_ne1 (by omega))⟩
      refine ⟨r.y7, r0.y7, r0.r0 ⟨fun _ => ⟨fun q => ?_, fun q => ?_⟩, fun q => absurd (by decide) q⟩⟩
      · have hFw : tt_isF k w := Classical.byContradiction (fun z => hF ⟨q, z⟩)
        obtain ⟨r', hr8, er⟩ := tt_isF_nI hFw
        have hv : tt_rv T k w = r' + 1 := by
          unfold tt_rv
          rw [if_neg q, er, tt_ix_in hr8 (by decide)]
        have := b126 (r' + 1) hv (by omega)
        have em : me (r' + 1) = w := er.symm
        rw [em] at this
        exact this
      · have hv : tt_rv T k w = tt_bs T k 8 := by
          unfold tt_rv
          rw [if_pos q]
        exact cy_freest r0 s.th I (b126 _ hv (tt_bs_le 8))
    refine ⟨h.y7, r.y7, r.r0 ⟨fun q => absurd rfl q, fun _ => ⟨fun q => ?_, fun q => ?_⟩⟩⟩
    · exact b54 1 (Or.inl ⟨by decide, fun z => z.1 q⟩)
    · refine cy_firstFor (cy_firstFor (fun v79 e79 => ?_))
      rw [e79]
      exact cy_in (fun z1 z2 => ⟨fun z => absurd z (by decide), fun _ => b54 1 (Or.inl ⟨by decide, fun z => z.2 (tt_isF_in.mp ⟨z1, z2⟩)⟩)⟩) (fun z => ⟨fun _ => b54 0 (Or.inr ⟨rfl, q, fun z' => by
        obtain ⟨y1, y2⟩ := tt_isF_in.mpr z'
        exact z.elim y1 y2⟩), fun z => absurd rfl z⟩)
  · rw [if_pos (z.elim Or.inl (fun z => Or.inr (Int32.not_le.mpr z)))] at hp
    obtain ⟨r, k0⟩ := h.wI (k := 0) (v := 1) t0
    exact ⟨h.y7, r.y7, r.r0 ⟨fun _ => no99 2 1 _ r k0 rfl (by decide) (by decide) hp, fun q => absurd q (by decide)⟩⟩
end TYT
