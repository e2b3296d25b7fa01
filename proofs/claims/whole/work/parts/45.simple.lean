/-! ===== what keeps the invariants and the simulation: the small changes ===== -/
theorem iv.mono {T : tt_T} {c c' : Nat} (h : iv T c) (hc : c ≤ c') : iv T c' := by
  obtain ⟨hr, k, e1, e2, e3, e4, e5⟩ := h.t
  exact ⟨h.g, h.h, h.n, h.l, h.w, h.r, h.k, h.b, ⟨hr, k, e1, e2, e3, Nat.le_trans e4 hc, e5⟩, h.s, h.m, h.f⟩
section SW
variable {T : tt_T} {M : mm_M} {c : Nat}
theorem sw_lossM (s : sm T M) {w : Nat} {v : Int32} : sm (tt_I T 3 3 w v) (mm_A M 31 w v) := by
  refine ⟨s.i, s.s, s.b, s.h, fun w' hw' => ?_, s.m, s.d, s.z, s.l, s.q⟩
  obtain ⟨e1, e2, e3, e4, e5, e6⟩ := s.w w' hw'
  refine ⟨e1, e2, ?_, e4, e5, e6⟩
  show (if 31 = 31 ∧ w' = w then v else ma M 31 w') = (if 3 = 3 ∧ 3 = 3 ∧ w' = w then v else ti T 3 3 w')
  by_cases z : w' = w
  · rw [if_pos ⟨rfl, z⟩, if_pos ⟨rfl, rfl, z⟩]
  · rw [if_neg (fun q => z q.2), if_neg (fun q => z q.2.2)]
    exact e3
theorem sw_lossA (s : sm T M) {w : Nat} {v : Int32} : sm (tt_I T 3 4 w v) (mm_A M 32 w v) := by
  refine ⟨s.i, s.s, s.b, s.h, fun w' hw' => ?_, s.m, s.d, s.z, s.l, s.q⟩
  obtain ⟨e1, e2, e3, e4, e5, e6⟩ := s.w w' hw'
  refine ⟨e1, e2, e3, ?_, e5, e6⟩
  show (if 32 = 32 ∧ w' = w then v else ma M 32 w') = (if 3 = 3 ∧ 4 = 4 ∧ w' = w then v else ti T 3 4 w')
  by_cases z : w' = w
  · rw [if_pos ⟨rfl, z⟩, if_pos ⟨rfl, rfl, z⟩]
  · rw [if_neg (fun q => z q.2), if_neg (fun q => z q.2.2)]
    exact e4
theorem sw_sil (s : sm T M) {w : Nat} {v : Int32} : sm (tt_I T 3 5 w v) (mm_A M 17 w v) := by
  refine ⟨s.i, s.s, s.b, s.h, fun w' hw' => ?_, s.m, s.d, s.z, s.l, s.q⟩
  obtain ⟨e1, e2, e3, e4, e5, e6⟩ := s.w w' hw'
  refine ⟨e1, ?_, e3, e4, e5, e6⟩
  show (if 17 = 17 ∧ w' = w then v else ma M 17 w') = (if 3 = 3 ∧ 5 = 5 ∧ w' = w then v else ti T 3 5 w')
  by_cases z : w' = w
  · rw [if_pos ⟨rfl, z⟩, if_pos ⟨rfl, rfl, z⟩]
  · rw [if_neg (fun q => z q.2), if_neg (fun q => z q.2.2)]
    exact e2
theorem sw_place (s : sm T M) {w : Nat} {v : Int32} : sm (tt_I T 3 7 w v) (mm_A M 16 w v) := by
  refine ⟨s.i, s.s, s.b, s.h, fun w' hw' => ?_, s.m, s.d, s.z, s.l, s.q⟩
  obtain ⟨e1, e2, e3, e4, e5, e6⟩ := s.w w' hw'
  refine ⟨fun h4 => ?_, e2, e3, e4, e5, e6⟩
  show (if 16 = 16 ∧ w' = w then v else ma M 16 w') = (if 3 = 3 ∧ 7 = 7 ∧ w' = w then v else ti T 3 7 w')
  by_cases z : w' = w
  · rw [if_pos ⟨rfl, z⟩, if_pos ⟨rfl, rfl, z⟩]
  · rw [if_neg (fun q => z q.2), if_neg (fun q => z q.2.2)]
    exact e1 h4
theorem sw_last (s : sm T M) {w m : Nat} : sm (tt_R T 3 6 w (m + 1)) (mm_A M 33 w (nI m)) := by
  refine ⟨s.i, s.s, s.b, s.h, fun w' hw' => ?_, s.m, s.d, s.z, s.l, s.q⟩
  obtain ⟨e1, e2, e3, e4, e5, e6⟩ := s.w w' hw'
  refine ⟨e1, e2, e3, e4, ?_, e6⟩
  show (if 33 = 33 ∧ w' = w then nI m else ma M 33 w') = me (if 3 = 3 ∧ 6 = 6 ∧ w' = w then m + 1 else tr T 3 6 w')
  by_cases z : w' = w
  · rw [if_pos ⟨rfl, z⟩, if_pos ⟨rfl, rfl, z⟩]
    rfl
  · rw [if_neg (fun q => z q.2), if_neg (fun q => z q.2.2)]
    exact e5
theorem sw_seen (s : sm T M) {w x : Nat} : sm (tt_R T 3 7 w x) (mm_A M 34 w (me x)) := by
  refine ⟨s.i, s.s, s.b, s.h, fun w' hw' => ?_, s.m, s.d, s.z, s.l, s.q⟩
  obtain ⟨e1, e2, e3, e4, e5, e6⟩ := s.w w' hw'
  refine ⟨e1, e2, e3, e4, e5, fun h4 => ?_⟩
  show (if 34 = 34 ∧ w' = w then me x else ma M 34 w') = me (if 3 = 3 ∧ 7 = 7 ∧ w' = w then x else tr T 3 7 w')
  by_cases z : w' = w
  · rw [if_pos ⟨rfl, z⟩, if_pos ⟨rfl, rfl, z⟩]
  · rw [if_neg (fun q => z q.2), if_neg (fun q => z q.2.2)]
    exact e6 h4
theorem sw_hand (s : sm T M) {m : Nat} (hm : m < (tl T 2).length) {v : Int32} : sm (tt_I T 2 4 m v) (mm_A M 22 m v) := by
  refine ⟨s.i, s.s, s.b, s.h, s.w, fun m' hm' => ?_, s.d, ⟨fun m' h1 h2 => ?_, s.z.2⟩, s.l, s.q⟩
  · obtain ⟨e1, e2, e3, e4, e5, e6⟩ := s.m m' hm'
    refine ⟨e1, e2, e3, ?_, e5, e6⟩
    show (if 22 = 22 ∧ m' = m then v else ma M 22 m') = (if 2 = 2 ∧ 4 = 4 ∧ m' = m then v else ti T 2 4 m')
    by_cases z : m' = m
    · rw [if_pos ⟨rfl, z⟩, if_pos ⟨rfl, rfl, z⟩]
    · rw [if_neg (fun q => z q.2), if_neg (fun q => z q.2.2)]
      exact e4
  · obtain ⟨e1, e2, e3, e4⟩ := s.z.1 m' h1 h2
    refine ⟨?_, e2, e3, e4⟩
    show (if 22 = 22 ∧ m' = m then v else ma M 22 m') = 0
    have h1' : (tl T 2).length ≤ m' := h1
    rw [if_neg (fun q => by omega)]
    exact e1
theorem sw_left (s : sm T M) {i : Nat} (hi : i < (tl T 0).length) {v : Int32} : sm (tt_I T 0 2 i v) (mm_A M 5 i v) := by
  refine ⟨s.i, fun s' hs' => ?_, s.b, s.h, s.w, s.m, s.d, ⟨s.z.1, fun j h1 h2 => (if_neg (fun q => ?_)).trans (s.z.2 j h1 h2)⟩, s.l, s.q⟩
  rotate_left
  · have h1' : (tl T 0).length ≤ j := h1
    have := q.2
    omega
  obtain ⟨e1, e2, e3⟩ := s.s s' hs'
  refine ⟨e1, e2, ?_⟩
  show (if 5 = 5 ∧ s' = i then v else ma M 5 s') = (if 0 = 0 ∧ 2 = 2 ∧ s' = i then v else ti T 0 2 s')
  by_cases z : s' = i
  · rw [if_pos ⟨rfl, z⟩, if_pos ⟨rfl, rfl, z⟩]
  · rw [if_neg (fun q => z q.2), if_neg (fun q => z q.2.2)]
    exact e3
theorem sw_hour (s : sm T M) {v : Int32} : sm (tt_I T 6 6 0 v) (mm_I M 1 v) := ⟨⟨rfl, s.i.2⟩, s.s, s.b, s.h, s.w, s.m, s.d, s.z, s.l, s.q⟩
theorem sw_drop (s : sm T M) {b : Nat} : sm (tt_db T b) (mm_A M 12 b (-1)) := by
  refine ⟨s.i, s.s, fun b' hb' => ?_, s.h, s.w, s.m, s.d, s.z, s.l, s.q⟩
  obtain ⟨e1, e2, e3, e4, e5, e6, e7, e8⟩ := s.b b' hb'
  by_cases z : b' = b
  · refine ⟨e1, e2, e3, e4, e5, ?_, fun q => ?_, e8⟩
    · show (if 12 = 12 ∧ b' = b then -1 else ma M 12 b') = (if 1 = 1 ∧ 7 = 7 ∧ b' = b then -1 else _)
      rw [if_pos ⟨rfl, z⟩, if_pos ⟨rfl, rfl, z⟩]
    · exact absurd (show (if 1 = 1 ∧ 7 = 7 ∧ b' = b then (-1 : Int32) else _) = -1 from if_pos ⟨rfl, rfl, z⟩) q
  · have t7 : ti (tt_db T b) 1 7 b' = ti T 1 7 b' := if_neg (fun q => z q.2.2)
    have t6 : ti (tt_db T b) 1 6 b' = ti T 1 6 b' := if_neg (fun q => z q.2.2)
    refine ⟨e1, e2, e3, e4, e5, ?_, fun q => ?_, e8⟩
    · rw [t7]
      show (if 12 = 12 ∧ b' = b then -1 else ma M 12 b') = _
      rw [if_neg (fun q => z q.2)]
      exact e6
    · rw [t6]
      rw [t7] at q
      exact e7 q
theorem sw_book (s : sm T M) {b : Nat} {g h : Int32} : sm (tt_bo T b g h) (mm_A (mm_A M 12 b h) 13 b g) := by
  refine ⟨s.i, s.s, fun b' hb' => ?_, s.h, s.w, s.m, s.d, s.z, s.l, s.q⟩
  obtain ⟨e1, e2, e3, e4, e5, e6, e7, e8⟩ := s.b b' hb'
  have a12 : ma (mm_A (mm_A M 12 b h) 13 b g) 12 b' = if 12 = 12 ∧ b' = b then h else ma M 12 b' := rfl
  have a13 : ma (mm_A (mm_A M 12 b h) 13 b g) 13 b' = if 13 = 13 ∧ b' = b then g else ma M 13 b' := rfl
  have t7 : ti (tt_bo T b g h) 1 7 b' = if 1 = 1 ∧ 7 = 7 ∧ b' = b then h else ti T 1 7 b' := rfl
  have t6 : ti (tt_bo T b g h) 1 6 b' = if 1 = 1 ∧ 6 = 6 ∧ b' = b then g else ti T 1 6 b' := rfl
  refine ⟨e1, e2, e3, e4, e5, ?_, fun q => ?_, e8⟩
  · rw [a12, t7]
    by_cases z : b' = b
    · rw [if_pos ⟨rfl, z⟩, if_pos ⟨rfl, rfl, z⟩]
    · rw [if_neg (fun q => z q.2), if_neg (fun q => z q.2.2)]
      exact e6
  · rw [a13, t6]
    rw [t7] at q
    by_cases z : b' = b
    · rw [if_pos ⟨rfl, z⟩, if_pos ⟨rfl, rfl, z⟩]
    · rw [if_neg (fun q => z q.2), if_neg (fun q => z q.2.2)]
      rw [if_neg (fun q => z q.2.2)] at q
      exact e7 q
/-! the invariants -/
theorem iw_lossM (h : iv T c) {w : Nat} {v : Int32} : iv (tt_I T 3 3 w v) c := h
theorem iw_lossA (h : iv T c) {w : Nat} {v : Int32} : iv (tt_I T 3 4 w v) c := h
theorem iw_place (h : iv T c) {w : Nat} {v : Int32} : iv (tt_I T 3 7 w v) c := h
theorem iw_hand (h : iv T c) {m : Nat} {v : Int32} : iv (tt_I T 2 4 m v) c := h
theorem iw_left (h : iv T c) {i : Nat} {v : Int32} : iv (tt_I T 0 2 i v) c := h
theorem iw_sil (h : iv T c) {w : Nat} (hw : w < 4) {v : Int32} (hv : v = 0 ∨ v = 1) : iv (tt_I T 3 5 w v) c := by
  refine ⟨h.g, h.h, h.n, h.l, h.w, h.r, h.k, h.b, h.t, h.s, h.m, fun w' hw' => ?_⟩
  have e : ti (tt_I T 3 5 w v) 3 5 w' = if 3 = 3 ∧ 5 = 5 ∧ w' = w then v else ti T 3 5 w' := rfl
  rw [e]
  by_cases z : w' = w
  · rw [if_pos ⟨rfl, rfl, z⟩]
    exact ⟨hv, fun q => by omega⟩
  · rw [if_neg (fun q => z q.2.2)]
    exact h.f w' hw'
theorem iw_hour (h : iv T c) {n : Nat} (hn : n ≤ 5000) : iv (tt_I T 6 6 0 (nI n)) c := by
  obtain ⟨hr, k, e1, e2, e3, e4, e5⟩ := h.t
  exact ⟨h.g, h.h, h.n, h.l, h.w, h.r, h.k, h.b, ⟨n, k, rfl, hn, e3, e4, e5⟩, h.s, h.m, h.f⟩
theorem iw_bo (h : iv T c) {b : Nat} {g ho : Int32} (hh : ho = -1 ∨ ¬ ho < 0) : iv (tt_bo T b g ho) c := by
  refine ⟨h.g, h.h, h.n, h.l, h.w, h.r, h.k, fun b' hb' => ?_, h.t, h.s, h.m, h.f⟩
  obtain ⟨e1, e2, e3, e4, e5⟩ := h.b b' hb'
  refine ⟨e1, e2, e3, e4, ?_⟩
  have t7 : ti (tt_bo T b g ho) 1 7 b' = if 1 = 1 ∧ 7 = 7 ∧ b' = b then ho else ti T 1 7 b' := rfl
  rw [t7]
  by_cases z : b' = b
  · rw [if_pos ⟨rfl, rfl, z⟩]
    exact hh
  · rw [if_neg (fun q => z q.2.2)]
    exact e5
theorem iw_drop (h : iv T c) {b : Nat} : iv (tt_db T b) c := iw_bo h (Or.inl rfl)
theorem iw_ad (h : iv T c) : ∀ n, iv (tt_ad T n).2 c
  | 0 => h
  | n + 1 => by
    have := iw_ad h n
    unfold tt_ad
    split
    · exact iw_drop this
    · exact this
end SW
