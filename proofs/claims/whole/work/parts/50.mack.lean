/-! ===== moves made, moves remembered, acknowledged: the changes, then the reference ===== -/
theorem tt_LC {T : tt_T} {a b : Nat} {l l' : List Nat} (h : a ≠ b) : tt_L (tt_L T a l) b l' = tt_L (tt_L T b l') a l := by
  refine Prod.ext rfl (Prod.ext rfl ?_)
  funext j
  show (if j = b then l' else if j = a then l else tl T j) = if j = a then l else if j = b then l' else tl T j
  by_cases c : j = a
  · rw [if_pos c, if_neg (fun z => h (c.symm.trans z)), if_pos c]
  · rw [if_neg c, if_neg c]
theorem sh_or : ∀ d, d < 256 → ∀ w, w < 8 → (nI d ||| ((1 : Int32) <<< (nI w &&& 31))) = nI (d ||| 1 <<< w) ∧ (d ||| 1 <<< w) < 256 := by decide +kernel
theorem sh_bit : ∀ d, d < 256 → ∀ w, w < 8 → (((nI d >>> (nI w &&& 31)) &&& 1) = 1 ↔ d.testBit w = true) := by decide +kernel
theorem sh_two : ∀ w, w < 8 → ∀ w', w' < 8 → (1 <<< w).testBit w' = decide (w' = w) := by decide +kernel
section SU
variable {T : tt_T} {M : mm_M} {c : Nat}
theorem sw_nm (s : sm T M) {m : Nat} (hm : m < (tl T 2).length) : sm (tt_nm T m) (mm_A (mm_I M 25 (mi M 25 + 1)) 23 m (mi M 25 + 1)) := by
  obtain ⟨i1, i2, i3, i4, i5, i6⟩ := s.i
  refine ⟨⟨i1, i2, i3, i4, ?_, i6⟩, s.s, s.b, s.h, s.w, fun m' hm' => ?_, s.d, ⟨fun m' h1 h2 => ?_, s.z.2⟩, s.l, s.q⟩
  · show mi M 25 + 1 = ti T 6 7 0 + 1
    rw [i5]
  · obtain ⟨e1, e2, e3, e4, e5, e6⟩ := s.m m' hm'
    refine ⟨e1, e2, e3, e4, ?_, e6⟩
    show (if 23 = 23 ∧ m' = m then mi M 25 + 1 else ma M 23 m') = (if 2 = 2 ∧ 5 = 5 ∧ m' = m then ti T 6 7 0 else ti T 2 5 m') + 1
    by_cases z : m' = m
    · rw [if_pos ⟨rfl, z⟩, if_pos ⟨rfl, rfl, z⟩, i5]
    · rw [if_neg (fun q => z q.2), if_neg (fun q => z q.2.2)]
      exact e5
  · obtain ⟨e1, e2, e3, e4⟩ := s.z.1 m' h1 h2
    refine ⟨e1, ?_, e3, e4⟩
    show (if 23 = 23 ∧ m' = m then mi M 25 + 1 else ma M 23 m') = 0
    have h1' : (tl T 2).length ≤ m' := h1
    rw [if_neg (fun q => by omega)]
    exact e2
theorem iw_nm (h : iv T c) {m : Nat} (hm : m < (tl T 2).length) : iv (tt_nm T m) (c + 1) := by
  obtain ⟨hr, k, e1, e2, e3, e4, e5⟩ := h.t
  refine ⟨h.g, h.h, h.n, h.l, h.w, h.r, h.k, h.b, ⟨hr, k + 1, e1, e2, ?_, by omega, fun m' hm' => ?_⟩, h.s, h.m, h.f⟩
  · show ti T 6 7 0 + 1 = nI (k + 1)
    rw [e3, nI_1]
  · have e : ti (tt_nm T m) 2 5 m' = if 2 = 2 ∧ 5 = 5 ∧ m' = m then ti T 6 7 0 else ti T 2 5 m' := rfl
    rw [e]
    by_cases z : m' = m
    · rw [if_pos ⟨rfl, rfl, z⟩]
      exact Or.inr ⟨k, by omega, e3⟩
    · rw [if_neg (fun q => z q.2.2)]
      rcases e5 m' hm' with q | ⟨o, q1, q2⟩
      · exact Or.inl q
      · exact Or.inr ⟨o, by omega, q2⟩
theorem sw_rm (s : sm T M) {w m : Nat} (hw : w < 8) (hm : m < (tl T 2).length) : sm (tt_rm T w m) (mm_A M 26 m (ma M 26 m ||| ((1 : Int32) <<< (nI w &&& 31)))) := by
  have e0 : ∀ n, n < 14 → tl (tt_rm T w m) n = tl T n := fun n hn => tt_lL (by omega)
  obtain ⟨d0, d1, d2, d3⟩ := s.d m hm
  refine ⟨?_, ?_, ?_, ?_, s.w, ?_, fun m' hm' => ?_, ?_, ?_, fun w' hw' => ?_⟩
  · unfold sm_i
    rw [e0 0 (by omega), e0 1 (by omega), e0 2 (by omega), e0 3 (by omega)]
    exact s.i
  · unfold sm_s
    rw [e0 0 (by omega)]
    exact s.s
  · unfold sm_b
    rw [e0 1 (by omega)]
    exact s.b
  · have := s.h
    unfold sm_h tt_ca at this ⊢
    rw [e0 1 (by omega)]
    exact this
  · unfold sm_m
    rw [e0 2 (by omega)]
    exact s.m
  · rw [e0 2 (by omega)] at hm'
    have e26 : ma (mm_A M 26 m (ma M 26 m ||| ((1 : Int32) <<< (nI w &&& 31)))) 26 m' = if 26 = 26 ∧ m' = m then (ma M 26 m ||| ((1 : Int32) <<< (nI w &&& 31))) else ma M 26 m' := rfl
    by_cases z : m' = m
    · subst z
      obtain ⟨o1, o2⟩ := sh_or d0 d1 w hw
      refine ⟨d0 ||| 1 <<< w, o2, ?_, fun w' hw' => ?_⟩
      · rw [e26, if_pos ⟨rfl, rfl⟩, d2, o1]
      · rw [Nat.testBit_or, d3 w' hw', sh_two w hw w' hw']
        by_cases zw : w' = w
        · subst zw
          have e : tl (tt_rm T w' m') (14 + w') = tl T (14 + w') ++ [m'] := tt_lS
          rw [e]
          simp
        · have e : tl (tt_rm T w m') (14 + w') = tl T (14 + w') := tt_lL (by omega)
          rw [e, decide_eq_false zw, Bool.or_false]
    · obtain ⟨d, h1, h2, h3⟩ := s.d m' hm'
      refine ⟨d, h1, ?_, fun w' hw' => ?_⟩
      · rw [e26, if_neg (fun q => z q.2), h2]
      · rw [h3 w' hw']
        by_cases zw : w' = w
        · subst zw
          have e : tl (tt_rm T w' m) (14 + w') = tl T (14 + w') ++ [m] := tt_lS
          rw [e]
          simp [z]
        · have e : tl (tt_rm T w m) (14 + w') = tl T (14 + w') := tt_lL (by omega)
          rw [e]
  · have := s.z
    unfold sm_z at this ⊢
    rw [e0 2 (by omega), e0 0 (by omega)]
    refine ⟨fun m' h1 h2 => ?_, this.2⟩
    obtain ⟨z1, z2, z3, z4⟩ := this.1 m' h1 h2
    refine ⟨z1, z2, z3, ?_⟩
    show (if 26 = 26 ∧ m' = m then _ else ma M 26 m') = 0
    rw [if_neg (fun q => by omega)]
    exact z4
  · unfold sm_l
    rw [e0 3 (by omega)]
    exact s.l
  · have e : tl (tt_rm T w m) (6 + w') = tl T (6 + w') := tt_lL (by omega)
    rw [e]
    exact s.q w' hw'
theorem iw_rm (h : iv T c) {w m : Nat} (hw : w < 8) (hm : m < (tl T 2).length) (hno : m ∉ tl T (14 + w)) (h7 : 4 ≤ w → tr T 3 7 w ≠ m + 1) : iv (tt_rm T w m) c := by
  have e0 : ∀ n, n ≠ 14 + w → tl (tt_rm T w m) n = tl T n := fun n hn => tt_lL hn
  have eS : tl (tt_rm T w m) (14 + w) = tl T (14 + w) ++ [m] := tt_lS
  refine ⟨tt_gL (Or.inr (by omega)) h.g, tt_hL (Or.inr (by omega)) h.h, ?_, fun j hj h22 => ?_, fun w1 w2 m' h1 h2 m1 m2 => ?_, fun w1 h1 x => ?_, fun w1 h4 h1 => ⟨fun m' hm' => ?_, (h.k w1 h4 h1).2⟩, ?_, ?_, ?_, ?_, h.f⟩
  · unfold iv_n
    rw [e0 0 (by omega), e0 1 (by omega), e0 2 (by omega)]
    exact h.n
  · rw [e0 2 (by omega)]
    by_cases z : j = 14 + w
    · obtain ⟨d, b⟩ := h.l (14 + w) (Or.inr (by omega)) (by omega)
      rw [z, eS]
      refine ⟨List.nodup_append.mpr ⟨d, List.nodup_cons.mpr ⟨List.not_mem_nil, List.nodup_nil⟩, fun x hx y hy e => hno (List.mem_singleton.mp hy ▸ e ▸ hx)⟩, fun x hx => ?_⟩
      rcases List.mem_append.mp hx with q | q
      · exact b x q
      · rw [List.mem_singleton.mp q]; exact hm
    · rw [e0 j z]
      exact h.l j hj h22
  · rw [e0 (6 + w1) (by omega)] at m1
    rw [e0 (6 + w2) (by omega)] at m2
    exact h.w w1 w2 m' h1 h2 m1 m2
  · rw [e0 2 (by omega)]
    refine ⟨(h.r w1 h1 x).1, fun h4 e => ?_⟩
    obtain ⟨b1, b2⟩ := (h.r w1 h1 x).2 h4 e
    refine ⟨b1, ?_⟩
    by_cases z : w1 = w
    · rw [z, eS]
      intro q
      rcases List.mem_append.mp q with q | q
      · exact b2 (z ▸ q)
      · refine h7 (z ▸ h4) ?_
        have e' : tr T 3 7 w1 = x + 1 := e
        rw [← z, e', List.mem_singleton.mp q]
    · rw [e0 (14 + w1) (by omega)]
      exact b2
  · rw [e0 (6 + w1) (by omega)] at hm'
    exact (h.k w1 h4 h1).1 m' hm'
  · unfold iv_b
    rw [e0 1 (by omega)]
    exact h.b
  · unfold iv_t
    rw [e0 2 (by omega)]
    exact h.t
  · unfold iv_s
    rw [e0 0 (by omega)]
    exact h.s
  · unfold iv_m
    rw [e0 2 (by omega), e0 3 (by omega)]
    exact h.m
theorem iw_seen (h : iv T c) {w x : Nat} (hx : ∀ z, x = z + 1 → z < (tl T 2).length ∧ z ∉ tl T (14 + w) ∧ ti T 2 1 z ≠ 0) : iv (tt_R T 3 7 w x) c := by
  have e7 : ∀ w', tr (tt_R T 3 7 w x) 3 7 w' = if 3 = 3 ∧ 7 = 7 ∧ w' = w then x else tr T 3 7 w' := fun _ => rfl
  refine ⟨h.g, h.h, h.n, h.l, h.w, fun w1 h1 z => ⟨(h.r w1 h1 z).1, fun h4 e => ?_⟩, fun w1 h4 h1 => ⟨(h.k w1 h4 h1).1, fun z => ⟨((h.k w1 h4 h1).2 z).1, fun e => ?_⟩⟩, h.b, h.t, h.s, h.m, h.f⟩
  · rw [e7] at e
    by_cases c : w1 = w
    · rw [if_pos ⟨rfl, rfl, c⟩] at e
      rw [c]
      exact ⟨(hx z e).1, (hx z e).2.1⟩
    · rw [if_neg (fun q => c q.2.2)] at e
      exact (h.r w1 h1 z).2 h4 e
  · rw [e7] at e
    by_cases c : w1 = w
    · rw [if_pos ⟨rfl, rfl, c⟩] at e
      exact (hx z e).2.2
    · rw [if_neg (fun q => c q.2.2)] at e
      exact ((h.k w1 h4 h1).2 z).2 e
theorem iw_lastA (h : iv T c) {w m : Nat} (hm : m < (tl T 2).length) (hk : 4 ≤ w → ti T 2 1 m ≠ 0) : iv (tt_R T 3 6 w (m + 1)) c := by
  have e6 : ∀ w', tr (tt_R T 3 6 w (m + 1)) 3 6 w' = if 3 = 3 ∧ 6 = 6 ∧ w' = w then m + 1 else tr T 3 6 w' := fun _ => rfl
  refine ⟨h.g, h.h, h.n, h.l, h.w, fun w1 h1 z => ⟨fun e => ?_, (h.r w1 h1 z).2⟩, fun w1 h4 h1 => ⟨(h.k w1 h4 h1).1, fun z => ⟨fun e => ?_, ((h.k w1 h4 h1).2 z).2⟩⟩, h.b, h.t, h.s, h.m, h.f⟩
  · rw [e6] at e
    by_cases c : w1 = w
    · rw [if_pos ⟨rfl, rfl, c⟩] at e
      rw [← Nat.succ.inj e]
      exact hm
    · rw [if_neg (fun q => c q.2.2)] at e
      exact (h.r w1 h1 z).1 e
  · rw [e6] at e
    by_cases c : w1 = w
    · rw [if_pos ⟨rfl, rfl, c⟩] at e
      have := hk (c ▸ h4)
      rw [← Nat.succ.inj e]
      exact this
    · rw [if_neg (fun q => c q.2.2)] at e
      exact ((h.k w1 h4 h1).2 z).1 e
theorem iv.logroom (h : iv T c) {m : Nat} (hm : m < (tl T 2).length) (hz : ti T 2 6 m = 0) : m ∉ tl T 3 ∧ (tl T 3).length < 80 := by
  have hno : m ∉ tl T 3 := fun q => (h.m m hm).2.2 q hz
  obtain ⟨d, b⟩ := h.l 3 (Or.inl rfl) (by omega)
  have n2 := h.n.2.2
  have := ps_nodup_le 80 (m :: tl T 3) (List.nodup_cons.mpr ⟨hno, d⟩) (fun x hx => by
    rcases List.mem_cons.mp hx with q | q
    · omega
    · have := b x q
      omega)
  rw [List.length_cons] at this
  exact ⟨hno, by omega⟩
theorem sw_log (s : sm T M) {m : Nat} (hm : m < (tl T 2).length) {lg : List Nat} (hlg : tl T 3 = lg) : sm (tt_L (tt_I T 2 6 m 1) 3 (lg ++ [m])) (mm_I (mm_A (mm_A M 24 m 1) 28 lg.length (nI m)) 27 (nI (lg.length + 1))) := by
  subst hlg
  have e0 : ∀ n, n ≠ 3 → tl (tt_L (tt_I T 2 6 m 1) 3 (tl T 3 ++ [m])) n = tl T n := fun n hn => tt_lL hn
  have eS : tl (tt_L (tt_I T 2 6 m 1) 3 (tl T 3 ++ [m])) 3 = tl T 3 ++ [m] := rfl
  have el : (tl T 3 ++ [m]).length = (tl T 3).length + 1 := by rw [List.length_append]; rfl
  obtain ⟨i1, i2, i3, i4, i5, i6⟩ := s.i
  refine ⟨⟨i1, i2, i3, i4, i5, ?_⟩, s.s, s.b, s.h, s.w, fun m' hm' => ?_, fun m' hm' => ?_, ⟨fun m' h1 h2 => ?_, s.z.2⟩, fun k hk => ?_, fun w' hw' => ?_⟩
  · rw [eS, el]
    rfl
  · obtain ⟨e1, e2, e3, e4, e5, e6⟩ := s.m m' hm'
    refine ⟨e1, e2, e3, e4, e5, ?_⟩
    show (if 24 = 24 ∧ m' = m then 1 else ma M 24 m') = (if 2 = 2 ∧ 6 = 6 ∧ m' = m then 1 else ti T 2 6 m')
    by_cases z : m' = m
    · rw [if_pos ⟨rfl, z⟩, if_pos ⟨rfl, rfl, z⟩]
    · rw [if_neg (fun q => z q.2), if_neg (fun q => z q.2.2)]
      exact e6
  · obtain ⟨d, h1, h2, h3⟩ := s.d m' hm'
    exact ⟨d, h1, h2, fun w' hw' => by rw [e0 (14 + w') (by omega)]; exact h3 w' hw'⟩
  · obtain ⟨e1, e2, e3, e4⟩ := s.z.1 m' h1 h2
    refine ⟨e1, e2, ?_, e4⟩
    show (if 24 = 24 ∧ m' = m then 1 else ma M 24 m') = 0
    have h1' : (tl T 2).length ≤ m' := h1
    rw [if_neg (fun q => by omega)]
    exact e3
  · rw [eS] at hk ⊢
    rw [el] at hk
    show (if 28 = 28 ∧ k = (tl T 3).length then nI m else ma M 28 k) = nI ((tl T 3 ++ [m]).getD k 0)
    by_cases z : k = (tl T 3).length
    · rw [if_pos ⟨rfl, z⟩, z, ps_getD_last]
    · rw [if_neg (fun q => z q.2), ps_getD_app (by omega)]
      exact s.l k (by omega)
  · rw [e0 (6 + w') (by omega)]
    exact s.q w' hw'
theorem iw_log (h : iv T c) {m : Nat} (hm : m < (tl T 2).length) (hz : ti T 2 6 m = 0) {lg : List Nat} (hlg : tl T 3 = lg) : iv (tt_L (tt_I T 2 6 m 1) 3 (lg ++ [m])) c := by
  subst hlg
  obtain ⟨hno, -⟩ := h.logroom hm hz
  have e0 : ∀ n, n ≠ 3 → tl (tt_L (tt_I T 2 6 m 1) 3 (tl T 3 ++ [m])) n = tl T n := fun n hn => tt_lL hn
  have eS : tl (tt_L (tt_I T 2 6 m 1) 3 (tl T 3 ++ [m])) 3 = tl T 3 ++ [m] := rfl
  refine ⟨tt_gL (Or.inl rfl) h.g, tt_hL (Or.inl rfl) h.h, h.n, fun j hj h22 => ?_, fun w1 w2 m' h1 h2 m1 m2 => ?_, fun w1 h1 x => ⟨(h.r w1 h1 x).1, fun h4 e => ?_⟩, fun w1 h4 h1 => ⟨fun m' hm' => ?_, (h.k w1 h4 h1).2⟩, h.b, h.t, h.s, fun m' hm' => ⟨(h.m m' hm').1, (h.m m' hm').2.1, fun q => ?_⟩, h.f⟩
  · by_cases z : j = 3
    · obtain ⟨d, b⟩ := h.l 3 (Or.inl rfl) (by omega)
      rw [z, eS]
      refine ⟨List.nodup_append.mpr ⟨d, List.nodup_cons.mpr ⟨List.not_mem_nil, List.nodup_nil⟩, fun x hx y hy e => hno (List.mem_singleton.mp hy ▸ e ▸ hx)⟩, fun x hx => ?_⟩
      rcases List.mem_append.mp hx with q | q
      · exact b x q
      · rw [List.mem_singleton.mp q]; exact hm
    · rw [e0 j z]
      exact h.l j hj h22
  · rw [e0 (6 + w1) (by omega)] at m1
    rw [e0 (6 + w2) (by omega)] at m2
    exact h.w w1 w2 m' h1 h2 m1 m2
  · rw [e0 (14 + w1) (by omega)]
    exact (h.r w1 h1 x).2 h4 e
  · rw [e0 (6 + w1) (by omega)] at hm'
    exact (h.k w1 h4 h1).1 m' hm'
  · rw [eS] at q
    show (if 2 = 2 ∧ 6 = 6 ∧ m' = m then (1 : Int32) else ti T 2 6 m') ≠ 0
    by_cases z : m' = m
    · rw [if_pos ⟨rfl, rfl, z⟩]
      decide
    · rw [if_neg (fun q => z q.2.2)]
      rcases List.mem_append.mp q with q | q
      · exact (h.m m' hm').2.2 q
      · exact absurd (List.mem_singleton.mp q) z
theorem iw_ak (h : iv T c) {w m : Nat} (hw : w < 8) (hm : m < (tl T 2).length) (hk : 4 ≤ w → ti T 2 1 m ≠ 0) : iv (tt_ak T w m).2 c := by
  have I1 : iv (tt_R (tt_L T (6 + w) ((tl T (6 + w)).erase m)) 3 6 w (m + 1)) c := iw_lastA (iw_erase h hw) (by rw [tt_lL (by omega)]; exact hm) hk
  unfold tt_ak
  by_cases c1 : 0 < ti T 3 4 w
  · rw [if_pos c1]
    exact iw_lossA h
  · rw [if_neg c1]
    by_cases c2 : ti T 2 5 m ≠ -1 ∧ ti T 2 6 m = 0
    · rw [if_pos c2]
      refine iw_log I1 ?_ c2.2 (show tl (tt_L T (6 + w) ((tl T (6 + w)).erase m)) 3 = tl T 3 from tt_lL (by omega))
      show m < (tl (tt_L T (6 + w) ((tl T (6 + w)).erase m)) 2).length
      rw [tt_lL (by omega)]
      exact hm
    · rw [if_neg c2]
      exact I1
end SU
section TYE
variable {t0 m9 y c : Nat} {S : qs_S} {T : tt_T} {H : Nat → Nat} {M : mm_M} {post : Int32 → qs_S → Prop}
theorem cy_ack (h : tx_M S y H M) (s : sm T M) (I : iv T c) (hc : c < 2 ^ 30) {w m : Nat} (hw : w < 8) (hm : m < (tl T 2).length) (hp : ∀ S' M', tx_M S' y H M' → tx_J t0 S S' → mi M' 0 = mi M 0 → sm (tt_ak T w m).2 M' → post (tt_ak T w m).1 S') : wp_X7_acknowledges t0 m9 post S y (nI w) (nI m) := by
  have hl := I.n.2.2
  have m80 : m < 80 := by omega
  unfold tt_ak at hp
  refine ⟨h.y7, h.rA (k := 32) (i := w) rfl ?_ hw⟩
  rw [(s.w w hw).2.2.2.1]
  refine ⟨fun z => ?_, fun z => ?_⟩
  · rw [if_neg (Int32.not_lt.mpr z)] at hp
    obtain ⟨r, k⟩ := h.wA (k := 33) (x := nI w) (i := w) (v := nI m) t0 rfl hw
    have hl1 : ma (mm_A M 33 w (nI m)) 29 w = nI (tl T (6 + w)).length ∧ ∀ k, k < (tl T (6 + w)).length → ma (mm_A M 33 w (nI m)) 30 (80 * w + k) = nI ((tl T (6 + w)).getD k 0) := s.q w hw
    obtain ⟨qd, qb⟩ := I.l (6 + w) (Or.inr (by omega)) (by omega)
    refine ⟨_, h.ar 33, h.hk 33, h.vp (k := 33) rfl hw, cy_quits r hw hl1 qd m80 (fun x hx => by have := qb x hx; omega) (fun S1 M1 r1 k1 q1 => ⟨r1.y7, r1.rA (k := 23) (i := m) rfl ?_ m80⟩)⟩
    have s1 : sm (tt_R (tt_L T (6 + w) ((tl T (6 + w)).erase m)) 3 6 w (m + 1)) M1 := sw_q (sw_last s) I.lw hw q1
    have z0 : mi M1 0 = mi M 0 := q1.mi
    have hm1 : m < (tl (tt_R (tt_L T (6 + w) ((tl T (6 + w)).erase m)) 3 6 w (m + 1)) 2).length := by
      show m < (tl (tt_L T (6 + w) ((tl T (6 + w)).erase m)) 2).length
      rw [tt_lL (by omega)]
      exact hm
    have e23 : ma M1 23 m = ti T 2 5 m + 1 := (s1.m m hm1).2.2.2.2.1
    have e24 : ma M1 24 m = ti T 2 6 m := (s1.m m hm1).2.2.2.2.2
    have el3 : tl (tt_R (tt_L T (6 + w) ((tl T (6 + w)).erase m)) 3 6 w (m + 1)) 3 = tl T 3 := by
      show tl (tt_L T (6 + w) ((tl T (6 + w)).erase m)) 3 = tl T 3
      exact tt_lL (by omega)
    rw [e23]
    refine ⟨fun z1 => ?_, fun z1 => r1.rA (k := 24) (i := m) rfl ?_ m80⟩
    · have o := (I.om hc hm).mp z1
      rw [if_neg (fun q => q.1 o)] at hp
      exact hp _ _ r1 (k.tr k1) z0 s1
    · have o : ti T 2 5 m ≠ -1 := fun q => z1 ((I.om hc hm).mpr q)
      rw [e24]
      refine ⟨fun z2 => ?_, fun z2 => ?_⟩
      · rw [if_neg (fun q => z2 q.2)] at hp
        exact hp _ _ r1 (k.tr k1) z0 s1
      · rw [if_pos ⟨o, z2⟩] at hp
        obtain ⟨r2, k2⟩ := r1.wA (k := 24) (x := nI m) (i := m) (v := 1) t0 rfl m80
        have e27 : mi (mm_A M1 24 m 1) 27 = nI (tl T 3).length := by
          have := s1.i.2.2.2.2.2
          rw [el3] at this
          exact this
        refine ⟨_, r1.ar 24, r1.hk 24, r1.vp (k := 24) rfl m80, _, r2.ar 28, r2.rI (k := 27) ?_⟩
        rw [e27]
        have l80 : (tl T 3).length < 80 := (I.logroom hm z2).2
        obtain ⟨r3, k3⟩ := r2.wA (k := 28) (x := nI (tl T 3).length) (i := (tl T 3).length) (v := nI m) t0 rfl l80
        refine ⟨r2.hk 28, r2.vp (k := 28) rfl l80, r3.rI (k := 27) (fun v40 e40 => ?_)⟩
        rw [show mi (mm_A (mm_A M1 24 m 1) 28 (tl T 3).length (nI m)) 27 = nI (tl T 3).length from e27, nI_1] at e40
        obtain ⟨r4, k4⟩ := r3.wI (k := 27) (v := v40) t0
        rw [e40] at r4 k4 ⊢
        exact hp _ _ r4 ((((k.tr k1).tr k2).tr k3).tr k4) z0 (sw_log s1 hm1 el3)
  · rw [if_pos (Int32.not_le.mp z)] at hp
    refine ⟨_, h.ar 32, h.rB (k := 32) (i := w) rfl (fun v46 e46 => ⟨h.vp (k := 32) rfl hw, ?_⟩) hw⟩
    obtain ⟨r, k⟩ := h.wA (k := 32) (x := nI w) (i := w) (v := v46) t0 rfl hw
    rw [(s.w w hw).2.2.2.1] at e46
    rw [e46] at r k ⊢
    exact hp _ _ r k rfl (sw_lossA s)
theorem cy_makes {post : qs_S → Prop} (h : tx_M S y H M) {m : Nat} (m80 : m < 80) (hp : ∀ S', tx_M S' y H (mm_A (mm_I M 25 (mi M 25 + 1)) 23 m (mi M 25 + 1)) → tx_J t0 S S' → post S') : wp_X7_makes t0 m9 post S y (nI m) := by
  refine ⟨h.y7, h.rI (k := 25) (fun v4 e4 => ?_)⟩
  obtain ⟨r, k⟩ := h.wI (k := 25) (v := v4) t0
  refine ⟨_, r.ar 23, r.rI (k := 25) ?_⟩
  rw [show mi (mm_I M 25 v4) 25 = v4 from mm_Is]
  obtain ⟨r2, k2⟩ := r.wA (k := 23) (x := nI m) (i := m) (v := v4) t0 rfl m80
  refine ⟨r.hk 23, r.vp (k := 23) rfl m80, ?_⟩
  rw [e4] at r2 k2 k ⊢
  exact hp _ r2 (k.tr k2)
theorem cy_finishes (h : tx_M S y H M) (s : sm T M) (I : iv T c) (hc : c < 2 ^ 30) {w m : Nat} (h4 : 4 ≤ w) (hw : w < 8) (hm : m < (tl T 2).length) (hk : ti T 2 1 m ≠ 0) (hno : m ∉ tl T (14 + w)) (hp : ∀ S' M', tx_M S' y H M' → tx_J t0 S S' → mi M' 0 = mi M 0 → sm (tt_fi T w m).2 M' → post (tt_fi T w m).1 S') : wp_X7_finishes t0 m9 post S y (nI w) (nI m) := by
  have hl := I.n.2.2
  have m80 : m < 80 := by omega
  refine ⟨h.y7, _, h.ar 26, h.rB (k := 26) (i := m) rfl (fun v8 e8 v9 e9 => ⟨h.vp (k := 26) rfl m80, ?_⟩) m80⟩
  rw [e8] at e9
  obtain ⟨r, k⟩ := h.wA (k := 26) (x := nI m) (i := m) (v := v9) t0 rfl m80
  obtain ⟨r2, k2⟩ := r.wA (k := 34) (x := nI w) (i := w) (v := -1) t0 rfl hw
  refine ⟨_, r.ar 34, r.hk 34, r.vp (k := 34) rfl hw, ?_⟩
  rw [e9] at r2 k2 k ⊢
  have s2 : sm (tt_R (tt_rm T w m) 3 7 w 0) (mm_A (mm_A M 26 m (ma M 26 m ||| ((1 : Int32) <<< (nI w &&& 31)))) 34 w (me 0)) := sw_seen (sw_rm s hw hm)
  have I2 : iv (tt_R (tt_rm T w m) 3 7 w 0) c := iw_rm (iw_seen I (w := w) (x := 0) (fun z e => absurd e (by omega))) hw hm hno (fun _ => by
    show (if 3 = 3 ∧ 7 = 7 ∧ w = w then 0 else tr T 3 7 w) ≠ m + 1
    rw [if_pos ⟨rfl, rfl, rfl⟩]
    omega)
  refine cy_ack r2 s2 I2 hc hw ?_ (fun S' M' r' k' z' s' => hp S' M' r' ((k.tr k2).tr k') z' s')
  show m < (tl (tt_L T (14 + w) (tl T (14 + w) ++ [m])) 2).length
  rw [tt_lL (by omega)]
  exact hm
theorem iw_fi (h : iv T c) {w m : Nat} (hw : w < 8) (hm : m < (tl T 2).length) (hk : ti T 2 1 m ≠ 0) (hno : m ∉ tl T (14 + w)) : iv (tt_fi T w m).2 c := by
  have I2 : iv (tt_R (tt_rm T w m) 3 7 w 0) c := iw_rm (iw_seen h (w := w) (x := 0) (fun z e => absurd e (by omega))) hw hm hno (fun _ => by
    show (if 3 = 3 ∧ 7 = 7 ∧ w = w then 0 else tr T 3 7 w) ≠ m + 1
    rw [if_pos ⟨rfl, rfl, rfl⟩]
    omega)
  refine iw_ak I2 hw ?_ (fun _ => hk)
  show m < (tl (tt_L T (14 + w) (tl T (14 + w) ++ [m])) 2).length
  rw [tt_lL (by omega)]
  exact hm
end TYE
