/-! ===== a lift, a delivery, in the reference ===== -/
theorem tt_ct_dn {p q : Nat → Bool} {b : Nat} (hne : ∀ i, i ≠ b → q i = p i) (hp : p b = true) (hq : q b = false) {n : Nat} (hb : b < n) : tt_ct q n + 1 = tt_ct p n := by
  rw [tt_ct_up (p := q) (q := p) (fun i hi => (hne i hi).symm) hq hp n, if_pos hb]
section SV
variable {T : tt_T} {M : mm_M} {c : Nat}
theorem tt_at_ne {b i : Nat} (h : i ≠ b) {x1 x2 wh sp : Int32} : tt_at (tt_br T b x1 x2) wh sp i = tt_at T wh sp i := by
  have e2 : ti (tt_br T b x1 x2) 1 2 i = ti T 1 2 i := if_neg (fun z => h z.2.2)
  have e3 : ti (tt_br T b x1 x2) 1 3 i = ti T 1 3 i := if_neg (fun z => h z.2.2)
  unfold tt_at
  rw [e2, e3]
theorem tt_at_eq {b : Nat} {x1 x2 wh sp : Int32} : tt_at (tt_br T b x1 x2) wh sp b = decide (x1 = wh ∧ x2 = sp) := by
  have e2 : ti (tt_br T b x1 x2) 1 2 b = x1 := if_pos ⟨rfl, rfl, rfl⟩
  have e3 : ti (tt_br T b x1 x2) 1 3 b = x2 := if_pos ⟨rfl, rfl, rfl⟩
  unfold tt_at
  rw [e2, e3]
theorem tt_ca_br {b : Nat} {x1 x2 wh sp : Int32} (h0 : tt_at T wh sp b = false) (h1 : ¬ (x1 = wh ∧ x2 = sp)) : tt_ca (tt_br T b x1 x2) wh sp = tt_ca T wh sp := by
  refine tt_ct_cg _ (fun i hi => ?_)
  by_cases z : i = b
  · rw [z, tt_at_eq, h0, decide_eq_false h1]
  · exact tt_at_ne z
theorem tt_ca_up {b : Nat} {x1 x2 wh sp : Int32} (hb : b < (tl T 1).length) (h0 : tt_at T wh sp b = false) (h1 : x1 = wh ∧ x2 = sp) : tt_ca (tt_br T b x1 x2) wh sp = tt_ca T wh sp + 1 := by
  have := tt_ct_up (p := tt_at T wh sp) (q := tt_at (tt_br T b x1 x2) wh sp) (b := b) (fun i hi => tt_at_ne hi) h0 (by rw [tt_at_eq]; exact decide_eq_true h1) (tl T 1).length
  rw [if_pos hb] at this
  exact this
theorem tt_ca_dn {b : Nat} {x1 x2 wh sp : Int32} (hb : b < (tl T 1).length) (h0 : tt_at T wh sp b = true) (h1 : ¬ (x1 = wh ∧ x2 = sp)) : tt_ca (tt_br T b x1 x2) wh sp + 1 = tt_ca T wh sp :=
  tt_ct_dn (p := tt_at T wh sp) (q := tt_at (tt_br T b x1 x2) wh sp) (b := b) (fun i hi => tt_at_ne hi) h0 (by rw [tt_at_eq]; exact decide_eq_false h1) hb
theorem tt_ca_3 {b : Nat} {x1 x2 sp : Int32} (h0 : ti T 1 2 b ≠ 3) (h1 : x1 ≠ 3) : tt_ca (tt_br T b x1 x2) 3 sp = tt_ca T 3 sp := tt_ca_br (decide_eq_false (fun z => h0 z.1)) (fun z => h1 z.1)
/-- a box is brought to the apron -/
theorem sw_apron (s : sm T M) {b : Nat} (h3 : ti T 1 2 b ≠ 3) {p v : Int32} : sm (tt_I (tt_br T b 1 p) 1 5 b v) (mm_A (mm_A M 9 b 1) 11 b v) := by
  refine ⟨s.i, s.s, fun b' hb' => ?_, fun st hst => ?_, s.w, s.m, s.d, s.z, s.l, s.q⟩
  · obtain ⟨e1, e2, e3, e4, e5, e6, e7, e8⟩ := s.b b' hb'
    have a9 : ma (mm_A (mm_A M 9 b 1) 11 b v) 9 b' = if 9 = 9 ∧ b' = b then 1 else ma M 9 b' := rfl
    have a11 : ma (mm_A (mm_A M 9 b 1) 11 b v) 11 b' = if 11 = 11 ∧ b' = b then v else ma M 11 b' := rfl
    have t2 : ti (tt_I (tt_br T b 1 p) 1 5 b v) 1 2 b' = if 1 = 1 ∧ 2 = 2 ∧ b' = b then 1 else ti T 1 2 b' := rfl
    have t3 : ti (tt_I (tt_br T b 1 p) 1 5 b v) 1 3 b' = if 1 = 1 ∧ 3 = 3 ∧ b' = b then p else ti T 1 3 b' := rfl
    have t5 : ti (tt_I (tt_br T b 1 p) 1 5 b v) 1 5 b' = if 1 = 1 ∧ 5 = 5 ∧ b' = b then v else ti T 1 5 b' := rfl
    by_cases z : b' = b
    · rw [if_pos ⟨rfl, z⟩] at a9 a11
      rw [if_pos ⟨rfl, rfl, z⟩] at t2 t3 t5
      refine ⟨e1, e2, by rw [a9, t2], fun q1 q2 => absurd t2 q2, by rw [a11, t5], e6, e7, fun q => ?_⟩
      rw [t2] at q
      exact absurd q (by decide)
    · rw [if_neg (fun q => z q.2)] at a9 a11
      rw [if_neg (fun q => z q.2.2)] at t2 t3 t5
      refine ⟨e1, e2, by rw [a9, t2]; exact e3, fun q1 q2 => ?_, by rw [a11, t5]; exact e5, e6, e7, fun q => ?_⟩
      · rw [t2] at q1 q2
        rw [t3]
        exact e4 q1 q2
      · rw [t2] at q
        exact e8 q
  · have e := tt_ca_3 (T := T) (b := b) (x1 := 1) (x2 := p) (sp := nI st) h3 (by decide)
    exact (s.h st hst).trans (congrArg nI e.symm)
/-- what holds of a box that is brought somewhere -/
theorem iw_br (h : iv T c) {b : Nat} {q : Nat} {x2 : Int32} (hq : q < 5) (h1 : q ≤ 1 → x2 = ti T 1 1 b) (h3 : q = 3 → ∃ s, s < 6 ∧ x2 = nI s) : iv (tt_br T b (nI q) x2) c := by
  refine ⟨h.g, h.h, h.n, h.l, h.w, h.r, h.k, fun b' hb' => ?_, h.t, h.s, h.m, h.f⟩
  obtain ⟨e1, e2, e3, e4, e5⟩ := h.b b' hb'
  have t2 : ti (tt_br T b (nI q) x2) 1 2 b' = if 1 = 1 ∧ 2 = 2 ∧ b' = b then nI q else ti T 1 2 b' := rfl
  have t3 : ti (tt_br T b (nI q) x2) 1 3 b' = if 1 = 1 ∧ 3 = 3 ∧ b' = b then x2 else ti T 1 3 b' := rfl
  by_cases z : b' = b
  · rw [if_pos ⟨rfl, rfl, z⟩] at t2 t3
    refine ⟨e1, ⟨q, hq, t2⟩, fun w => ?_, fun w => ?_, e5⟩
    · rw [t2] at w
      rw [t3]
      have hq1 : q ≤ 1 := by
        rcases w with w | w
        · have := (nI_eq (b := 0) (by omega) (by decide)).mp w
          omega
        · have := (nI_eq (b := 1) (by omega) (by decide)).mp w
          omega
      rw [h1 hq1]
      exact z ▸ rfl
    · rw [t2] at w
      rw [t3]
      exact h3 ((nI_eq (b := 3) (by omega) (by decide)).mp w)
  · rw [if_neg (fun q => z q.2.2)] at t2 t3
    refine ⟨e1, by rw [t2]; exact e2, fun w => ?_, fun w => ?_, e5⟩
    · rw [t2] at w
      rw [t3]
      exact e3 w
    · rw [t2] at w
      rw [t3]
      exact e4 w
theorem iw_fi5 (h : iv T c) {b : Nat} {v : Int32} : iv (tt_I T 1 5 b v) c := h
theorem iw_fi4 (h : iv T c) {b : Nat} {v : Int32} : iv (tt_I T 1 4 b v) c := h
theorem iw_apron (h : iv T c) {b w : Nat} {v : Int32} (hp : v = ti T 1 1 b) : iv (tt_I (tt_br (tt_I T 3 7 w v) b 1 v) 1 5 b (nI w)) c :=
  iw_fi5 (iw_br (q := 1) (iw_place h) (by decide) (fun _ => hp) (fun q => absurd q (by decide)))
theorem tt_mL {j m : Nat} {l : List Nat} (hj : j ≠ 2) (hm : m < (tl T 2).length) : m < (tl (tt_L T j l) 2).length := by
  rw [tt_lL (fun e => hj e.symm)]
  exact hm
theorem iw_li (h : iv T c) {w m b : Nat} (hw : w < 4) (hm : m < (tl T 2).length) (hno : m ∉ tl T (14 + w)) : iv (tt_li T w m b).2 (c + 1) := by
  unfold tt_li
  split
  · split
    · refine iw_ak (iw_rm (iw_nm (iw_apron h rfl) hm) (by omega) hm hno (fun q => by omega)) (by omega) ?_ (fun q => by omega)
      exact tt_mL (T := T) (by omega) hm
    · exact h.mono (Nat.le_succ c)
  · exact iw_ak (h.mono (Nat.le_succ c)) (by omega) hm (fun q => by omega)
theorem iw_ho (h : iv T c) {w m b : Nat} (hw : w < 8) (hm : m < (tl T 2).length) (hk : 4 ≤ w → ti T 2 1 m ≠ 0) : iv (tt_ho T w m b).2 (c + 1) := by
  unfold tt_ho
  split
  · exact (iw_lossM h).mono (Nat.le_succ c)
  · split
    · split
      · exact iw_ak (h.mono (Nat.le_succ c)) hw hm hk
      · rename_i hno
        split
        · rename_i h4
          exact iw_li h h4 hm hno
        · rename_i h4
          refine (iw_seen h (fun z e => ?_)).mono (Nat.le_succ c)
          rw [← Nat.succ.inj e]
          exact ⟨hm, hno, hk (by omega)⟩
    · exact h.mono (Nat.le_succ c)
theorem tt_rm_pl {w m : Nat} (hw : w < 8) : tt_rm (tt_pl T w m) w m = tt_pl (tt_rm T w m) w m := by
  unfold tt_rm tt_pl
  rw [show tl (tt_L T (6 + w) ((tl T (6 + w)).erase m ++ [m])) (14 + w) = tl T (14 + w) from tt_lL (by omega), show tl (tt_L T (14 + w) (tl T (14 + w) ++ [m])) (6 + w) = tl T (6 + w) from tt_lL (by omega)]
  exact tt_LC (by omega)
theorem tt_ak_pl {w m : Nat} (hd : (tl T (6 + w)).Nodup) : tt_ak (tt_pl T w m) w m = if (tt_ak T w m).1 = 4 then tt_ak T w m else ((tt_ak T w m).1, tt_pl (tt_ak T w m).2 w m) := by
  have e3 : tl (tt_pl T w m) 3 = tl T 3 := tt_lL (by omega)
  have eq : tt_L (tt_pl T w m) (6 + w) ((tl (tt_pl T w m) (6 + w)).erase m) = tt_L T (6 + w) ((tl T (6 + w)).erase m) := by
    have e : tl (tt_pl T w m) (6 + w) = (tl T (6 + w)).erase m ++ [m] := tt_lS
    rw [e, List.erase_append_right _ (List.Nodup.not_mem_erase hd), show [m].erase m = [] by simp, List.append_nil]
    exact tt_LL
  have i1 : ti (tt_pl T w m) = ti T := rfl
  unfold tt_ak
  rw [e3, eq, i1]
  by_cases c1 : 0 < ti T 3 4 w
  · rw [if_pos c1, if_pos c1, if_neg (show ¬ ((5 : Int32) = 4) by decide)]
    rfl
  · rw [if_neg c1, if_neg c1]
    by_cases c2 : ti T 2 5 m ≠ -1 ∧ ti T 2 6 m = 0
    · rw [if_pos c2, if_pos rfl]
    · rw [if_neg c2, if_pos rfl]
theorem tt_li_z {w m b : Nat} (c1 : ti T 1 2 b = 0) (c2 : tt_go T w (ti T 1 1 b) ∧ tt_ca T 1 (ti T 1 1 b) = 0) : tt_li T w m b = tt_ak (tt_rm (tt_nm (tt_I (tt_br (tt_I T 3 7 w (ti T 1 1 b)) b 1 (ti T 1 1 b)) 1 5 b (nI w)) m) w m) w m := by
  unfold tt_li
  rw [if_pos c1, if_pos c2]
theorem tt_li_n {w m b : Nat} (c1 : ti T 1 2 b = 0) (c2 : ¬ (tt_go T w (ti T 1 1 b) ∧ tt_ca T 1 (ti T 1 1 b) = 0)) : tt_li T w m b = (3, T) := by
  unfold tt_li
  rw [if_pos c1, if_neg c2]
theorem tt_li_o {w m b : Nat} (c1 : ¬ ti T 1 2 b = 0) : tt_li T w m b = tt_ak T w m := by
  unfold tt_li
  rw [if_neg c1]
theorem tt_li_pl {w m b : Nat} (hw : w < 8) (hd : (tl T (6 + w)).Nodup) : tt_li (tt_pl T w m) w m b = if (tt_li T w m b).1 = 4 then tt_li T w m b else ((tt_li T w m b).1, tt_pl (tt_li T w m b).2 w m) := by
  have ec : tt_ca (tt_pl T w m) 1 (ti T 1 1 b) = tt_ca T 1 (ti T 1 1 b) := by
    unfold tt_ca
    rw [show tl (tt_pl T w m) 1 = tl T 1 from tt_lL (by omega)]
    rfl
  by_cases c1 : ti T 1 2 b = 0
  · by_cases c2 : tt_go T w (ti T 1 1 b) ∧ tt_ca T 1 (ti T 1 1 b) = 0
    · rw [tt_li_z c1 c2, tt_li_z (T := tt_pl T w m) c1 (show tt_go (tt_pl T w m) w (ti T 1 1 b) ∧ tt_ca (tt_pl T w m) 1 (ti T 1 1 b) = 0 from ⟨c2.1, ec.trans c2.2⟩)]
      have et := tt_rm_pl (T := tt_nm (tt_I (tt_br (tt_I T 3 7 w (ti T 1 1 b)) b 1 (ti T 1 1 b)) 1 5 b (nI w)) m) (m := m) hw
      have hd' : (tl (tt_rm (tt_nm (tt_I (tt_br (tt_I T 3 7 w (ti T 1 1 b)) b 1 (ti T 1 1 b)) 1 5 b (nI w)) m) w m) (6 + w)).Nodup := by
        have e : tl (tt_rm (tt_nm (tt_I (tt_br (tt_I T 3 7 w (ti T 1 1 b)) b 1 (ti T 1 1 b)) 1 5 b (nI w)) m) w m) (6 + w) = tl T (6 + w) := tt_lL (by omega)
        rw [e]
        exact hd
      rw [← tt_ak_pl hd', ← et]
      rfl
    · rw [tt_li_n c1 c2, tt_li_n (T := tt_pl T w m) c1 (show ¬ (tt_go (tt_pl T w m) w (ti T 1 1 b) ∧ tt_ca (tt_pl T w m) 1 (ti T 1 1 b) = 0) from fun z => c2 ⟨z.1, ec.symm.trans z.2⟩), if_neg (show ¬ ((3 : Int32) = 4) by decide)]
  · rw [tt_li_o c1, tt_li_o (T := tt_pl T w m) c1]
    exact tt_ak_pl hd
theorem tt_ho_pl {w m b : Nat} (hw : w < 8) (hd : (tl T (6 + w)).Nodup) : tt_ho (tt_pl T w m) w m b = if (tt_ho T w m b).1 = 4 then tt_ho T w m b else ((tt_ho T w m b).1, tt_pl (tt_ho T w m b).2 w m) := by
  have er : tl (tt_pl T w m) (14 + w) = tl T (14 + w) := tt_lL (by omega)
  have i1 : ti (tt_pl T w m) = ti T := rfl
  unfold tt_ho
  rw [i1, er]
  by_cases c1 : 0 < ti T 3 3 w
  · rw [if_pos c1, if_pos c1, if_neg (show ¬ ((1 : Int32) = 4) by decide)]
    rfl
  · rw [if_neg c1, if_neg c1]
    by_cases c2 : ti T 3 5 w = 0
    · rw [if_pos c2, if_pos c2]
      by_cases c3 : m ∈ tl T (14 + w)
      · rw [if_pos c3, if_pos c3]
        exact tt_ak_pl hd
      · rw [if_neg c3, if_neg c3]
        by_cases c4 : w < 4
        · rw [if_pos c4, if_pos c4]
          exact tt_li_pl hw hd
        · rw [if_neg c4, if_neg c4, if_neg (show ¬ ((6 : Int32) = 4) by decide)]
          rfl
    · rw [if_neg c2, if_neg c2, if_neg (show ¬ ((2 : Int32) = 4) by decide)]
theorem tt_dl_pl {w m b : Nat} (hw : w < 8) (hd : (tl T (6 + w)).Nodup) (hb : tt_bx T m = b) : tt_dl T w m = tt_ho (tt_pl T w m) w m b := by
  unfold tt_dl
  rw [hb]
  exact (tt_ho_pl hw hd).symm
end SV
section TYG
variable {t0 m9 y c : Nat} {S : qs_S} {T : tt_T} {H : Nat → Nat} {M : mm_M} {post : Int32 → qs_S → Prop}
theorem cy_lifts (h : tx_M S y H M) (s : sm T M) (I : iv T c) (hc : c + 1 < 2 ^ 30) {w m b : Nat} (hw : w < 4) (hm : m < (tl T 2).length) (hb : tr T 2 2 m = b + 1) (hbv : b < (tl T 1).length) (hno : m ∉ tl T (14 + w)) (hp : ∀ S' M', tx_M S' y H M' → tx_J t0 S S' → mi M' 0 = mi M 0 → sm (tt_li T w m b).2 M' → post (tt_li T w m b).1 S') : wp_X7_lifts t0 m9 post S y (nI w) (nI m) := by
  have hl := I.n.2.2
  have hl1 := I.n.2.1
  have m80 : m < 80 := by omega
  have b24 : b < 24 := by omega
  have sb := s.b b hbv
  have eb : ma M 20 m = nI b := by
    rw [(s.m m hm).2.1, hb, Nat.add_sub_cancel]
  refine ⟨h.y7, h.rA (k := 20) (i := m) rfl ?_ m80⟩
  rw [eb]
  refine h.rA (k := 9) (i := b) rfl ?_ b24
  rw [sb.2.2.1]
  unfold tt_li at hp
  refine ⟨fun z => ?_, fun z => ?_⟩
  · rw [if_pos z] at hp
    refine h.rA (k := 8) (i := b) rfl ?_ b24
    rw [sb.2.1]
    refine cy_canGo h s hw (fun d => ⟨fun q => absurd q (by decide), fun _ => ⟨h.y7, cy_isTaken h s I (fun e => ⟨fun _ => ?_, fun q => absurd rfl q⟩) (fun e => ⟨fun q => absurd q (by decide), fun _ => ?_⟩)⟩⟩) (fun d => ⟨fun _ => ?_, fun q => absurd rfl q⟩)
    · rw [if_pos ⟨d, e⟩] at hp
      obtain ⟨r1, k1⟩ := h.wA (k := 16) (x := nI w) (i := w) (v := ti T 1 1 b) t0 rfl (show w < 4 from hw)
      obtain ⟨r2, k2⟩ := r1.wA (k := 9) (x := nI b) (i := b) (v := 1) t0 rfl b24
      obtain ⟨r3, k3⟩ := r2.wA (k := 11) (x := nI b) (i := b) (v := nI w) t0 rfl b24
      refine ⟨h.y7, _, h.ar 16, h.hk 16, h.vp (k := 16) rfl hw, _, r1.ar 9, r1.hk 9, r1.vp (k := 9) rfl b24, _, r2.ar 11, r2.hk 11, r2.vp (k := 11) rfl b24, cy_makes r3 m80 (fun S4 r4 k4 => ⟨r4.y7, _, r4.ar 26, r4.rB (k := 26) (i := m) rfl (fun v55 e55 v56 e56 => ⟨r4.vp (k := 26) rfl m80, ?_⟩) m80⟩)⟩
      rw [e55] at e56
      obtain ⟨r5, k5⟩ := r4.wA (k := 26) (x := nI m) (i := m) (v := v56) t0 rfl m80
      have s3 : sm (tt_I (tt_br (tt_I T 3 7 w (ti T 1 1 b)) b 1 (ti T 1 1 b)) 1 5 b (nI w)) (mm_A (mm_A (mm_A M 16 w (ti T 1 1 b)) 9 b 1) 11 b (nI w)) := sw_apron (sw_place s) (by
        show ti T 1 2 b ≠ 3
        rw [z]
        decide)
      have s5 := sw_rm (sw_nm s3 hm) (w := w) (by omega) hm
      have I5 := iw_rm (iw_nm (iw_apron I (b := b) (w := w) rfl) hm) (w := w) (by omega) hm hno (fun q => by omega)
      rw [e56] at r5 k5 ⊢
      exact cy_ack r5 s5 I5 hc (by omega) (tt_mL (T := T) (by omega) hm) (fun S' M' r' k' z' s' => hp S' M' r' (((((k1.tr k2).tr k3).tr k4).tr k5).tr k') z' s')
    · rw [if_neg (fun q => e q.2)] at hp
      exact hp _ _ h tx_J.rf rfl s
    · rw [if_neg (fun q => d q.1)] at hp
      exact hp _ _ h tx_J.rf rfl s
  · rw [if_neg z] at hp
    exact cy_ack h s I (by omega) (by omega) hm hp
theorem cm_deliver (h : tx_M S y H M) (s : sm T M) (I : iv T c) (hc : c + 1 < 2 ^ 30) {x : Int32} (hp : ty_H cA post t0 S y H (tq_deliver T x)) : wp_X7_deliver t0 m9 post S y x := by
  have hl := I.n.2.2
  unfold tq_deliver at hp
  refine cy_isWorker (fun w hw e => ⟨fun q => absurd q (by decide), fun _ => ?_⟩) (fun z => ⟨fun _ => ?_, fun q => absurd rfl q⟩)
  · rw [e, tt_ix_in hw (by decide)] at hp
    rw [e]
    obtain ⟨r, k⟩ := h.wI (k := 0) (v := 0) t0
    have q29 : ma (mm_I M 0 0) 29 w = nI (tl T (6 + w)).length := (s.q w hw).1
    refine ⟨h.y7, r.y7, r.r0 ⟨fun q => absurd q (by decide), fun _ => r.rA (k := 29) (i := w) rfl ?_ hw⟩⟩
    rw [q29]
    cases hq : tl T (6 + w) with
    | nil =>
      simp only [hq] at hp
      exact ⟨fun q => absurd nI_0 q, fun _ => hp _ _ _ r k rfl (fun _ => rfl) s.th⟩
    | cons m l =>
      simp only [hq] at hp
      have hmem : m ∈ tl T (6 + w) := by rw [hq]; exact List.mem_cons_self
      have hlen := I.lw w hw
      obtain ⟨qd, qb⟩ := I.l (6 + w) (Or.inr (by omega)) (by omega)
      have hm := qb m hmem
      have m80 : m < 80 := by omega
      have hpos : 0 < (tl T (6 + w)).length := by rw [hq]; exact Nat.succ_pos _
      obtain ⟨b, hbv, hb⟩ := I.h.2.2.1 m hm
      have q30 : ma (mm_I M 0 0) 30 (80 * w) = nI m := by
        have := (s.q w hw).2 0 hpos
        rw [hq] at this
        exact this
      refine ⟨fun _ => ⟨_, r.ar 30, fun v14 e14 => r.rB (k := 30) (i := 80 * w) (by rw [e14]; exact pk_mul 80 w) ?_ (by show 80 * w < 640; omega)⟩, fun q => absurd q (nI_ne0 (by rw [← hq]; exact hpos) (by rw [← hq]; omega))⟩
      rw [q30]
      refine ⟨_, r.ar 22, r.rB (k := 22) (i := m) rfl (fun v24 e24 => ⟨r.vp (k := 22) rfl m80, ?_⟩) m80⟩
      rw [show ma (mm_I M 0 0) 22 m = ti T 2 4 m from (s.m m hm).2.2.2.1] at e24
      obtain ⟨r1, k1⟩ := r.wA (k := 22) (x := nI m) (i := m) (v := v24) t0 rfl m80
      rw [e24] at r1 k1 ⊢
      have s1 : sm (tt_I T 2 4 m (ti T 2 4 m + 1)) (mm_A (mm_I M 0 0) 22 m (ti T 2 4 m + 1)) := sw_hand s.th hm
      have le1 := List.length_erase_of_mem hmem
      refine cy_quits r1 hw (l := tl T (6 + w)) (s1.q w hw) qd m80 (fun x hx => by have := qb x hx; omega) (fun S2 M2 r2 k2 q2 => ⟨r2.y7, cy_joins r2 hw q2.q (by omega) (fun S3 M3 r3 k3 q3 => ⟨r3.y7, ?_⟩)⟩)
      have s3 : sm (tt_pl (tt_I T 2 4 m (ti T 2 4 m + 1)) w m) M3 := sw_q s1 I.lw hw (q2.tr q3)
      have I3 : iv (tt_pl (tt_I T 2 4 m (ti T 2 4 m + 1)) w m) c := iw_last' (T := tt_I T 2 4 m (ti T 2 4 m + 1)) (iw_hand I) hw hmem
      have z3 : mi M3 0 = 0 := q3.mi.trans (q2.mi.trans rfl)
      have ed := tt_dl_pl (T := tt_I T 2 4 m (ti T 2 4 m + 1)) (m := m) (b := b) hw qd (by show tr T 2 2 m - 1 = b; rw [hb, Nat.add_sub_cancel])
      have hm1 : m < (tl (tt_pl (tt_I T 2 4 m (ti T 2 4 m + 1)) w m) 2).length := tt_mL (T := T) (by omega) hm
      have hbv1 : b < (tl (tt_pl (tt_I T 2 4 m (ti T 2 4 m + 1)) w m) 1).length := by
        have e : tl (tt_pl (tt_I T 2 4 m (ti T 2 4 m + 1)) w m) 1 = tl T 1 := tt_lL (by omega)
        rw [e]
        exact hbv
      have hb1 : tr (tt_pl (tt_I T 2 4 m (ti T 2 4 m + 1)) w m) 2 2 m = b + 1 := hb
      have hp' : ∀ S' M', tx_M S' y H M' → tx_J t0 S3 S' → mi M' 0 = mi M3 0 → sm (tt_ho (tt_pl (tt_I T 2 4 m (ti T 2 4 m + 1)) w m) w m b).2 M' → post (tt_ho (tt_pl (tt_I T 2 4 m (ti T 2 4 m + 1)) w m) w m b).1 S' := fun S' M' r' k' z' s' => hp S' M' _ r' ((((k.tr k1).tr k2).tr k3).tr k') (z'.trans z3) (fun _ => (congrArg Prod.fst ed).symm) (by
        show sm (tt_dl (tt_I T 2 4 m (ti T 2 4 m + 1)) w m).2 M'
        rw [ed]
        exact s')
      generalize tt_pl (tt_I T 2 4 m (ti T 2 4 m + 1)) w m = T1 at s3 I3 hm1 hbv1 hb1 hp'
      clear hp
      refine r3.rA (k := 31) (i := w) rfl ?_ hw
      rw [(s3.w w hw).2.2.1]
      unfold tt_ho at hp'
      refine ⟨fun z => r3.rA (k := 17) (i := w) rfl ?_ hw, fun z => ⟨_, r3.ar 31, r3.rB (k := 31) (i := w) rfl (fun v82 e82 => ⟨r3.vp (k := 31) rfl hw, ?_⟩) hw⟩⟩
      · rw [if_neg (Int32.not_lt.mpr z)] at hp'
        rw [(s3.w w hw).2.1]
        refine ⟨fun z1 => ?_, fun z1 => ?_⟩
        · rw [if_pos z1] at hp'
          obtain ⟨d, d256, ed', dt⟩ := s3.d m hm1
          refine r3.rA (k := 26) (i := m) rfl ?_ m80
          rw [ed']
          intro v53 e53 v54 e54
          have et : v54 = 1 ↔ m ∈ tl T1 (14 + w) := by
            rw [e54, e53, sh_bit d d256 w hw, dt w hw]
            exact ⟨of_decide_eq_true, decide_eq_true⟩
          refine ⟨fun z2 => ?_, fun z2 => ?_⟩
          · have hno : m ∉ tl T1 (14 + w) := fun q => z2 (et.mpr q)
            rw [if_neg hno] at hp'
            refine cy_isCrane (fun i hi e => ⟨fun q => absurd q (by decide), fun _ => ⟨r3.y7, ?_⟩⟩) (fun z => ⟨fun _ => ?_, fun q => absurd rfl q⟩)
            · have ew : w = i := (nI_eq (by omega) (by omega)).mp e
              have hw4 : w < 4 := by omega
              rw [if_pos hw4] at hp'
              exact cy_lifts r3 s3 I3 hc hw4 hm1 hb1 hbv1 hno hp'
            · have hw4 : ¬ w < 4 := fun q => by
                rw [tt_ix_in q (by decide)] at z
                omega
              rw [if_neg hw4] at hp'
              obtain ⟨r4, k4⟩ := r3.wA (k := 34) (x := nI w) (i := w) (v := nI m) t0 rfl hw
              exact ⟨r3.y7, _, r3.ar 34, r3.hk 34, r3.vp (k := 34) rfl hw, hp' _ _ r4 k4 rfl (sw_seen (x := m + 1) s3)⟩
          · rw [if_pos (et.mp z2)] at hp'
            exact cy_ack r3 s3 I3 (by omega) hw hm1 hp'
        · rw [if_neg z1] at hp'
          exact hp' _ _ r3 tx_J.rf rfl s3
      · rw [if_pos (Int32.not_le.mp z)] at hp'
        obtain ⟨r4, k4⟩ := r3.wA (k := 31) (x := nI w) (i := w) (v := v82) t0 rfl hw
        rw [(s3.w w hw).2.2.1] at e82
        rw [e82] at r4 k4 ⊢
        exact hp' _ _ r4 k4 rfl (sw_lossM s3)
  · rw [z] at hp
    obtain ⟨r, k⟩ := h.wI (k := 0) (v := 1) t0
    exact ⟨h.y7, r.y7, r.r0 ⟨fun _ => hp _ _ _ r k rfl (fun q => absurd (show (1 : Nat) = 0 from q) (by decide)) s.th, fun q => absurd (by decide) q⟩⟩
/-- the invariants behind a delivery -/
theorem iw_deliver (I : iv T c) {x : Int32} : iv (tq_deliver T x).2.2 (c + 1) := by
  unfold tq_deliver
  cases hx : tt_ix x 8 with
  | zero => exact I.mono (Nat.le_succ c)
  | succ w =>
    obtain ⟨hw, -⟩ := tt_ix_eq (by decide) hx
    cases hq : tl T (6 + w) with
    | nil => simp only [hq]; exact I.mono (Nat.le_succ c)
    | cons m l =>
      simp only [hq]
      have hmem : m ∈ tl T (6 + w) := by rw [hq]; exact List.mem_cons_self
      obtain ⟨qd, qb⟩ := I.l (6 + w) (Or.inr (by omega)) (by omega)
      have hm := qb m hmem
      have ed := tt_dl_pl (T := tt_I T 2 4 m (ti T 2 4 m + 1)) (m := m) hw qd rfl
      show iv (tt_dl (tt_I T 2 4 m (ti T 2 4 m + 1)) w m).2 (c + 1)
      rw [ed]
      exact iw_ho (iw_last' (T := tt_I T 2 4 m (ti T 2 4 m + 1)) (iw_hand I) hw hmem) hw (tt_mL (T := T) (by omega) hm) (fun h4 => (I.k w h4 hw).1 m hmem)
end TYG
