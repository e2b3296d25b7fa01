/-! ===== the reference's queues ===== -/
/-- the rows 29 and 30 are others -/
def mm_R (M : mm_M) (a b : Nat → Int32) : mm_M := (mi M, fun k i => if k = 29 then a i else if k = 30 then b i else ma M k i)
/-- as M, but the queue of w is l -/
def mm_Q (M M' : mm_M) (w : Nat) (l : List Nat) : Prop := ∃ a b, M' = mm_R M a b ∧ (∀ i, i ≠ w → a i = ma M 29 i) ∧ (∀ i, ¬ (80 * w ≤ i ∧ i < 80 * w + 80) → b i = ma M 30 i) ∧ a w = nI l.length ∧ ∀ k, k < l.length → b (80 * w + k) = nI (l.getD k 0)
theorem mm_R_R {M : mm_M} {a b a' b' : Nat → Int32} : mm_R (mm_R M a b) a' b' = mm_R M a' b' := by
  refine Prod.ext rfl ?_
  funext k i
  show (if k = 29 then a' i else if k = 30 then b' i else if k = 29 then a i else if k = 30 then b i else ma M k i) = if k = 29 then a' i else if k = 30 then b' i else ma M k i
  by_cases c : k = 29
  · simp only [if_pos c]
  · by_cases d : k = 30
    · simp only [if_neg c, if_pos d]
    · simp only [if_neg c, if_neg d]
theorem mm_R_self {M : mm_M} : mm_R M (ma M 29) (ma M 30) = M := by
  refine Prod.ext rfl ?_
  funext k i
  show (if k = 29 then ma M 29 i else if k = 30 then ma M 30 i else ma M k i) = ma M k i
  by_cases c : k = 29
  · rw [if_pos c, c]
  · rw [if_neg c]
    by_cases d : k = 30
    · rw [if_pos d, d]
    · rw [if_neg d]
theorem mm_R_A30 {M : mm_M} {a b : Nat → Int32} {j : Nat} {v : Int32} : mm_A (mm_R M a b) 30 j v = mm_R M a (fun i => if i = j then v else b i) := by
  refine Prod.ext rfl ?_
  funext k i
  show (if k = 30 ∧ i = j then v else if k = 29 then a i else if k = 30 then b i else ma M k i) = if k = 29 then a i else if k = 30 then (if i = j then v else b i) else ma M k i
  by_cases c : k = 29
  · rw [if_neg (fun q => by have := q.1; omega), if_pos c, if_pos c]
  · rw [if_neg c]
    by_cases d : k = 30
    · rw [if_pos d, if_neg c, if_pos d]
      by_cases e : i = j
      · rw [if_pos ⟨d, e⟩, if_pos e]
      · rw [if_neg (fun q => e q.2), if_neg e]
    · rw [if_neg (fun q => d q.1), if_neg d, if_neg c, if_neg d]
theorem mm_R_A29 {M : mm_M} {a b : Nat → Int32} {j : Nat} {v : Int32} : mm_A (mm_R M a b) 29 j v = mm_R M (fun i => if i = j then v else a i) b := by
  refine Prod.ext rfl ?_
  funext k i
  show (if k = 29 ∧ i = j then v else if k = 29 then a i else if k = 30 then b i else ma M k i) = if k = 29 then (if i = j then v else a i) else if k = 30 then b i else ma M k i
  by_cases c : k = 29
  · rw [if_pos c, if_pos c]
    by_cases e : i = j
    · rw [if_pos ⟨c, e⟩, if_pos e]
    · rw [if_neg (fun q => e q.2), if_neg e]
  · rw [if_neg (fun q => c q.1), if_neg c, if_neg c]
theorem mm_Q.q {M M' : mm_M} {w : Nat} {l : List Nat} (h : mm_Q M M' w l) : ma M' 29 w = nI l.length ∧ ∀ k, k < l.length → ma M' 30 (80 * w + k) = nI (l.getD k 0) := by
  obtain ⟨a, b, rfl, -, -, h3, h4⟩ := h
  exact ⟨h3, h4⟩
theorem mm_Q.mi {M M' : mm_M} {w : Nat} {l : List Nat} (h : mm_Q M M' w l) {k : Nat} : mi M' k = mi M k := by
  obtain ⟨a, b, rfl, -⟩ := h
  rfl
theorem mm_Q.tr {M M' M'' : mm_M} {w : Nat} {l l' : List Nat} (h : mm_Q M M' w l) (k : mm_Q M' M'' w l') : mm_Q M M'' w l' := by
  obtain ⟨a, b, rfl, h1, h2, -, -⟩ := h
  obtain ⟨a', b', rfl, k1, k2, k3, k4⟩ := k
  exact ⟨a', b', mm_R_R, fun i hi => (k1 i hi).trans (h1 i hi), fun i hi => (k2 i hi).trans (h2 i hi), k3, k4⟩
theorem mm_Q.join {M : mm_M} {w m : Nat} {l : List Nat} (hl : ∀ k, k < l.length → ma M 30 (80 * w + k) = nI (l.getD k 0)) (h80 : l.length < 80) : mm_Q M (mm_A (mm_A M 30 (80 * w + l.length) (nI m)) 29 w (nI (l.length + 1))) w (l ++ [m]) := by
  refine ⟨fun i => if i = w then nI (l.length + 1) else ma M 29 i, fun i => if i = 80 * w + l.length then nI m else ma M 30 i, ?_, fun i hi => if_neg hi, fun i hi => if_neg (fun q => hi (by omega)), ?_, fun k hk => ?_⟩
  · rw [← mm_R_A29, ← mm_R_A30, mm_R_self]
  · show (if w = w then nI (l.length + 1) else _) = nI (l ++ [m]).length
    rw [if_pos rfl, List.length_append]
    rfl
  · rw [List.length_append] at hk
    have hk' : k < l.length + 1 := hk
    show (if 80 * w + k = 80 * w + l.length then nI m else ma M 30 (80 * w + k)) = nI ((l ++ [m]).getD k 0)
    by_cases z : k = l.length
    · rw [if_pos (by rw [z]), z, ps_getD_last]
    · rw [if_neg (by omega), hl k (by omega), ps_getD_app (by omega)]
section SQ
variable {T : tt_T} {M M' : mm_M} {c : Nat}
theorem iv.lw (I : iv T c) : ∀ w, w < 8 → (tl T (6 + w)).length ≤ 80 := fun w hw => I.len (Or.inr (by omega)) (by omega)
theorem sw_q (s : sm T M) (hlen : ∀ w, w < 8 → (tl T (6 + w)).length ≤ 80) {w : Nat} (hw : w < 8) {l : List Nat} (hQ : mm_Q M M' w l) : sm (tt_L T (6 + w) l) M' := by
  obtain ⟨a, b, rfl, ha, hb, hl, hk⟩ := hQ
  have e0 : ∀ n, n < 6 → tl (tt_L T (6 + w) l) n = tl T n := fun n hn => tt_lL (by omega)
  refine ⟨?_, ?_, ?_, ?_, s.w, ?_, fun m hm => ?_, ?_, ?_, fun w' hw' => ?_⟩
  · unfold sm_i
    rw [e0 0 (by omega), e0 1 (by omega), e0 2 (by omega), e0 3 (by omega)]
    exact s.i
  · unfold sm_s
    rw [e0 0 (by omega)]
    exact s.s
  · unfold sm_b
    rw [e0 1 (by omega)]
    exact s.b
  · have := s.h
    unfold sm_h tt_ca at this ⊢
    rw [e0 1 (by omega)]
    exact this
  · unfold sm_m
    rw [e0 2 (by omega)]
    exact s.m
  · rw [e0 2 (by omega)] at hm
    obtain ⟨d, h1, h2, h3⟩ := s.d m hm
    exact ⟨d, h1, h2, fun w' hw' => by rw [tt_lL (by omega)]; exact h3 w' hw'⟩
  · unfold sm_z
    rw [e0 2 (by omega), e0 0 (by omega)]
    exact s.z
  · unfold sm_l
    rw [e0 3 (by omega)]
    exact s.l
  · by_cases z : w' = w
    · subst z
      have e : tl (tt_L T (6 + w') l) (6 + w') = l := tt_lS
      rw [e]
      exact ⟨hl, hk⟩
    · have e : tl (tt_L T (6 + w) l) (6 + w') = tl T (6 + w') := tt_lL (by omega)
      rw [e]
      obtain ⟨q1, q2⟩ := s.q w' hw'
      have hlen' := hlen w' hw'
      exact ⟨(ha w' z).trans q1, fun k hk' => (hb _ (by omega)).trans (q2 k hk')⟩
theorem iw_q (h : iv T c) {w : Nat} (hw : w < 8) {l : List Nat} (hd : l.Nodup) (hm : ∀ m, m ∈ l → m < (tl T 2).length ∧ (∀ w', w' < 8 → w' ≠ w → m ∉ tl T (6 + w')) ∧ (4 ≤ w → ti T 2 1 m ≠ 0)) : iv (tt_L T (6 + w) l) c := by
  have e0 : ∀ n, n ≠ 6 + w → tl (tt_L T (6 + w) l) n = tl T n := fun n hn => tt_lL hn
  have eS : tl (tt_L T (6 + w) l) (6 + w) = l := tt_lS
  refine ⟨tt_gL (Or.inr (by omega)) h.g, tt_hL (Or.inr (by omega)) h.h, ?_, fun j hj h22 => ?_, fun w1 w2 m h1 h2 m1 m2 => ?_, fun w1 h1 x => ?_, fun w1 h4 h1 => ⟨fun m hm' => ?_, (h.k w1 h4 h1).2⟩, ?_, ?_, ?_, ?_, h.f⟩
  · unfold iv_n
    rw [e0 0 (by omega), e0 1 (by omega), e0 2 (by omega)]
    exact h.n
  · rw [e0 2 (by omega)]
    by_cases z : j = 6 + w
    · rw [z, eS]
      exact ⟨hd, fun m q => (hm m q).1⟩
    · rw [e0 j z]
      exact h.l j hj h22
  · by_cases z1 : w1 = w <;> by_cases z2 : w2 = w
    · rw [z1, z2]
    · rw [z1, eS] at m1
      rw [e0 (6 + w2) (by omega)] at m2
      exact absurd m2 ((hm m m1).2.1 w2 h2 z2)
    · rw [e0 (6 + w1) (by omega)] at m1
      rw [z2, eS] at m2
      exact absurd m1 ((hm m m2).2.1 w1 h1 z1)
    · rw [e0 (6 + w1) (by omega)] at m1
      rw [e0 (6 + w2) (by omega)] at m2
      exact h.w w1 w2 m h1 h2 m1 m2
  · rw [e0 2 (by omega), e0 (14 + w1) (by omega)]
    exact h.r w1 h1 x
  · by_cases z : w1 = w
    · rw [z, eS] at hm'
      exact (hm m hm').2.2 (z ▸ h4)
    · rw [e0 (6 + w1) (by omega)] at hm'
      exact (h.k w1 h4 h1).1 m hm'
  · unfold iv_b
    rw [e0 1 (by omega)]
    exact h.b
  · unfold iv_t
    rw [e0 2 (by omega)]
    exact h.t
  · unfold iv_s
    rw [e0 0 (by omega)]
    exact h.s
  · unfold iv_m
    rw [e0 2 (by omega), e0 3 (by omega)]
    exact h.m
/-- the queue without m; with m at its end -/
theorem iw_erase (h : iv T c) {w : Nat} (hw : w < 8) {m : Nat} : iv (tt_L T (6 + w) ((tl T (6 + w)).erase m)) c := by
  obtain ⟨d, b⟩ := h.l (6 + w) (Or.inr (by omega)) (by omega)
  exact iw_q h hw (d.erase m) (fun x hx => ⟨b x (List.mem_of_mem_erase hx), fun w' h8 hne hx' => hne (h.w w' w x h8 hw hx' (List.mem_of_mem_erase hx)), fun h4 => (h.k w h4 hw).1 x (List.mem_of_mem_erase hx)⟩)
theorem iw_last' (h : iv T c) {w : Nat} (hw : w < 8) {m : Nat} (hm : m ∈ tl T (6 + w)) : iv (tt_pl T w m) c := by
  obtain ⟨d, b⟩ := h.l (6 + w) (Or.inr (by omega)) (by omega)
  have sub : ∀ x, x ∈ (tl T (6 + w)).erase m ++ [m] → x ∈ tl T (6 + w) := fun x hx => by
    rcases List.mem_append.mp hx with q | q
    · exact List.mem_of_mem_erase q
    · rw [List.mem_singleton.mp q]; exact hm
  refine iw_q h hw (List.nodup_append.mpr ⟨d.erase m, List.nodup_cons.mpr ⟨List.not_mem_nil, List.nodup_nil⟩, fun x hx y hy e => ?_⟩) (fun x hx => ⟨b x (sub x hx), fun w' h8 hne hx' => hne (h.w w' w x h8 hw hx' (sub x hx)), fun h4 => (h.k w h4 hw).1 x (sub x hx)⟩)
  rw [e, List.mem_singleton.mp hy] at hx
  exact (List.Nodup.not_mem_erase d) hx
theorem iw_join (h : iv T c) {w : Nat} (hw : w < 8) {m : Nat} (hm : m < (tl T 2).length) (hno : ∀ w', w' < 8 → m ∉ tl T (6 + w')) (hk : 4 ≤ w → ti T 2 1 m ≠ 0) : iv (tt_L T (6 + w) (tl T (6 + w) ++ [m])) c := by
  obtain ⟨d, b⟩ := h.l (6 + w) (Or.inr (by omega)) (by omega)
  refine iw_q h hw (List.nodup_append.mpr ⟨d, List.nodup_cons.mpr ⟨List.not_mem_nil, List.nodup_nil⟩, fun x hx y hy e => hno w hw (List.mem_singleton.mp hy ▸ e ▸ hx)⟩) (fun x hx => ?_)
  rcases List.mem_append.mp hx with q | q
  · exact ⟨b x q, fun w' h8 hne hx' => hne (h.w w' w x h8 hw hx' q), fun h4 => (h.k w h4 hw).1 x q⟩
  · rw [List.mem_singleton.mp q]
    exact ⟨hm, fun w' h8 _ => hno w' h8, hk⟩
theorem iv.room (h : iv T c) {w : Nat} (hw : w < 8) {m : Nat} (hm : m < (tl T 2).length) (hno : m ∉ tl T (6 + w)) : (tl T (6 + w)).length < 80 := by
  obtain ⟨d, b⟩ := h.l (6 + w) (Or.inr (by omega)) (by omega)
  have n2 := h.n.2.2
  have := ps_nodup_le 80 (m :: tl T (6 + w)) (List.nodup_cons.mpr ⟨hno, d⟩) (fun x hx => by
    rcases List.mem_cons.mp hx with q | q
    · omega
    · have := b x q
      omega)
  rw [List.length_cons] at this
  omega
end SQ
def qf (l : List Nat) (m i : Nat) : List Nat := (l.take i).filter (fun x => x != m)
theorem qf_le {l : List Nat} {m i : Nat} : (qf l m i).length ≤ i := by
  have h1 := List.length_filter_le (fun x => x != m) (l.take i)
  have h2 : (l.take i).length ≤ i := by
    rw [List.length_take]
    omega
  exact Nat.le_trans h1 h2
theorem qf_s {l : List Nat} {m i : Nat} (hi : i < l.length) : qf l m (i + 1) = if l.getD i 0 = m then qf l m i else qf l m i ++ [l.getD i 0] := by
  have e : l[i]?.toList = [l.getD i 0] := by
    rw [List.getD_eq_getElem?_getD, List.getElem?_eq_getElem hi]
    rfl
  unfold qf
  rw [List.take_add_one, List.filter_append, e]
  by_cases z : l.getD i 0 = m
  · rw [if_pos z, z]
    simp
  · have e2 : List.filter (fun x => x != m) [l.getD i 0] = [l.getD i 0] := List.filter_cons_of_pos (p := fun x => x != m) (bne_iff_ne.mpr z)
    rw [if_neg z, e2]
section TYD
variable {t0 m9 y c : Nat} {S : qs_S} {T : tt_T} {H : Nat → Nat} {M : mm_M}
theorem cy_joins {post : qs_S → Prop} (h : tx_M S y H M) {w m : Nat} {l : List Nat} (hw : w < 8) (hl : ma M 29 w = nI l.length ∧ ∀ k, k < l.length → ma M 30 (80 * w + k) = nI (l.getD k 0)) (h80 : l.length < 80) (hp : ∀ S' M', tx_M S' y H M' → tx_J t0 S S' → mm_Q M M' w (l ++ [m]) → post S') : wp_X7_joins t0 m9 post S y (nI w) (nI m) := by
  refine ⟨h.y7, _, h.ar 30, fun v4 e4 => h.rA (k := 29) (i := w) rfl (fun v10 e10 => ?_) hw⟩
  have ev : v10 = nI (80 * w + l.length) := by
    rw [e10, e4, hl.1, ← nI_add]
    congr 1
    exact pk_mul 80 w
  have hlt : 80 * w + l.length < mn 30 := by
    show 80 * w + l.length < 640
    omega
  obtain ⟨r, k⟩ := h.wA (k := 30) (i := 80 * w + l.length) (v := nI m) t0 ev hlt
  refine ⟨h.hk 30, h.vp (k := 30) ev hlt, _, r.ar 29, r.rB (k := 29) (i := w) rfl (fun v19 e19 => ⟨r.vp (k := 29) rfl hw, ?_⟩) hw⟩
  have e19' : v19 = nI (l.length + 1) := by
    rw [e19, show ma (mm_A M 30 (80 * w + l.length) (nI m)) 29 w = nI l.length from hl.1, nI_1]
  obtain ⟨r2, k2⟩ := r.wA (k := 29) (x := nI w) (i := w) (v := v19) t0 rfl hw
  rw [e19'] at r2 k2 ⊢
  exact hp _ _ r2 (k.tr k2) (mm_Q.join hl.2 h80)
theorem cy_quitsL {post : qs_S → Prop} {w m : Nat} {l : List Nat} (hw : w < 8) (h80 : l.length ≤ 80) (hm : m < 80) (hl80 : ∀ x, x ∈ l → x < 80) (e29 : ma M 29 w = nI l.length) (S0 : qs_S) (hp : ∀ S' M', tx_M S' y H M' → tx_J t0 S0 S' → mm_Q M M' w (qf l m l.length) → post S') : ∀ (k i : Nat) (S : qs_S) (b : Nat → Int32), i + k = l.length → tx_M S y H (mm_R M (ma M 29) b) → tx_J t0 S0 S → (∀ j, ¬ (80 * w ≤ j ∧ j < 80 * w + 80) → b j = ma M 30 j) → (∀ j, j < (qf l m i).length → b (80 * w + j) = nI ((qf l m i).getD j 0)) → (∀ j, i ≤ j → j < l.length → b (80 * w + j) = nI (l.getD j 0)) → wp_X7_quits_b5 t0 m9 post (k + 1) S y (nI w) (nI m) (nI (qf l m i).length) (nI i) := by
  intro k
  induction k with
  | zero =>
    intro i S b hi h hk hb1 hb2 hb3
    have hi' : i = l.length := hi
    subst hi'
    refine ⟨h.y7, h.rA (k := 29) (i := w) rfl ?_ hw⟩
    rw [show ma (mm_R M (ma M 29) b) 29 w = nI l.length from e29]
    refine ⟨fun _ => ⟨_, h.ar 29, h.hk 29, h.vp (k := 29) rfl hw, ?_⟩, fun z => absurd (nI_le (Nat.le_refl _) (by omega)) z⟩
    obtain ⟨r2, k2⟩ := h.wA (k := 29) (x := nI w) (i := w) (v := nI (qf l m l.length).length) t0 rfl hw
    rw [mm_R_A29] at r2
    exact hp _ _ r2 (hk.tr k2) ⟨_, _, rfl, fun i hi => if_neg hi, hb1, if_pos rfl, hb2⟩
  | succ k ih =>
    intro i S b hi h hk hb1 hb2 hb3
    have hlt : i < l.length := by omega
    have hq := qf_le (l := l) (m := m) (i := i)
    refine ⟨h.y7, h.rA (k := 29) (i := w) rfl ?_ hw⟩
    rw [show ma (mm_R M (ma M 29) b) 29 w = nI l.length from e29]
    refine ⟨fun z => absurd z (nI_ge hlt (by omega)), fun _ => ⟨_, h.ar 30, fun v16 e16 v17 e17 => ?_⟩⟩
    have ev : v17 = nI (80 * w + i) := by
      rw [e17, e16, ← nI_add]
      congr 1
      exact pk_mul 80 w
    refine h.rB (k := 30) (i := 80 * w + i) ev ⟨_, h.ar 30, fun v23 e23 v24 e24 => ?_⟩ (by show 80 * w + i < 640; omega)
    have eb : ma (mm_R M (ma M 29) b) 30 (80 * w + i) = nI (l.getD i 0) := hb3 i (Nat.le_refl _) hlt
    rw [eb]
    have ev2 : v24 = nI (80 * w + (qf l m i).length) := by
      rw [e24, e23, ← nI_add]
      congr 1
      exact pk_mul 80 w
    have hlt2 : 80 * w + (qf l m i).length < mn 30 := by
      show 80 * w + (qf l m i).length < 640
      omega
    obtain ⟨r, kk⟩ := h.wA (k := 30) (i := 80 * w + (qf l m i).length) (v := nI (l.getD i 0)) t0 ev2 hlt2
    rw [mm_R_A30] at r
    refine ⟨h.hk 30, h.vp (k := 30) ev2 hlt2, ?_⟩
    have hx80 : l.getD i 0 < 80 := hl80 _ (ps_getD_mem hlt)
    have nb1 : ∀ j, ¬ (80 * w ≤ j ∧ j < 80 * w + 80) → (if j = 80 * w + (qf l m i).length then nI (l.getD i 0) else b j) = ma M 30 j := fun j hj => by
      rw [if_neg (by omega)]
      exact hb1 j hj
    have nb3 : ∀ j, i + 1 ≤ j → j < l.length → (if 80 * w + j = 80 * w + (qf l m i).length then nI (l.getD i 0) else b (80 * w + j)) = nI (l.getD j 0) := fun j h1 h2 => by
      rw [if_neg (by omega)]
      exact hb3 j (by omega) h2
    refine ⟨fun z v1 e1 v2 e2 => ?_, fun z v1 e1 v2 e2 => ?_⟩
    · have ne : l.getD i 0 ≠ m := fun q => z (by rw [q])
      have es : qf l m (i + 1) = qf l m i ++ [l.getD i 0] := by rw [qf_s hlt, if_neg ne]
      have el : (qf l m (i + 1)).length = (qf l m i).length + 1 := by rw [es, List.length_append]; rfl
      rw [e1, e2, nI_1, nI_1, ← el]
      refine ih (i + 1) _ _ (by omega) r (hk.tr kk) nb1 (fun j hj => ?_) nb3
      rw [el] at hj
      show (if 80 * w + j = 80 * w + (qf l m i).length then nI (l.getD i 0) else b (80 * w + j)) = _
      rw [es]
      by_cases zj : j = (qf l m i).length
      · rw [if_pos (by rw [zj]), zj, ps_getD_last]
      · rw [if_neg (by omega), ps_getD_app (by omega)]
        exact hb2 j (by omega)
    · have e : l.getD i 0 = m := (nI_eq (by omega) (by omega)).mp z
      have es : qf l m (i + 1) = qf l m i := by rw [qf_s hlt, if_pos e]
      rw [e1, e2, nI_1, Int32.add_zero]
      have := ih (i + 1) _ _ (by omega) r (hk.tr kk) nb1 (fun j hj => by
        rw [es] at hj ⊢
        show (if 80 * w + j = 80 * w + (qf l m i).length then nI (l.getD i 0) else b (80 * w + j)) = _
        rw [if_neg (by omega)]
        exact hb2 j hj) nb3
      rw [es] at this
      exact this
theorem cy_quits {post : qs_S → Prop} (h : tx_M S y H M) {w m : Nat} {l : List Nat} (hw : w < 8) (hl : ma M 29 w = nI l.length ∧ ∀ k, k < l.length → ma M 30 (80 * w + k) = nI (l.getD k 0)) (hd : l.Nodup) (hm : m < 80) (hl80 : ∀ x, x ∈ l → x < 80) (hp : ∀ S' M', tx_M S' y H M' → tx_J t0 S S' → mm_Q M M' w (l.erase m) → post S') : wp_X7_quits t0 m9 post S y (nI w) (nI m) := by
  have h80 := ps_nodup_le 80 l hd hl80
  have ef : qf l m l.length = l.erase m := by
    unfold qf
    rw [List.take_length, hd.erase_eq_filter]
  refine ⟨l.length + 1, cy_quitsL hw h80 hm hl80 hl.1 S (fun S' M' r k q => hp S' M' r k (ef ▸ q)) _ 0 S (ma M 30) (Nat.zero_add _) ?_ tx_J.rf (fun _ _ => rfl) (fun j hj => absurd hj (Nat.not_lt_zero _)) (fun j _ hj => hl.2 j hj)⟩
  rw [mm_R_self]
  exact h
end TYD
