/-! ===== the calls that change things, behind those ===== -/
section TXB
variable {t0 m9 mc ms c : Nat} {S : qs_S} {G : Nat → Nat → Nat} {T : tt_T} {post : Int32 → qs_S → Prop} {px : String → qs_S → Prop}
theorem tx_R.sh (h : tx_R t0 S G T) {i s : Nat} (hi : tt_v T 1 i) (hs : tr T 1 0 i = s + 1) : qs_R S 0 (G 1 i) = some (G 0 s) := by
  have z := h.R (k := 0) hi (by decide) rfl
  have e : tt_e G T 1 0 i = tt_o (G 0) (tr T 1 0 i) := rfl
  rw [e, hs] at z
  exact z
theorem cx_leaveL (h : tx_R t0 S G T) (I : iv T c) {s : Nat} (hs : s < (tl T 0).length) {a b : Nat} (ha : a + 1 ≤ mc) (hb : b + 6 ≤ ms) (h0 : tt_isOn T s = false → ∀ S', tx_R t0 S' G (tt_I T 0 2 s 1) → tx_K t0 S S' → post (nI (tt_ct (tt_on T s) (tl T 1).length)) S') (h3 : tt_isOn T s = true → px "java/lang/IllegalStateException" S) : ∀ (k i : Nat), i + k = (tl T 1).length → (∀ i', i' < i → ¬ (tr T 1 0 i' = s + 1 ∧ ti T 1 2 i' = 0)) → wp_X6_leave_b11 t0 m9 mc ms post px (k + 1) a b S (G 6 0) (G 0 s) (nI (tt_ct (tt_on T s) i)) (nI i) := by
  have hl := h.len (j := 1) (by decide)
  intro k
  induction k with
  | zero =>
    intro i hi hno
    have hi' : i = (tl T 1).length := hi
    subst hi'
    refine ⟨h.xL, G 4 1, h.xR (by decide), h.lL (by decide), h.size (by decide) ⟨fun _ => ⟨h.A (tt_v0 hs), ?_⟩, fun c => absurd (nI_le (by omega) (by omega)) c⟩⟩
    obtain ⟨r1, k1⟩ := h.wI (f := 0) (i := s) (k := 2) (v := 1) (tt_v0 hs) rfl (by decide)
    refine h0 ?_ _ r1 k1
    cases hc : tt_isOn T s with
    | false => rfl
    | true =>
      obtain ⟨i, hi, hi2⟩ := tt_isOn_iff.mp hc
      exact absurd hi2 (hno i hi)
  | succ k ih =>
    intro i hi hno
    have hlt : i < (tl T 1).length := by omega
    refine ⟨h.xL, G 4 1, h.xR (by decide), h.lL (by decide), h.size (by decide) ⟨fun c => absurd c (nI_ge hlt (by omega)), fun _ => ⟨h.xL, G 4 1, h.xR (by decide), h.lL (by decide), h.get (by decide) hlt ?_⟩⟩⟩
    rw [ps_range (I.g.1 1 (by decide)) hlt]
    have vi := tt_v1 hlt
    obtain ⟨s', hs', es'⟩ := I.h.2.2.2 i hlt
    have nx : ∀ n : Nat, tt_ct (tt_on T s) (i + 1) = n → ¬ (tr T 1 0 i = s + 1 ∧ ti T 1 2 i = 0) → ∀ v : Int32, v = nI i + 1 → wp_X6_leave_b11 t0 m9 mc ms post px (k + 1) a b S (G 6 0) (G 0 s) (nI n) v := by
      intro n en hn v e
      rw [e, nI_1, ← en]
      refine ih (i + 1) (by omega) (fun i' hi' => ?_)
      by_cases z : i' = i
      · rw [z]; exact hn
      · exact hno i' (by omega)
    refine ⟨_, rfl, h.A vi, _, h.sh vi es', fun z => ?_, fun z => h.rI vi ⟨fun y v30 e30 => ?_, fun y => ⟨⟨ha, hb⟩, h3 (tt_isOn_iff.mpr ⟨i, hlt, ?_, y⟩)⟩⟩⟩
    · have ne : ¬ tr T 1 0 i = s + 1 := by
        intro e
        refine z ?_
        rw [es'] at e
        rw [Nat.succ.inj e]
      refine nx _ ?_ (fun q => ne q.1)
      show _ + (if tt_on T s i = true then 1 else 0) = tt_ct (tt_on T s) i
      rw [if_neg (by rw [show tt_on T s i = false from decide_eq_false ne]; decide)]
      rfl
    · rw [e30, nI_1]
      have e1 : tr T 1 0 i = s + 1 := by rw [es', (h.2.1 0 s' 0 s (tt_v0 hs') (tt_v0 hs) z).2]
      refine nx (tt_ct (tt_on T s) i + 1) ?_ (fun q => y q.2)
      show _ + (if tt_on T s i = true then 1 else 0) = tt_ct (tt_on T s) i + 1
      rw [if_pos (show tt_on T s i = true from decide_eq_true e1)]
    · rw [es', (h.2.1 0 s' 0 s (tt_v0 hs') (tt_v0 hs) z).2]
theorem cq_leave (h : tx_R t0 S G T) (I : iv T c) (hmc : 100 ≤ mc) (hms : 10500 ≤ ms) {x : Int32} (hp : tx_H post px t0 S (G 6 0) (tq_leave T x)) : wp_X6_leave t0 m9 mc ms post px S (G 6 0) x := by
  have hl := h.len (j := 0) (by decide)
  unfold tq_leave at hp
  refine ⟨h.xL, 2, 12, ⟨by omega, by omega⟩, cx_shipNumbered h I.g (Nat.le_refl _) (Nat.le_refl _) (fun s hs e z => ⟨_, rfl, (tl T 1).length + 1, ?_⟩) (fun z => ?_)⟩
  · rw [e, tt_ix_in hs (by omega)] at hp
    simp only at hp
    rw [if_neg (fun y => y z)] at hp
    refine cx_leaveL h I hs (by omega) (by omega) (fun y S' r k => ?_) (fun y => ?_) _ 0 (Nat.zero_add _) (fun _ z => absurd z (Nat.not_lt_zero _))
    · rw [if_neg (by rw [y]; decide)] at hp
      exact hp.ok r rfl k
    · rw [if_pos y] at hp
      exact hp.e3
  · cases hx : tt_ix x (tl T 0).length with
    | zero =>
      simp only [hx] at hp
      exact hp.e1
    | succ s =>
      simp only [hx] at hp
      obtain ⟨hs, e⟩ := tt_ix_eq (by omega) hx
      rw [if_pos (z s hs e)] at hp
      exact hp.e1
theorem cx_giveL {cr o : Nat} (hc : cr < 4) (ho : o < 4) (hne : cr ≠ o) {S0 : qs_S} {xs : List Nat} (T0 : tt_T) (hxs : tl T0 (6 + cr) = xs) (hlen : (tl T0 (6 + o)).length + xs.length ≤ 80) (hv : ∀ m, m ∈ xs → tt_v T0 2 m) {a b : Nat} (ha : a + 80 ≤ mc) (hb : b + 10400 ≤ ms) (hp : ∀ S', tx_R t0 S' G (tt_L (tt_L T0 (6 + o) (tl T0 (6 + o) ++ xs)) (6 + cr) []) → tx_K t0 S0 S' → post (nI xs.length) S') : ∀ (k i : Nat) (S : qs_S), i + k = xs.length → tx_R t0 S G (tt_L T0 (6 + o) (tl T0 (6 + o) ++ xs.take i)) → tx_K t0 S0 S → wp_X6_giveAway_b48 t0 m9 mc ms post px (k + 1) (a + i) (b + 130 * i) S (G 3 cr) (G 3 o) (nI xs.length) (nI i) := by
  have el : ∀ l : List Nat, tl (tt_L T0 (6 + o) l) (6 + cr) = xs := fun l => (tt_lL (by omega)).trans hxs
  intro k
  induction k with
  | zero =>
    intro i S hi h hk
    have hi' : i = xs.length := hi
    subst hi'
    rw [List.take_length] at h
    refine ⟨fun _ => ⟨h.AC hc, _, h.wt (w := cr) (by omega), h.lL (by omega), h.clear (by omega) (by omega) (fun S' r k' => hp S' r (hk.tr k'))⟩, fun z => absurd (nI_le (Nat.le_refl _) (by omega)) z⟩
  | succ k ih =>
    intro i S hi h hk
    have hlt : i < xs.length := by omega
    refine ⟨fun z => absurd z (nI_ge hlt (by omega)), fun _ => ⟨h.AC ho, _, h.wt (w := o) (by omega), h.AC hc, _, h.wt (w := cr) (by omega), h.lL (by omega), ?_⟩⟩
    have hg := h.get (m9 := m9) (j := 6 + cr) (i := i) (by omega) (by rw [el]; exact hlt) (post := fun (o22 : Option Nat) (S21 : qs_S) => ∃ q23 : Nat, o22 = some q23 ∧ ((q23 ∈ qs_L S21 ∧ qs_K S21 q23 = 3) ∧ ((G 4 (6 + o) ∈ qs_L S21 ∧ qs_K S21 (G 4 (6 + o)) = 0) ∧ (∃ mck26 msk26 : Nat, (a + i + mck26 ≤ mc ∧ b + 130 * i + msk26 ≤ ms) ∧ (wp_Jx4a65c_add_9ea2d t0 m9 mck26 msk26 (fun (v31 : Int32) (S30 : qs_S) => ∀ v32 : Int32, v32 = nI i + 1 → wp_X6_giveAway_b48 t0 m9 mc ms post px (k + 1) (a + i + mck26) (b + 130 * i + msk26) S30 (G 3 cr) (G 3 o) (nI xs.length) v32) S21 (G 4 (6 + o)) q23)))))
    refine hg ?_
    have hm0 : xs.getD i 0 ∈ xs := ps_getD_mem hlt
    have hm : tt_v (tt_L T0 (6 + o) (tl T0 (6 + o) ++ xs.take i)) 2 (xs.getD i 0) := (tt_vL (by omega)).mpr (hv _ hm0)
    rw [el, tt_lcw]
    have e2 : tl (tt_L T0 (6 + o) (tl T0 (6 + o) ++ xs.take i)) (6 + o) = tl T0 (6 + o) ++ xs.take i := tt_lS
    have elen : (tl T0 (6 + o) ++ xs.take i).length = (tl T0 (6 + o)).length + i := by rw [List.length_append, List.length_take, Nat.min_eq_left (by omega)]
    refine ⟨_, rfl, h.A hm, h.lL (by omega), 1, 130, ⟨by omega, by omega⟩, cx_addW h (w := o) (by omega) hm (by rw [e2, elen]; omega) (Nat.le_refl _) (by rw [e2, elen]; omega) (fun S' r k' v32 e32 => ?_)⟩
    rw [e32, nI_1]
    have er : tt_L (tt_L T0 (6 + o) (tl T0 (6 + o) ++ xs.take i)) (6 + o) (tl (tt_L T0 (6 + o) (tl T0 (6 + o) ++ xs.take i)) (6 + o) ++ [xs.getD i 0]) = tt_L T0 (6 + o) (tl T0 (6 + o) ++ xs.take (i + 1)) := by
      rw [e2]
      have et : xs.take (i + 1) = xs.take i ++ [xs.getD i 0] := by
        rw [List.take_succ, List.getD_eq_getElem?_getD, List.getElem?_eq_getElem hlt]
        rfl
      rw [et, ← List.append_assoc]
      refine Prod.ext rfl (Prod.ext rfl ?_)
      funext j'
      show (if j' = 6 + o then _ else if j' = 6 + o then _ else tl T0 j') = if j' = 6 + o then _ else tl T0 j'
      by_cases z : j' = 6 + o
      · rw [if_pos z, if_pos z]
      · rw [if_neg z, if_neg z, if_neg z]
    rw [er] at r
    have := ih (i + 1) S' (by omega) r (hk.tr k')
    rw [Nat.mul_succ] at this
    exact this
theorem cq_giveAway (h : tx_R t0 S G T) (I : iv T c) (hmc : 100 ≤ mc) (hms : 10500 ≤ ms) {x y : Int32} (hp : tx_H post px t0 S (G 6 0) (tq_giveAway T x y)) : wp_X6_giveAway t0 m9 mc ms post px S (G 6 0) x y := by
  unfold tq_giveAway at hp
  refine ⟨h.xL, 1, 6, ⟨by omega, by omega⟩, cx_craneNumbered h I.g (Nat.le_refl _) (Nat.le_refl _) (fun cr hc e => ⟨_, rfl, h.xL, 1, 6, ⟨by omega, by omega⟩, ?_⟩) (fun z => ?_)⟩
  · rw [e, tt_ix_in hc (by decide)] at hp
    refine cx_craneNumbered h I.g (Nat.le_refl _) (Nat.le_refl _) (fun o ho eo => ⟨_, rfl, h.AC hc, h.rI (tt_v3 (by omega)) ⟨fun z => ⟨⟨by omega, by omega⟩, ?_⟩, fun z => ⟨fun q => ?_, fun q => ⟨⟨by omega, by omega⟩, ?_⟩⟩⟩⟩) (fun z => ?_)
    · simp only [eo, tt_ix_in ho (by decide)] at hp
      rw [if_pos (Or.inl z)] at hp
      exact hp.e3
    · have hne : cr ≠ o := fun z => q (by rw [z])
      simp only [eo, tt_ix_in ho (by decide)] at hp
      rw [if_neg (fun r => r.elim z hne)] at hp
      refine ⟨_, h.wt (w := cr) (by omega), h.lL (by omega), h.size (by omega) ⟨(tl T (6 + cr)).length + 1, ?_⟩⟩
      have h0 : tx_R t0 S G (tt_L T (6 + o) (tl T (6 + o) ++ (tl T (6 + cr)).take 0)) := by
        rw [List.take_zero, List.append_nil, tt_L_self]
        exact h
      have := I.len2 (w := o) (w' := cr) (by omega) (by omega) (fun z => hne z.symm)
      exact cx_giveL hc ho hne T rfl this (fun m hm => tt_v2 ((I.l (6 + cr) (Or.inr (by omega)) (by omega)).2 m hm)) (by omega) (by omega) (fun S' r k => hp.ok r rfl k) _ 0 S (Nat.zero_add _) h0 tx_K.rf
    · have he : cr = o := (h.2.1 3 cr 3 o (tt_v3 (by omega)) (tt_v3 (by omega)) q).2
      simp only [eo, tt_ix_in ho (by decide)] at hp
      rw [if_pos (Or.inr he)] at hp
      exact hp.e3
    · simp only [tt_ix_out (n := 4) (by decide) z] at hp
      exact hp.e1
  · rw [tt_ix_out (by decide) z] at hp
    exact hp.e1
theorem tt_ak_3 {T : tt_T} {w m : Nat} : (tt_ak T w m).1 = 4 ∨ (tt_ak T w m).1 = 5 := by
  unfold tt_ak
  split
  · exact Or.inr rfl
  · split
    · exact Or.inl rfl
    · exact Or.inl rfl
theorem tt_ak_v {T : tt_T} {w m : Nat} {f i : Nat} : tt_v (tt_ak T w m).2 f i ↔ tt_v T f i := by
  unfold tt_ak
  split
  · exact Iff.rfl
  · split
    · exact (tt_vL (by omega)).trans (tt_vL (T := T) (by omega))
    · exact tt_vL (T := T) (by omega)
theorem tt_li_v {T : tt_T} {w m b : Nat} {f i : Nat} : tt_v (tt_li T w m b).2 f i ↔ tt_v T f i := by
  unfold tt_li
  split
  · split
    · exact tt_ak_v.trans (tt_vL (T := tt_nm (tt_I (tt_br (tt_I T 3 7 w (ti T 1 1 b)) b 1 (ti T 1 1 b)) 1 5 b (nI w)) m) (by omega))
    · exact Iff.rfl
  · exact tt_ak_v
theorem tt_ho_v {T : tt_T} {w m b : Nat} {f i : Nat} : tt_v (tt_ho T w m b).2 f i ↔ tt_v T f i := by
  unfold tt_ho
  split
  · exact Iff.rfl
  · split
    · split
      · exact tt_ak_v
      · split
        · exact tt_li_v
        · exact Iff.rfl
    · exact Iff.rfl
/-- if a message isn't acknowledged the queues stay -/
theorem tt_ak_q {T : tt_T} {w m : Nat} (h : (tt_ak T w m).1 ≠ 4) (j : Nat) : tl (tt_ak T w m).2 j = tl T j := by
  unfold tt_ak at h ⊢
  split
  · rfl
  · rename_i c
    rw [if_neg c] at h
    split at h
    · exact absurd rfl h
    · exact absurd rfl h
theorem tt_li_q {T : tt_T} {w m b : Nat} (h : (tt_li T w m b).1 ≠ 4) {j : Nat} (hj : j ≠ 14 + w) : tl (tt_li T w m b).2 j = tl T j := by
  unfold tt_li at h ⊢
  split
  · rename_i c
    rw [if_pos c] at h
    split
    · rename_i d
      rw [if_pos d] at h
      exact (tt_ak_q h j).trans (tt_lL hj)
    · rfl
  · rename_i c
    rw [if_neg c] at h
    exact tt_ak_q h j
theorem tt_ho_q {T : tt_T} {w m b : Nat} (h : (tt_ho T w m b).1 ≠ 4) {j : Nat} (hj : j ≠ 14 + w) : tl (tt_ho T w m b).2 j = tl T j := by
  unfold tt_ho at h ⊢
  split
  · rfl
  · rename_i c
    rw [if_neg c] at h
    split
    · rename_i d
      rw [if_pos d] at h
      split
      · rename_i e
        rw [if_pos e] at h
        exact tt_ak_q h j
      · rename_i e
        rw [if_neg e] at h
        split
        · rename_i f
          rw [if_pos f] at h
          exact tt_li_q h hj
        · rfl
    · rfl
theorem cq_deliver (h : tx_R t0 S G T) (I : iv T c) (hmc : 100 ≤ mc) (hms : 10500 ≤ ms) {x : Int32} (hp : tx_H post px t0 S (G 6 0) (tq_deliver T x)) : wp_X6_deliver t0 m9 mc ms post px S (G 6 0) x := by
  unfold tq_deliver at hp
  refine ⟨h.xL, 1, 6, ⟨by omega, by omega⟩, cx_workerNumbered h I.g (Nat.le_refl _) (Nat.le_refl _) (fun w hw e => ⟨_, rfl, h.AW hw, _, h.wt hw, h.lL (by omega), h.isEmpty (by omega) (fun z => ⟨fun y => absurd y (by decide), fun _ => ?_⟩) (fun z => ⟨fun _ => ⟨h.AW hw, _, h.wt hw, h.lL (by omega), ?_⟩, fun y => absurd rfl y⟩)⟩) (fun z => ?_)⟩
  · rw [e, tt_ix_in hw (by decide)] at hp
    simp only [z] at hp
    exact hp.ok h rfl tx_K.rf
  · rw [e, tt_ix_in hw (by decide)] at hp
    cases hq : tl T (6 + w) with
    | nil => exact absurd hq z
    | cons m l =>
      simp only [hq] at hp
      have hlt : 0 < (tl T (6 + w)).length := by rw [hq]; exact Nat.zero_lt_succ _
      have em : (tl T (6 + w)).getD 0 0 = m := by rw [hq]; rfl
      have hm := (I.l (6 + w) (Or.inr (by omega)) (by omega)).2 m (by rw [hq]; exact List.mem_cons_self ..)
      have vm : tt_v T 2 m := tt_v2 hm
      refine h.get (by omega) hlt ?_
      rw [em, tt_lcw]
      refine ⟨_, rfl, h.A vm, h.rI vm (fun v31 e31 => ?_)⟩
      obtain ⟨r1, k1⟩ := h.wI (f := 2) (i := m) (k := 4) (v := v31) vm rfl (by decide)
      rw [e31] at r1 k1 ⊢
      obtain ⟨b, hb, eb⟩ := I.h.2.2.1 m hm
      have ebx : tt_bx (tt_I T 2 4 m (ti T 2 4 m + 1)) m = b := by
        show tr T 2 2 m - 1 = b
        omega
      unfold tt_dl at hp
      rw [ebx] at hp
      refine ⟨r1.xL, 5, 1238, ⟨by omega, by omega⟩, cx_handOver (T := tt_I T 2 4 m (ti T 2 4 m + 1)) r1 I.g I.h hw vm eb (tt_v1 hb) (Nat.le_trans (I.len (j := 3) (Or.inl rfl) (by omega)) (by decide)) (Nat.le_trans (I.len (j := 14 + w) (Or.inr (by omega)) (by omega)) (by decide)) (Nat.le_refl _) (Nat.le_refl _) (fun S2 r2 k2 => ⟨fun y => ?_, fun y => ⟨r2.AW hw, 1, 610, ⟨by omega, by omega⟩, cx_putLast r2 hw (tt_ho_v.mpr vm) ?_ (Nat.le_refl _) (Nat.le_refl _) (fun S3 r3 k3 => ?_)⟩⟩)⟩
      · rw [if_pos y] at hp
        exact hp.ok r2 rfl (k1.tr k2)
      · rw [tt_ho_q y (by omega)]
        exact Nat.le_trans (I.len (j := 6 + w) (Or.inr (by omega)) (by omega)) (by decide)
      · rw [if_neg y] at hp
        exact hp.ok r3 rfl ((k1.tr k2).tr k3)
  · rw [tt_ix_out (by decide) z] at hp
    exact hp.e1
theorem cq_act (h : tx_R t0 S G T) (I : iv T c) (hmc : 100 ≤ mc) (hms : 10500 ≤ ms) {x : Int32} (hp : tx_H post px t0 S (G 6 0) (tq_act T x)) : wp_X6_act t0 m9 mc ms post px S (G 6 0) x := by
  unfold tq_act at hp
  refine ⟨h.xL, 1, 6, ⟨by omega, by omega⟩, cx_truckNumbered h I.g (Nat.le_refl _) (Nat.le_refl _) (fun w h4 hw e => ⟨_, rfl, h.AT h4 hw, ?_⟩) (fun z => ?_)⟩
  · rw [e, tt_tx_in h4 hw] at hp
    rw [h.sn h4 hw]
    cases hq : tr T 3 7 w with
    | zero =>
      simp only [hq] at hp
      exact ⟨fun _ => hp.ok h rfl tx_K.rf, fun q e => absurd e (by intro z; cases z)⟩
    | succ m =>
      simp only [hq] at hp
      have hm := ((I.r w hw m).2 h4 hq).1
      have vm : tt_v T 2 m := tt_v2 hm
      refine ⟨fun e => absurd e (by intro z; cases z), fun q e' => ?_⟩
      have eq : G 2 m = q := Option.some.inj e'
      subst eq
      obtain ⟨b, hb, eb⟩ := I.h.2.2.1 m hm
      have ebx : tt_bx T m = b := by
        show tr T 2 2 m - 1 = b
        omega
      have vb := tt_v1 hb
      unfold tt_ac at hp
      rw [ebx] at hp
      have l3 : (tl T 3).length ≤ 400 := Nat.le_trans (I.len (j := 3) (Or.inl rfl) (by omega)) (by decide)
      have l14 : (tl T (14 + w)).length ≤ 400 := Nat.le_trans (I.len (j := 14 + w) (Or.inr (by omega)) (by omega)) (by decide)
      refine cx_isNothingToDo h vm eb vb (fun z => ⟨fun y => absurd y (by decide), fun _ => ⟨h.xL, 2, 1220, ⟨by omega, by omega⟩, ?_⟩⟩) (fun z => ⟨fun _ => ⟨h.A vm, _, h.bx vm eb, h.A vb, ?_⟩, fun y => absurd rfl y⟩)
      · rw [if_pos z] at hp
        exact cx_finish h h4 hw vm l3 l14 (Nat.le_refl _) (Nat.le_refl _) (fun S' r k => hp.ok r rfl k)
      · rw [if_neg z] at hp
        rw [e]
        refine cx_isAt h vb (fun y => ⟨fun q => absurd q (by decide), fun _ => ⟨h.xL, ?_⟩⟩) (fun y => ⟨fun _ => ⟨h.A vm, _, h.bx vm eb, h.xL, ?_⟩, fun q => absurd rfl q⟩)
        · rw [if_pos y] at hp
          refine cx_canPutDown h I.g vm eb vb (fun q => ⟨fun _ => ⟨h.xL, cx_putDown h I.g vm eb vb (fun S1 r1 k1 => ⟨r1.xL, 2, 1220, ⟨by omega, by omega⟩, ?_⟩)⟩, fun q => absurd q (by decide)⟩) (fun q => ⟨fun r => absurd rfl r, fun _ => ?_⟩)
          · rw [if_pos q] at hp
            have vv : ∀ f i, tt_v (tt_pd T m b) f i ↔ tt_v T f i := by
              intro f i
              unfold tt_pd
              split
              · exact Iff.rfl
              · exact Iff.rfl
            have ll : ∀ j, tl (tt_pd T m b) j = tl T j := by
              intro j
              unfold tt_pd
              split
              · rfl
              · rfl
            exact cx_finish r1 h4 hw ((vv 2 m).mpr vm) (by rw [ll]; exact l3) (by rw [ll]; exact l14) (Nat.le_refl _) (Nat.le_refl _) (fun S' r k => hp.ok r rfl (k1.tr k))
          · rw [if_neg q] at hp
            exact hp.ok h rfl tx_K.rf
        · rw [if_neg y] at hp
          refine cx_canTake h I.g vb (fun q => ⟨fun _ => ⟨h.A vm, _, h.bx vm eb, h.A vb, cx_bring h vb (fun S1 r1 k1 => ?_)⟩, fun r => absurd r (by decide)⟩) (fun q => ⟨fun r => absurd rfl r, fun _ => ?_⟩)
          · rw [if_pos q] at hp
            exact hp.ok r1 rfl k1
          · rw [if_neg q] at hp
            exact hp.ok h rfl tx_K.rf
  · rw [tt_tx_out z] at hp
    exact hp.e1
end TXB
