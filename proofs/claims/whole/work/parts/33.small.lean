/-! ===== the private methods, by numbers ===== -/
section TXM
variable {t0 m9 mc ms : Nat} {S : qs_S} {G : Nat → Nat → Nat} {T : tt_T}
theorem cx_req {x n : Int32} {post : qs_S → Prop} {px : String → qs_S → Prop} (hmc : 1 ≤ mc) (hms : 6 ≤ ms) (h1 : ¬ x < 0 → x < n → post S) (h0 : (x < 0 ∨ ¬ x < n) → px "java/lang/IndexOutOfBoundsException" S) : wp_X6_requireOneOf t0 m9 mc ms post px S x n :=
  ⟨fun c => ⟨⟨by omega, by omega⟩, h0 (Or.inl c)⟩, fun c => ⟨fun d => h1 c d, fun d => ⟨⟨by omega, by omega⟩, h0 (Or.inr d)⟩⟩⟩
theorem ps_out {v : Int32} {n : Nat} (hn : n < 2 ^ 31) (h : v < 0 ∨ ¬ v < nI n) : ∀ i, i < n → v ≠ nI i := by
  intro i hi e
  rw [e] at h
  rcases h with h | h
  · exact nI_pos (by omega) h
  · exact h (nI_lt hi hn)
theorem cx_elementOf (h : tx_R t0 S G T) {j : Nat} (hj : j < 22) {v : Int32} {post : Option Nat → qs_S → Prop} {px : String → qs_S → Prop} (hlc : tt_lc j = 2) (hmc : 1 ≤ mc) (hms : 6 ≤ ms) (h1 : ∀ i, i < (tl T j).length → v = nI i → post (some (G 2 ((tl T j).getD i 0))) S) (h0 : (∀ i, i < (tl T j).length → v ≠ nI i) → px "java/lang/IndexOutOfBoundsException" S) : wp_X6_elementOf t0 m9 mc ms post px S (G 4 j) v := by
  have hb := h.len hj
  refine ⟨h.lL hj, h.size hj ⟨1, 6, ⟨by omega, by omega⟩, cx_req (Nat.le_refl _) (Nat.le_refl _) (fun c d => ?_) (fun c => h0 (ps_out (by omega) c))⟩⟩
  obtain ⟨i, hi, e⟩ := ps_sm (by omega) c d
  refine ⟨h.lL hj, ?_⟩
  rw [e]
  refine h.get hj hi ⟨_, rfl, ?_, ?_⟩
  · rw [hlc]
    have hv := h.2.2.2.2 j _ hj (ps_getD_mem hi)
    rw [hlc] at hv
    exact ⟨h.L hv, h.K hv⟩
  · rw [hlc]
    exact h1 i hi e
theorem cx_boxNumbered (h : tx_R t0 S G T) (hg : tt_g T) {v : Int32} {post : Option Nat → qs_S → Prop} {px : String → qs_S → Prop} (hmc : 1 ≤ mc) (hms : 6 ≤ ms) (h1 : ∀ i, i < (tl T 1).length → v = nI i → post (some (G 1 i)) S) (h0 : (∀ i, i < (tl T 1).length → v ≠ nI i) → px "java/lang/IndexOutOfBoundsException" S) : wp_X6_boxNumbered t0 m9 mc ms post px S (G 6 0) v := by
  have hb := h.len (j := 1) (by decide)
  refine ⟨h.xL, G 4 1, h.xR (by decide), h.lL (by decide), h.size (by decide) ⟨1, 6, ⟨by omega, by omega⟩, cx_req (Nat.le_refl _) (Nat.le_refl _) (fun c d => ⟨h.xL, G 4 1, h.xR (by decide), h.lL (by decide), ?_⟩) (fun c => h0 (ps_out (by omega) c))⟩⟩
  obtain ⟨i, hi, e⟩ := ps_sm (by omega) c d
  rw [e]
  refine h.get (by decide) hi ?_
  rw [ps_range (hg.1 1 (by decide)) hi]
  exact ⟨_, rfl, ⟨h.L (tt_v1 hi), h.K (tt_v1 hi)⟩, h1 i hi e⟩
theorem cx_shipNumbered (h : tx_R t0 S G T) (hg : tt_g T) {v : Int32} {post : Option Nat → qs_S → Prop} {px : String → qs_S → Prop} (hmc : 2 ≤ mc) (hms : 12 ≤ ms) (h1 : ∀ i, i < (tl T 0).length → v = nI i → ti T 0 2 i = 0 → post (some (G 0 i)) S) (h0 : (∀ i, i < (tl T 0).length → v = nI i → ti T 0 2 i ≠ 0) → px "java/lang/IndexOutOfBoundsException" S) : wp_X6_shipNumbered t0 m9 mc ms post px S (G 6 0) v := by
  have hb := h.len (j := 0) (by decide)
  refine ⟨h.xL, G 4 0, h.xR (by decide), h.lL (by decide), h.size (by decide) ⟨1, 6, ⟨by omega, by omega⟩, cx_req (Nat.le_refl _) (Nat.le_refl _) (fun c d => ⟨h.xL, G 4 0, h.xR (by decide), h.lL (by decide), ?_⟩) (fun c => h0 (fun i hi e => absurd e (ps_out (by omega) c i hi)))⟩⟩
  obtain ⟨i, hi, e⟩ := ps_sm (by omega) c d
  rw [e]
  refine h.get (by decide) hi ?_
  rw [ps_range (hg.1 0 (by decide)) hi]
  refine ⟨_, rfl, ⟨h.L (tt_v0 hi), h.K (tt_v0 hi)⟩, fun v25 e25 => ?_⟩
  have e2 : v25 = ti T 0 2 i := e25.trans (h.I (tt_v0 hi) (by decide) rfl)
  rw [e2]
  refine ⟨fun z => h1 i hi e z, fun z => ⟨⟨by omega, by omega⟩, h0 (fun i' hi' e' => ?_)⟩⟩
  have : i = i' := (nI_eq (by omega) (by omega)).mp (e.symm.trans e')
  rw [← this]
  exact z
theorem cx_craneNumbered (h : tx_R t0 S G T) (hg : tt_g T) {v : Int32} {post : Option Nat → qs_S → Prop} {px : String → qs_S → Prop} (hmc : 1 ≤ mc) (hms : 6 ≤ ms) (h1 : ∀ w, w < 4 → v = nI w → post (some (G 3 w)) S) (h0 : (∀ w, w < 4 → v ≠ nI w) → px "java/lang/IndexOutOfBoundsException" S) : wp_X6_craneNumbered t0 m9 mc ms post px S (G 6 0) v := by
  have hl : (tl T 4).length = 4 := by rw [hg.2.1]; rfl
  refine ⟨h.xL, G 4 4, h.xR (by decide), h.lL (by decide), h.size (by decide) ⟨1, 6, ⟨by omega, by omega⟩, cx_req (Nat.le_refl _) (Nat.le_refl _) (fun c d => ⟨h.xL, G 4 4, h.xR (by decide), h.lL (by decide), ?_⟩) (fun c => h0 (by rw [hl] at c; exact ps_out (by decide) c))⟩⟩
  rw [hl] at d
  obtain ⟨i, hi, e⟩ := ps_sm (by decide) c d
  rw [e]
  refine h.get (by decide) (by rw [hl]; exact hi) ?_
  have hi' : (tl T 4).getD i 0 = i := by
    rw [hg.2.1]
    rcases (show i = 0 ∨ i = 1 ∨ i = 2 ∨ i = 3 by omega) with rfl | rfl | rfl | rfl <;> rfl
  rw [hi']
  exact ⟨_, rfl, ⟨h.L (tt_v3 (w := i) (by omega)), h.KC hi⟩, h1 i hi e⟩
theorem cx_truckNumbered (h : tx_R t0 S G T) (hg : tt_g T) {v : Int32} {post : Option Nat → qs_S → Prop} {px : String → qs_S → Prop} (hmc : 1 ≤ mc) (hms : 6 ≤ ms) (h1 : ∀ w, 4 ≤ w → w < 8 → v = nI w → post (some (G 3 w)) S) (h0 : (∀ w, 4 ≤ w → w < 8 → v ≠ nI w) → px "java/lang/IndexOutOfBoundsException" S) : wp_X6_truckNumbered t0 m9 mc ms post px S (G 6 0) v := by
  have hl : (tl T 5).length = 4 := by rw [hg.2.2]; rfl
  refine ⟨fun c => ⟨⟨by omega, by omega⟩, h0 (fun w h4 h8 e => ?_)⟩, fun c v3 e3 => ⟨h.xL, G 4 5, h.xR (by decide), h.lL (by decide), h.size (by decide) ?_⟩⟩
  · rw [e] at c
    exact nI_nlt (a := w) (b := 4) h4 (by omega) c
  obtain ⟨j, hj, e⟩ : ∃ j : Nat, j < 2 ^ 31 ∧ v = nI j := nI_of (fun z => c (by
    have : v.toInt < 0 := by simpa using Int32.lt_iff_toInt_lt.mp z
    exact Int32.lt_iff_toInt_lt.mpr (by show v.toInt < 4; omega)))
  have hj4 : 4 ≤ j := by
    rcases Nat.lt_or_ge j 4 with z | z
    · exact absurd (by rw [e]; exact nI_lt (b := 4) z (by decide)) c
    · exact z
  have e3' : v3 = nI (j - 4) := by rw [e3, e]; exact pk_sub (b := 4) hj4
  rw [hl]
  refine ⟨fun d => ⟨h.xL, G 4 5, h.xR (by decide), fun v17 e17 => ⟨h.lL (by decide), ?_⟩⟩, fun d => ⟨⟨by omega, by omega⟩, h0 (fun w h4 h8 ew => ?_)⟩⟩
  · have hj8 : j - 4 < 4 := by
      rw [e3'] at d
      exact (nI_ltI (by omega) (by decide)).mp d
    have : v17 = nI (j - 4) := e17.trans (e3.symm.trans e3')
    rw [this]
    refine h.get (by decide) (by rw [hl]; exact hj8) ?_
    have hi' : (tl T 5).getD (j - 4) 0 = j := by
      rw [hg.2.2]
      rcases (show j = 4 ∨ j = 5 ∨ j = 6 ∨ j = 7 by omega) with rfl | rfl | rfl | rfl <;> rfl
    rw [hi']
    exact ⟨_, rfl, ⟨h.L (tt_v3 (w := j) (by omega)), h.KT hj4 (by omega)⟩, h1 j hj4 (by omega) e⟩
  · refine d ?_
    rw [e3']
    have : j = w := (nI_eq hj (by omega)).mp (e.symm.trans ew)
    exact nI_lt (by omega) (by decide)
theorem cx_workerNumbered (h : tx_R t0 S G T) (hg : tt_g T) {v : Int32} {post : Option Nat → qs_S → Prop} {px : String → qs_S → Prop} (hmc : 1 ≤ mc) (hms : 6 ≤ ms) (h1 : ∀ w, w < 8 → v = nI w → post (some (G 3 w)) S) (h0 : (∀ w, w < 8 → v ≠ nI w) → px "java/lang/IndexOutOfBoundsException" S) : wp_X6_workerNumbered t0 m9 mc ms post px S (G 6 0) v := by
  refine ⟨fun c => ⟨h.xL, 1, 6, ⟨by omega, by omega⟩, cx_truckNumbered h hg (Nat.le_refl _) (Nat.le_refl _) (fun w h4 h8 e => ⟨_, rfl, h1 w h8 e⟩) (fun z => h0 (fun w h8 e => ?_))⟩, fun c => ⟨h.xL, 1, 6, ⟨by omega, by omega⟩, cx_craneNumbered h hg (Nat.le_refl _) (Nat.le_refl _) (fun w h4 e => ⟨_, rfl, h1 w (by omega) e⟩) (fun z => h0 (fun w h8 e => ?_))⟩⟩
  · refine z w ?_ h8 e
    rw [e] at c
    exact (nI_leI (a := 4) (by decide) (by omega)).mp c
  · refine z w ?_ e
    rw [e] at c
    rcases Nat.lt_or_ge w 4 with y | y
    · exact y
    · exact absurd (nI_le (a := 4) y (by omega)) c
theorem cx_countAtL (h : tx_R t0 S G T) (hg : tt_g T) {wh sp : Int32} {post : Int32 → qs_S → Prop} (hp : post (nI (tt_ct (tt_at T wh sp) (tl T 1).length)) S) : ∀ (k i : Nat), i + k = (tl T 1).length → wp_X6_countAt_b5 t0 m9 post (k + 1) S (G 6 0) wh sp (nI (tt_ct (tt_at T wh sp) i)) (nI i) := by
  have hb := h.len (j := 1) (by decide)
  intro k
  induction k with
  | zero =>
    intro i hi
    have : i = (tl T 1).length := hi
    refine ⟨h.xL, G 4 1, h.xR (by decide), h.lL (by decide), h.size (by decide) ⟨fun _ => ?_, fun c => absurd (nI_le (by omega) (by omega)) c⟩⟩
    rw [this]
    exact hp
  | succ k ih =>
    intro i hi
    have hlt : i < (tl T 1).length := by omega
    refine ⟨h.xL, G 4 1, h.xR (by decide), h.lL (by decide), h.size (by decide) ⟨fun c => absurd c (nI_ge hlt (by omega)), fun _ => ⟨h.xL, G 4 1, h.xR (by decide), h.lL (by decide), h.get (by decide) hlt ?_⟩⟩⟩
    rw [ps_range (hg.1 1 (by decide)) hlt]
    refine ⟨_, rfl, ⟨h.L (tt_v1 hlt), h.K (tt_v1 hlt)⟩, cx_isAt h (tt_v1 hlt) (fun c => ⟨fun z => absurd z (by decide), fun _ v e => ?_⟩) (fun c => ⟨fun _ v e => ?_, fun z => absurd rfl z⟩)⟩
    · intro v1 e1
      rw [e1, e, nI_1, nI_1]
      have : tt_ct (tt_at T wh sp) (i + 1) = tt_ct (tt_at T wh sp) i + 1 := by
        show _ + (if tt_at T wh sp i = true then 1 else 0) = _
        rw [if_pos (show tt_at T wh sp i = true from decide_eq_true c)]
      rw [← this]
      exact ih (i + 1) (by omega)
    · rw [e, nI_1]
      have : tt_ct (tt_at T wh sp) (i + 1) = tt_ct (tt_at T wh sp) i := by
        show _ + (if tt_at T wh sp i = true then 1 else 0) = _
        rw [if_neg (by rw [show tt_at T wh sp i = false from decide_eq_false c]; decide)]
        rfl
      have r := ih (i + 1) (by omega)
      rw [this] at r
      exact r
theorem cx_countAt (h : tx_R t0 S G T) (hg : tt_g T) {wh sp : Int32} {post : Int32 → qs_S → Prop} (hp : post (nI (tt_ct (tt_at T wh sp) (tl T 1).length)) S) : wp_X6_countAt t0 m9 post S (G 6 0) wh sp :=
  ⟨(tl T 1).length + 1, cx_countAtL h hg hp _ 0 (Nat.zero_add _)⟩
theorem cx_slotsLeftL (h : tx_R t0 S G T) (hg : tt_g T) {ga ho : Int32} {post : Int32 → qs_S → Prop} (hp : post (2 - nI (tt_ct (tt_bk T ga ho) (tl T 1).length)) S) : ∀ (k i : Nat), i + k = (tl T 1).length → wp_X6_slotsLeft_b5 t0 m9 post (k + 1) S (G 6 0) ga ho (2 - nI (tt_ct (tt_bk T ga ho) i)) (nI i) := by
  have hb := h.len (j := 1) (by decide)
  intro k
  induction k with
  | zero =>
    intro i hi
    have : i = (tl T 1).length := hi
    refine ⟨h.xL, G 4 1, h.xR (by decide), h.lL (by decide), h.size (by decide) ⟨fun _ => ?_, fun c => absurd (nI_le (by omega) (by omega)) c⟩⟩
    rw [this]
    exact hp
  | succ k ih =>
    intro i hi
    have hlt : i < (tl T 1).length := by omega
    refine ⟨h.xL, G 4 1, h.xR (by decide), h.lL (by decide), h.size (by decide) ⟨fun c => absurd c (nI_ge hlt (by omega)), fun _ => ⟨h.xL, G 4 1, h.xR (by decide), h.lL (by decide), h.get (by decide) hlt ?_⟩⟩⟩
    rw [ps_range (hg.1 1 (by decide)) hlt]
    refine ⟨_, rfl, ⟨h.L (tt_v1 hlt), h.K (tt_v1 hlt)⟩, cx_isBookedAt h (tt_v1 hlt) (fun c => ⟨fun z => absurd z (by decide), fun _ v e => ?_⟩) (fun c => ⟨fun _ v e => ?_, fun z => absurd rfl z⟩)⟩
    · intro v1 e1
      have : tt_ct (tt_bk T ga ho) (i + 1) = tt_ct (tt_bk T ga ho) i + 1 := by
        show _ + (if tt_bk T ga ho i = true then 1 else 0) = _
        rw [if_pos (show tt_bk T ga ho i = true from decide_eq_true c)]
      have e' : v = 2 - nI (tt_ct (tt_bk T ga ho) (i + 1)) := by
        rw [e, this, nI_succ, Int32.sub_eq_add_neg, Int32.sub_eq_add_neg, Int32.neg_add, Int32.add_assoc, Int32.sub_eq_add_neg]
      rw [e1, e', nI_1]
      exact ih (i + 1) (by omega)
    · rw [e, nI_1]
      have : tt_ct (tt_bk T ga ho) (i + 1) = tt_ct (tt_bk T ga ho) i := by
        show _ + (if tt_bk T ga ho i = true then 1 else 0) = _
        rw [if_neg (by rw [show tt_bk T ga ho i = false from decide_eq_false c]; decide)]
        rfl
      have r := ih (i + 1) (by omega)
      rw [this] at r
      exact r
theorem cx_slotsLeft (h : tx_R t0 S G T) (hg : tt_g T) {ga ho : Int32} {post : Int32 → qs_S → Prop} (hp : post (2 - nI (tt_ct (tt_bk T ga ho) (tl T 1).length)) S) : wp_X6_slotsLeft t0 m9 post S (G 6 0) ga ho := by
  refine ⟨(tl T 1).length + 1, ?_⟩
  have r := cx_slotsLeftL (m9 := m9) h hg hp _ 0 (Nat.zero_add _)
  have e : (2 : Int32) - nI (tt_ct (tt_bk T ga ho) 0) = 2 := by
    show (2 : Int32) - nI 0 = 2
    decide +kernel
  rw [e] at r
  exact r
def tt_tk (T : tt_T) (b e : Int32) (i : Nat) : Prop := ti T 0 2 i = 0 ∧ ti T 0 0 i < e ∧ b < ti T 0 1 i
theorem cx_isTakenL (h : tx_R t0 S G T) (hg : tt_g T) {b e : Int32} {post : Int32 → qs_S → Prop} (h1 : (∃ i, i < (tl T 0).length ∧ tt_tk T b e i) → post 1 S) (h0 : (∀ i, i < (tl T 0).length → ¬ tt_tk T b e i) → post 0 S) : ∀ (k i : Nat), i + k = (tl T 0).length → (∀ i', i' < i → ¬ tt_tk T b e i') → wp_X6_isTaken_b2 t0 m9 post (k + 1) S (G 6 0) b e (nI i) := by
  have hb := h.len (j := 0) (by decide)
  intro k
  induction k with
  | zero =>
    intro i hi hno
    refine ⟨h.xL, G 4 0, h.xR (by decide), h.lL (by decide), h.size (by decide) ⟨fun _ => h0 (fun i' hi' => hno i' (by omega)), fun c => absurd (nI_le (by omega) (by omega)) c⟩⟩
  | succ k ih =>
    intro i hi hno
    have hlt : i < (tl T 0).length := by omega
    have nx : ¬ tt_tk T b e i → ∀ v1 : Int32, v1 = nI i + 1 → wp_X6_isTaken_b2 t0 m9 post (k + 1) S (G 6 0) b e v1 := by
      intro hn v1 e1
      rw [e1, nI_1]
      refine ih (i + 1) (by omega) (fun i' hi' => ?_)
      by_cases z : i' = i
      · rw [z]; exact hn
      · exact hno i' (by omega)
    refine ⟨h.xL, G 4 0, h.xR (by decide), h.lL (by decide), h.size (by decide) ⟨fun c => absurd c (nI_ge hlt (by omega)), fun _ => ⟨h.xL, G 4 0, h.xR (by decide), h.lL (by decide), h.get (by decide) hlt ?_⟩⟩⟩
    rw [ps_range (hg.1 0 (by decide)) hlt]
    refine ⟨_, rfl, ⟨h.L (tt_v0 hlt), h.K (tt_v0 hlt)⟩, fun v24 e24 => ?_⟩
    have e24' : v24 = ti T 0 2 i := e24.trans (h.I (tt_v0 hlt) (by decide) rfl)
    rw [e24']
    refine ⟨fun c => nx (fun z => c z.1), fun c v26 e26 => ?_⟩
    have e26' : v26 = ti T 0 0 i := e26.trans (h.I (tt_v0 hlt) (by decide) rfl)
    rw [e26']
    refine ⟨fun d => nx (fun z => (Int32.not_le.mpr z.2.1) d), fun d v28 e28 => ?_⟩
    have e28' : v28 = ti T 0 1 i := e28.trans (h.I (tt_v0 hlt) (by decide) rfl)
    rw [e28']
    exact ⟨fun f => nx (fun z => (Int32.not_le.mpr z.2.2) f), fun f => h1 ⟨i, hlt, c, Int32.not_le.mp d, Int32.not_le.mp f⟩⟩
theorem cx_isTaken (h : tx_R t0 S G T) (hg : tt_g T) {b e : Int32} {post : Int32 → qs_S → Prop} (h1 : (∃ i, i < (tl T 0).length ∧ tt_tk T b e i) → post 1 S) (h0 : (∀ i, i < (tl T 0).length → ¬ tt_tk T b e i) → post 0 S) : wp_X6_isTaken t0 m9 post S (G 6 0) b e :=
  ⟨(tl T 0).length + 1, cx_isTakenL h hg h1 h0 _ 0 (Nat.zero_add _) (fun _ z => absurd z (Nat.not_lt_zero _))⟩
end TXM
