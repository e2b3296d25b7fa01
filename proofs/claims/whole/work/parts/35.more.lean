/-! ===== more private methods, by numbers ===== -/
abbrev tt_isF (k w : Int32) : Prop := (k = 0 ∧ ¬ w < 0 ∧ ¬ 4 ≤ w) ∨ (¬ k = 0 ∧ ¬ w < 4 ∧ ¬ 8 ≤ w)
/-- the least busy of the first n workers: 0 none, w + 1 -/
def tt_bs (T : tt_T) (k : Int32) : Nat → Nat
  | 0 => 0
  | n + 1 => if tt_isF k (nI n) ∧ ti T 3 5 n = 0 ∧ (tt_bs T k n = 0 ∨ (tl T (6 + n)).length < (tl T (6 + (tt_bs T k n - 1))).length) then n + 1 else tt_bs T k n
theorem tt_bs_le {T : tt_T} {k : Int32} : ∀ n, tt_bs T k n ≤ n
  | 0 => Nat.le_refl 0
  | n + 1 => by
    have := tt_bs_le (T := T) (k := k) n
    unfold tt_bs
    split <;> omega
def tt_cb (T : tt_T) (b : Nat) (ho : Int32) (i : Nat) : Prop := (ti T 1 2 i = 3 ∧ ti T 1 3 i = ti T 1 3 b) ∧ ((ti T 1 4 b < ti T 1 4 i ∧ (ti T 1 7 i = -1 ∨ ho < ti T 1 7 i)) ∨ (ti T 1 4 i < ti T 1 4 b ∧ ti T 1 7 i ≠ -1 ∧ ti T 1 7 i < ho))
/-- the box's latest move among the first n of the log: 0 none, m + 1 -/
def tt_ll (T : tt_T) (b : Nat) : Nat → Nat
  | 0 => 0
  | n + 1 => if tr T 2 2 ((tl T 3).getD n 0) = b + 1 ∧ (tt_ll T b n = 0 ∨ ti T 2 5 (tt_ll T b n - 1) < ti T 2 5 ((tl T 3).getD n 0)) then (tl T 3).getD n 0 + 1 else tt_ll T b n
def tt_rm (T : tt_T) (w m : Nat) : tt_T := tt_L T (14 + w) (tl T (14 + w) ++ [m])
def tt_fi (T : tt_T) (w m : Nat) : Int32 × tt_T := tt_ak (tt_R (tt_rm T w m) 3 7 w 0) w m
def tt_li (T : tt_T) (w m b : Nat) : Int32 × tt_T :=
  if ti T 1 2 b = 0 then
    if tt_go T w (ti T 1 1 b) ∧ tt_ca T 1 (ti T 1 1 b) = 0 then tt_ak (tt_rm (tt_nm (tt_I (tt_br (tt_I T 3 7 w (ti T 1 1 b)) b 1 (ti T 1 1 b)) 1 5 b (nI w)) m) w m) w m
    else (3, T)
  else tt_ak T w m
def tt_ho (T : tt_T) (w m b : Nat) : Int32 × tt_T :=
  if 0 < ti T 3 3 w then (1, tt_I T 3 3 w (ti T 3 3 w - 1))
  else if ti T 3 5 w = 0 then
    if m ∈ tl T (14 + w) then tt_ak T w m
    else if w < 4 then tt_li T w m b else (6, tt_R T 3 7 w (m + 1))
  else (2, T)
section TXO
variable {t0 m9 mc ms : Nat} {S : qs_S} {G : Nat → Nat → Nat} {T : tt_T}
theorem tx_R.A (h : tx_R t0 S G T) {f i : Nat} (v : tt_v T f i) : G f i ∈ qs_L S ∧ qs_K S (G f i) = tt_k f i := ⟨h.L v, h.K v⟩
theorem tx_R.rI (h : tx_R t0 S G T) {f i k : Nat} (v : tt_v T f i) {P : Int32 → Prop} (p : P (ti T f k i)) (hb : tt_b f k i = false := by rfl) (hk : k < tt_n f := by decide) : ∀ x : Int32, x = qs_I S k (G f i) → P x := fun x e => by
  rw [e.trans (h.I v hk hb)]
  exact p
theorem tx_R.AW (h : tx_R t0 S G T) {w : Nat} (hw : w < 8) : G 3 w ∈ qs_L S ∧ (qs_K S (G 3 w) = 2 ∨ qs_K S (G 3 w) = 5) := ⟨h.L (tt_v3 hw), h.KW hw⟩
theorem tx_R.AC (h : tx_R t0 S G T) {w : Nat} (hw : w < 4) : G 3 w ∈ qs_L S ∧ qs_K S (G 3 w) = 2 := ⟨h.L (tt_v3 (by omega)), h.KC hw⟩
theorem tx_R.AT (h : tx_R t0 S G T) {w : Nat} (h4 : 4 ≤ w) (hw : w < 8) : G 3 w ∈ qs_L S ∧ qs_K S (G 3 w) = 5 := ⟨h.L (tt_v3 hw), h.KT h4 hw⟩
theorem tt_b37 {w : Nat} (h : w < 4) : tt_b 3 7 w = false := decide_eq_false (p := 4 ≤ w) (by omega)
theorem tt_b37t {w : Nat} (h : 4 ≤ w) : tt_b 3 7 w = true := decide_eq_true (p := 4 ≤ w) h
theorem cx_isFor {a b : Int32} {post : Int32 → qs_S → Prop} (h1 : tt_isF a b → post 1 S) (h0 : ¬ tt_isF a b → post 0 S) : wp_X6_isFor t0 m9 post S a b := by
  refine ⟨fun c => ⟨fun d => ⟨Or.inl rfl, h0 (fun z => z.elim (fun z => c z.1) (fun z => z.2.1 d))⟩, fun d => ⟨fun e => ⟨Or.inl rfl, h0 (fun z => z.elim (fun z => c z.1) (fun z => z.2.2 e))⟩, fun e => ⟨Or.inr rfl, h1 (Or.inr ⟨c, d, e⟩)⟩⟩⟩, fun c => ⟨fun d => ⟨Or.inl rfl, h0 (fun z => z.elim (fun z => z.2.1 d) (fun z => z.1 c))⟩, fun d => ⟨fun e => ⟨Or.inl rfl, h0 (fun z => z.elim (fun z => z.2.2 e) (fun z => z.1 c))⟩, fun e => ⟨Or.inr rfl, h1 (Or.inl ⟨c, d, e⟩)⟩⟩⟩⟩
theorem cx_canGo (h : tx_R t0 S G T) (hg : tt_g T) {c : Nat} (hc : c < 4) {p : Int32} {post : Int32 → qs_S → Prop} {px : String → qs_S → Prop} (hmc : 2 ≤ mc) (hms : 12 ≤ ms) (h1 : tt_go T c p → post 1 S) (h0 : ¬ tt_go T c p → post 0 S) : wp_X6_canGo t0 m9 mc ms post px S (G 6 0) (nI c) p := by
  have B2 : ∀ (k n : Nat) (x y : Int32), ((x = 1 ∧ (c = 0 ∨ ti T 3 7 (c - 1) < p)) ∨ (x = 0 ∧ ¬ (c = 0 ∨ ti T 3 7 (c - 1) < p))) → ((y = 1 ∧ (c = 3 ∨ p < ti T 3 7 (c + 1))) ∨ (y = 0 ∧ ¬ (c = 3 ∨ p < ti T 3 7 (c + 1)))) → wp_X6_canGo_b49 t0 m9 mc ms post px k n S x y := by
    intro k n x y hx hy
    rcases hx with ⟨rfl, hx⟩ | ⟨rfl, hx⟩
    · rcases hy with ⟨rfl, hy⟩ | ⟨rfl, hy⟩
      · exact ⟨fun z => absurd z (by decide), fun _ => ⟨fun z => absurd z (by decide), fun _ => ⟨Or.inr rfl, h1 ⟨hx, hy⟩⟩⟩⟩
      · exact ⟨fun z => absurd z (by decide), fun _ => ⟨fun _ => ⟨Or.inl rfl, h0 (fun z => hy z.2)⟩, fun z => absurd rfl z⟩⟩
    · exact ⟨fun _ => ⟨Or.inl rfl, h0 (fun z => hx z.1)⟩, fun z => absurd rfl z⟩
  have B : ∀ (k n : Nat) (x : Int32), k ≤ 1 → n ≤ 6 → ((x = 1 ∧ (c = 0 ∨ ti T 3 7 (c - 1) < p)) ∨ (x = 0 ∧ ¬ (c = 0 ∨ ti T 3 7 (c - 1) < p))) → wp_X6_canGo_b24 t0 m9 mc ms post px k n S (G 6 0) (nI c) p x := by
    intro k n x hk hn hx
    refine ⟨fun z => B2 k n x 1 hx (Or.inl ⟨rfl, Or.inl ?_⟩), fun z v5 e5 => ⟨h.xL, 1, 6, ⟨by omega, by omega⟩, cx_craneNumbered h hg (Nat.le_refl _) (Nat.le_refl _) (fun w hw e => ⟨_, rfl, h.AC hw, h.rI (tt_v3 (by omega)) (k := 7) ?_ (tt_b37 hw)⟩) (fun z' => ?_)⟩⟩
    · have := (nI_ltI (a := 2) (by decide) (by omega)).mp z
      omega
    · have ew : c + 1 = w := (nI_eq (by omega) (by omega)).mp (by rw [← nI_1, ← e5, e])
      subst ew
      exact ⟨fun y => B2 _ _ x 0 hx (Or.inr ⟨rfl, fun q => q.elim (fun q => by omega) (fun q => (Int32.not_le.mpr q) y)⟩), fun y => B2 _ _ x 1 hx (Or.inl ⟨rfl, Or.inr (Int32.not_le.mp y)⟩)⟩
    · refine absurd (e5.trans (nI_1 c)) (z' (c + 1) ?_)
      rcases Nat.lt_or_ge c 3 with q | q
      · omega
      · exact absurd (nI_lt (a := 2) (b := c) (by omega) (by omega)) z
  refine ⟨fun z => B 0 0 1 (by omega) (by omega) (Or.inl ⟨rfl, Or.inl ?_⟩), fun z v18 e18 => ⟨h.xL, 1, 6, ⟨by omega, by omega⟩, cx_craneNumbered h hg (Nat.le_refl _) (Nat.le_refl _) (fun w hw e => ⟨_, rfl, h.AC hw, h.rI (tt_v3 (by omega)) (k := 7) ?_ (tt_b37 hw)⟩) (fun z' => ?_)⟩⟩
  · have := (nI_ltI (b := 1) (by omega) (by decide)).mp z
    omega
  · have hc1 : 1 ≤ c := by
      rcases Nat.lt_or_ge c 1 with q | q
      · exact absurd (nI_lt (b := 1) q (by decide)) z
      · exact q
    have ew : c - 1 = w := (nI_eq (by omega) (by omega)).mp (by rw [← e, e18]; exact (pk_sub (b := 1) hc1).symm)
    subst ew
    exact ⟨fun y => B _ _ 0 (by omega) (by omega) (Or.inr ⟨rfl, fun q => q.elim (fun q => by omega) (fun q => (Int32.not_le.mpr q) y)⟩), fun y => B _ _ 1 (by omega) (by omega) (Or.inl ⟨rfl, Or.inr (Int32.not_le.mp y)⟩)⟩
  · have hc1 : 1 ≤ c := by
      rcases Nat.lt_or_ge c 1 with q | q
      · exact absurd (nI_lt (b := 1) q (by decide)) z
      · exact q
    exact absurd (e18.trans (pk_sub (b := 1) hc1)) (z' (c - 1) (by omega))
theorem cx_isInAQueueL (h : tx_R t0 S G T) (hg : tt_g T) {m : Nat} (hm : tt_v T 2 m) {post : Int32 → qs_S → Prop} {px : String → qs_S → Prop} (hmc : 8 ≤ mc) (hms : 48 ≤ ms) (h1 : (∃ w, w < 8 ∧ m ∈ tl T (6 + w)) → post 1 S) (h0 : (∀ w, w < 8 → m ∉ tl T (6 + w)) → post 0 S) : ∀ (r i : Nat), i + r = 8 → (∀ w, w < i → m ∉ tl T (6 + w)) → wp_X6_isInAQueue_b2 t0 m9 mc ms post px (r + 1) i (6 * i) S (G 6 0) (G 2 m) (nI i) := by
  intro r
  induction r with
  | zero =>
    intro i hi hno
    have : i = 8 := hi
    subst this
    exact ⟨fun _ => h0 hno, fun z => absurd (by decide) z⟩
  | succ r ih =>
    intro i hi hno
    refine ⟨fun z => absurd z (nI_ge (b := 8) (by omega) (by decide)), fun _ => ⟨h.xL, 1, 6, ⟨by omega, by omega⟩, cx_workerNumbered h hg (Nat.le_refl _) (Nat.le_refl _) (fun w hw e => ⟨_, rfl, h.AW hw, _, h.wt hw, ?_⟩) (fun z => absurd rfl (z i (by omega)))⟩⟩
    have ew : i = w := (nI_eq (by omega) (by omega)).mp e
    subst ew
    refine cx_indexOf h (by omega) tt_lcw hm (fun hmem => ⟨fun z => absurd z (ps_ne1 ?_), fun _ => h1 ⟨i, by omega, hmem⟩⟩) (fun hmem => ⟨fun _ v e => ?_, fun z => absurd rfl z⟩)
    · have := List.idxOf_lt_length_iff.mpr hmem
      have := h.len (j := 6 + i) (by omega)
      omega
    · rw [e, nI_1]
      have := ih (i + 1) (by omega) (fun w hw => by
        by_cases c : w = i
        · rw [c]; exact hmem
        · exact hno w (by omega))
      rw [Nat.mul_succ] at this
      exact this
theorem cx_isInAQueue (h : tx_R t0 S G T) (hg : tt_g T) {m : Nat} (hm : tt_v T 2 m) {post : Int32 → qs_S → Prop} {px : String → qs_S → Prop} (hmc : 8 ≤ mc) (hms : 48 ≤ ms) (h1 : (∃ w, w < 8 ∧ m ∈ tl T (6 + w)) → post 1 S) (h0 : (∀ w, w < 8 → m ∉ tl T (6 + w)) → post 0 S) : wp_X6_isInAQueue t0 m9 mc ms post px S (G 6 0) (G 2 m) :=
  ⟨9, cx_isInAQueueL h hg hm hmc hms h1 h0 8 0 rfl (fun _ z => absurd z (Nat.not_lt_zero _))⟩
theorem cx_leastBusyL (h : tx_R t0 S G T) (hg : tt_g T) {k : Int32} {post : Option Nat → qs_S → Prop} {px : String → qs_S → Prop} (hmc : 8 ≤ mc) (hms : 48 ≤ ms) (hp : post (tt_o (G 3) (tt_bs T k 8)) S) : ∀ (r i : Nat), i + r = 8 → wp_X6_leastBusyFor_b4 t0 m9 mc ms post px (r + 1) i (6 * i) S (G 6 0) k (tt_o (G 3) (tt_bs T k i)) (nI i) := by
  intro r
  induction r with
  | zero =>
    intro i hi
    have : i = 8 := hi
    subst this
    exact ⟨fun _ => ⟨fun e => e ▸ hp, fun q e => e ▸ hp⟩, fun z => absurd (by decide) z⟩
  | succ r ih =>
    intro i hi
    have nx : ∀ o : Nat, tt_bs T k (i + 1) = o → ∀ v : Int32, v = nI i + 1 → wp_X6_leastBusyFor_b4 t0 m9 mc ms post px (r + 1) (i + 1) (6 * i + 6) S (G 6 0) k (tt_o (G 3) o) v := by
      intro o ho v e
      rw [e, nI_1, ← ho]
      have := ih (i + 1) (by omega)
      rw [Nat.mul_succ] at this
      exact this
    refine ⟨fun z => absurd z (nI_ge (b := 8) (by omega) (by decide)), fun _ => ⟨h.xL, 1, 6, ⟨by omega, by omega⟩, cx_workerNumbered h hg (Nat.le_refl _) (Nat.le_refl _) (fun w hw e => ⟨_, rfl, ?_⟩) (fun z => absurd rfl (z i (by omega)))⟩⟩
    have ew : i = w := (nI_eq (by omega) (by omega)).mp e
    subst ew
    refine cx_isFor (fun c => ⟨fun z => absurd z (by decide), fun _ => ⟨h.AW hw, h.rI (tt_v3 hw) ⟨fun d => nx _ (if_neg (fun z => d z.2.1)), fun d => ?_⟩⟩⟩) (fun c => ⟨fun _ => nx _ (if_neg (fun z => c z.1)), fun z => absurd rfl z⟩)
    cases hb : tt_bs T k i with
    | zero => exact ⟨fun _ => nx (i + 1) (if_pos ⟨c, d, Or.inl hb⟩), fun q e => absurd e (by intro z; cases z)⟩
    | succ b =>
      refine ⟨fun e => absurd e (by intro z; cases z), fun q e => ?_⟩
      have eq : G 3 b = q := Option.some.inj e
      subst eq
      have hb8 : b < 8 := by have := tt_bs_le (T := T) (k := k) i; omega
      refine ⟨_, h.wt hw, h.lL (by omega), h.size (by omega) ⟨h.AW hb8, _, h.wt hb8, h.lL (by omega), h.size (by omega) ?_⟩⟩
      have l1 := h.len (j := 6 + i) (by omega)
      have l2 := h.len (j := 6 + b) (by omega)
      refine ⟨fun z => nx (b + 1) ?_, fun z => nx (i + 1) ?_⟩
      · rw [← hb]
        refine if_neg (fun y => ?_)
        rw [hb] at y
        rcases y.2.2 with y | y
        · omega
        · have := (nI_leI (by omega) (by omega)).mp z
          simp at y
          omega
      · refine if_pos ⟨c, d, Or.inr ?_⟩
        rw [hb]
        simp
        have := (nI_ltI (by omega) (by omega)).mp (Int32.not_le.mp z)
        exact this
theorem cx_leastBusyFor (h : tx_R t0 S G T) (hg : tt_g T) {k : Int32} {post : Option Nat → qs_S → Prop} {px : String → qs_S → Prop} (hmc : 8 ≤ mc) (hms : 48 ≤ ms) (hp : post (tt_o (G 3) (tt_bs T k 8)) S) : wp_X6_leastBusyFor t0 m9 mc ms post px S (G 6 0) k :=
  ⟨9, cx_leastBusyL h hg hmc hms hp 8 0 rfl⟩
theorem cx_canComeOutL (h : tx_R t0 S G T) (hg : tt_g T) {b : Nat} (hb : tt_v T 1 b) {ho : Int32} {post : Int32 → qs_S → Prop} (h1 : (∀ i, i < (tl T 1).length → ¬ tt_cb T b ho i) → post 1 S) (h0 : (∃ i, i < (tl T 1).length ∧ tt_cb T b ho i) → post 0 S) : ∀ (k i : Nat), i + k = (tl T 1).length → (∀ i', i' < i → ¬ tt_cb T b ho i') → wp_X6_canComeOut_b2 t0 m9 post (k + 1) S (G 6 0) (G 1 b) ho (nI i) := by
  have hl := h.len (j := 1) (by decide)
  intro k
  induction k with
  | zero =>
    intro i hi hno
    refine ⟨h.xL, G 4 1, h.xR (by decide), h.lL (by decide), h.size (by decide) ⟨fun _ => h1 (fun i' hi' => hno i' (by omega)), fun c => absurd (nI_le (by omega) (by omega)) c⟩⟩
  | succ k ih =>
    intro i hi hno
    have hlt : i < (tl T 1).length := by omega
    have nx : ¬ tt_cb T b ho i → ∀ v1 : Int32, v1 = nI i + 1 → wp_X6_canComeOut_b2 t0 m9 post (k + 1) S (G 6 0) (G 1 b) ho v1 := by
      intro hn v1 e1
      rw [e1, nI_1]
      refine ih (i + 1) (by omega) (fun i' hi' => ?_)
      by_cases z : i' = i
      · rw [z]; exact hn
      · exact hno i' (by omega)
    refine ⟨h.xL, G 4 1, h.xR (by decide), h.lL (by decide), h.size (by decide) ⟨fun c => absurd c (nI_ge hlt (by omega)), fun _ => ⟨h.xL, G 4 1, h.xR (by decide), h.lL (by decide), h.get (by decide) hlt ?_⟩⟩⟩
    rw [ps_range (hg.1 1 (by decide)) hlt]
    have vi := tt_v1 hlt
    refine ⟨_, rfl, h.A vi, h.A hb, h.rI hb (cx_isAt h vi (fun c => ⟨fun z => absurd z (by decide), fun _ => ⟨h.A vi, h.rI vi ⟨h.A hb, h.rI hb ?_⟩⟩⟩) (fun c => ⟨fun _ => nx (fun z => c z.1), fun z => absurd rfl z⟩))⟩
    have b70 : ¬ (ti T 1 4 b < ti T 1 4 i ∧ (ti T 1 7 i = -1 ∨ ho < ti T 1 7 i)) → wp_X6_canComeOut_b70 t0 m9 post (wp_X6_canComeOut_b2 t0 m9 post (k + 1)) S (G 6 0) (G 1 b) ho (nI i) (G 1 i) := by
      intro hn
      refine ⟨h.A vi, h.rI vi ⟨h.A hb, h.rI hb ⟨fun d => nx (fun z => z.2.elim hn (fun z => (Int32.not_lt.mpr d) z.1)), fun d => cx_isBooked h vi (fun e => ⟨fun z => absurd z (by decide), fun _ => ⟨h.A vi, h.rI vi ⟨fun f => nx (fun z => z.2.elim hn (fun z => (Int32.not_lt.mpr f) z.2.2)), fun f => h0 ⟨i, hlt, c, Or.inr ⟨Int32.not_le.mp d, e, Int32.not_le.mp f⟩⟩⟩⟩⟩) (fun e => ⟨fun _ => nx (fun z => z.2.elim hn (fun z => z.2.1 e)), fun z => absurd rfl z⟩)⟩⟩⟩
    exact ⟨fun d => b70 (fun z => (Int32.not_lt.mpr d) z.1), fun d => cx_isBooked h vi (fun e => ⟨fun z => absurd z (by decide), fun _ => ⟨h.A vi, h.rI vi ⟨fun f => b70 (fun z => z.2.elim e (fun z => (Int32.not_lt.mpr f) z)), fun f => h0 ⟨i, hlt, c, Or.inl ⟨Int32.not_le.mp d, Or.inr (Int32.not_le.mp f)⟩⟩⟩⟩⟩) (fun e => ⟨fun _ => h0 ⟨i, hlt, c, Or.inl ⟨Int32.not_le.mp d, Or.inl e⟩⟩, fun z => absurd rfl z⟩)⟩
theorem cx_canComeOut (h : tx_R t0 S G T) (hg : tt_g T) {b : Nat} (hb : tt_v T 1 b) {ho : Int32} {post : Int32 → qs_S → Prop} (h1 : (∀ i, i < (tl T 1).length → ¬ tt_cb T b ho i) → post 1 S) (h0 : (∃ i, i < (tl T 1).length ∧ tt_cb T b ho i) → post 0 S) : wp_X6_canComeOut t0 m9 post S (G 6 0) (G 1 b) ho :=
  ⟨(tl T 1).length + 1, cx_canComeOutL h hg hb h1 h0 _ 0 (Nat.zero_add _) (fun _ z => absurd z (Nat.not_lt_zero _))⟩
theorem tt_ll_v (h : tx_R t0 S G T) {b : Nat} : ∀ n, n ≤ (tl T 3).length → ∀ m, tt_ll T b n = m + 1 → tt_v T 2 m
  | 0, _, m, e => absurd e (by show ¬ 0 = m + 1; omega)
  | n + 1, hn, m, e => by
    unfold tt_ll at e
    split at e
    · have : (tl T 3).getD n 0 = m := by omega
      rw [← this]
      exact h.2.2.2.2 3 _ (by decide) (ps_getD_mem (by omega))
    · exact tt_ll_v h n (by omega) m e
theorem cx_lastLoggedL (h : tx_R t0 S G T) (hh : tt_h T) {b : Nat} (hb : tt_v T 1 b) {post : Option Nat → qs_S → Prop} (hp : post (tt_o (G 2) (tt_ll T b (tl T 3).length)) S) : ∀ (k i : Nat), i + k = (tl T 3).length → wp_X6_lastLoggedMoveOf_b4 t0 m9 post (k + 1) S (G 6 0) (G 1 b) (tt_o (G 2) (tt_ll T b i)) (nI i) := by
  have hl := h.len (j := 3) (by decide)
  intro k
  induction k with
  | zero =>
    intro i hi
    have : i = (tl T 3).length := hi
    subst this
    refine ⟨h.xL, G 4 3, h.xR (by decide), h.lL (by decide), h.size (by decide) ⟨fun _ => ⟨fun e => e ▸ hp, fun q e => e ▸ hp⟩, fun c => absurd (nI_le (by omega) (by omega)) c⟩⟩
  | succ k ih =>
    intro i hi
    have hlt : i < (tl T 3).length := by omega
    have nx : ∀ o : Nat, tt_ll T b (i + 1) = o → ∀ v : Int32, v = nI i + 1 → wp_X6_lastLoggedMoveOf_b4 t0 m9 post (k + 1) S (G 6 0) (G 1 b) (tt_o (G 2) o) v := by
      intro o ho v e
      rw [e, nI_1, ← ho]
      exact ih (i + 1) (by omega)
    refine ⟨h.xL, G 4 3, h.xR (by decide), h.lL (by decide), h.size (by decide) ⟨fun c => absurd c (nI_ge hlt (by omega)), fun _ => ⟨h.xL, G 4 3, h.xR (by decide), h.lL (by decide), h.get (by decide) hlt ?_⟩⟩⟩
    have hv : tt_v T 2 ((tl T 3).getD i 0) := h.2.2.2.2 3 _ (by decide) (ps_getD_mem hlt)
    obtain ⟨b', hb', eb'⟩ := hh.2.2.1 _ (tt_v2' hv)
    refine ⟨_, rfl, h.A hv, G 1 b', h.bx hv eb', ⟨fun c => nx _ (if_neg (fun z => c ?_)), fun c => ?_⟩⟩
    · have := z.1
      rw [eb'] at this
      rw [Nat.succ.inj this]
    · have hbb : b' = b := (h.2.1 1 b' 1 b (tt_v1 hb') hb c).2
      have ebb : tr T 2 2 ((tl T 3).getD i 0) = b + 1 := by rw [eb', hbb]
      cases hq : tt_ll T b i with
      | zero => exact ⟨fun _ => nx ((tl T 3).getD i 0 + 1) (if_pos ⟨ebb, Or.inl hq⟩), fun q e => absurd e (by intro z; cases z)⟩
      | succ m =>
        refine ⟨fun e => absurd e (by intro z; cases z), fun q e => ?_⟩
        have eq : G 2 m = q := Option.some.inj e
        subst eq
        have hmv := tt_ll_v h i (by omega) m hq
        refine h.rI hv ⟨h.A hmv, h.rI hmv ⟨fun z => nx (m + 1) ?_, fun z => nx ((tl T 3).getD i 0 + 1) (if_pos ⟨ebb, Or.inr ?_⟩)⟩⟩
        · rw [← hq]
          refine if_neg (fun y => ?_)
          rw [hq] at y
          rcases y.2 with y | y
          · omega
          · exact (Int32.not_lt.mpr z) y
        · rw [hq]
          exact Int32.not_le.mp z
theorem cx_lastLogged (h : tx_R t0 S G T) (hh : tt_h T) {b : Nat} (hb : tt_v T 1 b) {post : Option Nat → qs_S → Prop} (hp : post (tt_o (G 2) (tt_ll T b (tl T 3).length)) S) : wp_X6_lastLoggedMoveOf t0 m9 post S (G 6 0) (G 1 b) :=
  ⟨(tl T 3).length + 1, cx_lastLoggedL h hh hb hp _ 0 (Nat.zero_add _)⟩
theorem cx_remember (h : tx_R t0 S G T) {w m : Nat} (hw : w < 8) (hm : tt_v T 2 m) (hn : (tl T (14 + w)).length ≤ 400) (hmc : 1 ≤ mc) (hms : 610 ≤ ms) {post : Int32 → qs_S → Prop} (hp : ∀ S', tx_R t0 S' G (tt_rm T w m) → tx_K t0 S S' → post 1 S') : wp_Jx4a65c_add_9ea2d t0 m9 mc ms post S (G 4 (14 + w)) (G 2 m) := by
  have hlc : tt_lc (14 + w) = 2 := tt_lcr
  have a := h.add (m9 := m9) (mc := mc) (ms := ms) (j := 14 + w) (e := m) (by omega) (by omega) (by rw [hlc]; exact hm) hn hmc (by omega) (post := post) hp
  rw [hlc] at a
  exact a
theorem cx_finish (h : tx_R t0 S G T) {w m : Nat} (h4 : 4 ≤ w) (hw : w < 8) (hm : tt_v T 2 m) (hn : (tl T 3).length ≤ 400) (hr : (tl T (14 + w)).length ≤ 400) (hmc : 2 ≤ mc) (hms : 1220 ≤ ms) {post : Int32 → qs_S → Prop} (hp : ∀ S', tx_R t0 S' G (tt_fi T w m).2 → tx_K t0 S S' → post (tt_fi T w m).1 S') : wp_X6_finish t0 m9 mc ms post S (G 6 0) (G 3 w) (G 2 m) := by
  refine ⟨h.AT h4 hw, _, h.rm hw, h.lL (by omega), 1, 610, ⟨by omega, by omega⟩, cx_remember h hw hm hr (Nat.le_refl _) (Nat.le_refl _) (fun S1 r1 k1 => ⟨r1.AT h4 hw, ?_⟩)⟩
  have hm1 : tt_v (tt_rm T w m) 2 m := (tt_vL (by omega)).mpr hm
  obtain ⟨r2, k2⟩ := r1.wR (f := 3) (i := w) (k := 7) (n := 0) (v := none) (tt_v3 hw) (tt_b37t (by omega)) (by decide) (by
    have e : tt_e G (tt_R (tt_rm T w m) 3 7 w 0) 3 7 w = tt_o (G 2) (tr (tt_R (tt_rm T w m) 3 7 w 0) 3 7 w) := rfl
    rw [e, show tr (tt_R (tt_rm T w m) 3 7 w 0) 3 7 w = 0 from if_pos ⟨rfl, rfl, rfl⟩]
    rfl) (by decide)
  refine ⟨r2.xL, 1, 610, ⟨by omega, by omega⟩, cx_acknowledge r2 hw hm1 ?_ (Nat.le_refl _) (Nat.le_refl _) (fun S3 r3 k3 => hp S3 r3 ((k1.tr k2).tr k3))⟩
  have el : tl (tt_R (tt_rm T w m) 3 7 w 0) 3 = tl T 3 := tt_lL (by omega)
  rw [el]
  exact hn
theorem cx_lift (h : tx_R t0 S G T) (hg : tt_g T) (hh : tt_h T) {w m b : Nat} (hw : w < 4) (hm : tt_v T 2 m) (hb : tr T 2 2 m = b + 1) (hbv : tt_v T 1 b) (hn : (tl T 3).length ≤ 400) (hr : (tl T (14 + w)).length ≤ 400) (hmc : 4 ≤ mc) (hms : 1232 ≤ ms) {post : Int32 → qs_S → Prop} {px : String → qs_S → Prop} (hp : ∀ S', tx_R t0 S' G (tt_li T w m b).2 → tx_K t0 S S' → post (tt_li T w m b).1 S') : wp_X6_lift t0 m9 mc ms post px S (G 6 0) (G 3 w) (G 2 m) := by
  unfold tt_li at hp
  refine ⟨h.A hm, G 1 b, h.bx hm hb, h.A hbv, h.rI hbv ⟨fun c => ?_, fun c => ?_⟩⟩
  · rw [if_pos c] at hp
    refine ⟨h.AC hw, h.rI (tt_v3 (by omega)) (h.rI hbv ⟨h.xL, 2, 12, ⟨by omega, by omega⟩, ?_⟩)⟩
    rw [hh.1 w (by omega)]
    refine cx_canGo h hg hw (Nat.le_refl _) (Nat.le_refl _) (fun d => ⟨fun z => absurd z (by decide), fun _ => ⟨h.A hbv, h.rI hbv ⟨h.xL, cx_countAt h hg ⟨fun e => ?_, fun e => ?_⟩⟩⟩⟩) (fun d => ⟨fun _ => ?_, fun z => absurd rfl z⟩)
    · have hc : tt_ca T 1 (ti T 1 1 b) ≤ 40000 := tt_ca_le h
      have e0 : tt_ca T 1 (ti T 1 1 b) = 0 := by
        have := (nI_leI (a := tt_ca T 1 (ti T 1 1 b)) (b := 0) (by omega) (by decide)).mp e
        omega
      rw [if_pos ⟨d, e0⟩] at hp
      refine ⟨h.A hbv, h.rI hbv ⟨h.AC hw, fun v34 e34 => ?_⟩⟩
      obtain ⟨r1, k1⟩ := h.wI (f := 3) (i := w) (k := 7) (v := ti T 1 1 b) (tt_v3 (by omega)) (tt_b37 hw) (by decide)
      have e34' : v34 = ti T 1 1 b := e34.trans (r1.I (f := 1) hbv (by decide) rfl)
      rw [e34']
      refine cx_bring r1 (i := b) hbv (fun S2 r2 k2 => ⟨r2.AC hw, fun v40 e40 => ⟨r2.A (f := 1) hbv, ?_⟩⟩)
      have e40' : v40 = nI w := (e40.trans (r2.I (f := 3) (k := 0) (tt_v3 (by omega)) (by decide) rfl)).trans (hh.1 w (by omega))
      obtain ⟨r3, k3⟩ := r2.wI (f := 1) (i := b) (k := 5) (v := v40) hbv rfl (by decide)
      rw [e40'] at r3 k3 ⊢
      refine ⟨r3.xL, cx_noteMove r3 (m := m) hm (fun S4 r4 k4 => ⟨r4.AC hw, _, r4.rm (w := w) (by omega), r4.lL (by omega), 1, 610, ⟨by omega, by omega⟩, cx_remember r4 (w := w) (m := m) (by omega) hm hr (Nat.le_refl _) (Nat.le_refl _) (fun S5 r5 k5 => ⟨r5.xL, 1, 610, ⟨by omega, by omega⟩, cx_acknowledge r5 (w := w) (m := m) (by omega) ?_ ?_ (Nat.le_refl _) (Nat.le_refl _) (fun S6 r6 k6 => hp S6 r6 (((((k1.tr k2).tr k3).tr k4).tr k5).tr k6))⟩)⟩)⟩
      · exact (tt_vL (by omega)).mpr hm
      · have el : tl (tt_rm (tt_nm (tt_I (tt_br (tt_I T 3 7 w (ti T 1 1 b)) b 1 (ti T 1 1 b)) 1 5 b (nI w)) m) w m) 3 = tl T 3 := tt_lL (by omega)
        exact Nat.le_trans (Nat.le_of_eq (congrArg List.length el)) hn
    · have hc : tt_ca T 1 (ti T 1 1 b) ≤ 40000 := tt_ca_le h
      rw [if_neg (fun z => e (by rw [show tt_ct (tt_at T 1 (ti T 1 1 b)) (tl T 1).length = 0 from z.2]; decide))] at hp
      exact hp S h tx_K.rf
    · rw [if_neg (fun z => d z.1)] at hp
      exact hp S h tx_K.rf
  · rw [if_neg c] at hp
    exact ⟨h.xL, 1, 610, ⟨by omega, by omega⟩, cx_acknowledge h (w := w) (by omega) hm hn (Nat.le_refl _) (Nat.le_refl _) hp⟩
theorem cx_handOver (h : tx_R t0 S G T) (hg : tt_g T) (hh : tt_h T) {w m b : Nat} (hw : w < 8) (hm : tt_v T 2 m) (hb : tr T 2 2 m = b + 1) (hbv : tt_v T 1 b) (hn : (tl T 3).length ≤ 400) (hr : (tl T (14 + w)).length ≤ 400) (hmc : 5 ≤ mc) (hms : 1238 ≤ ms) {post : Int32 → qs_S → Prop} {px : String → qs_S → Prop} (hp : ∀ S', tx_R t0 S' G (tt_ho T w m b).2 → tx_K t0 S S' → post (tt_ho T w m b).1 S') : wp_X6_handOver t0 m9 mc ms post px S (G 6 0) (G 3 w) (G 2 m) := by
  unfold tt_ho at hp
  refine ⟨h.AW hw, h.rI (tt_v3 hw) ⟨fun c => ?_, fun c v47 e47 v48 e48 => ?_⟩⟩
  · rw [if_neg (Int32.not_lt.mpr c)] at hp
    refine h.rI (tt_v3 hw) ⟨fun d => ?_, fun d => ?_⟩
    · rw [if_pos d] at hp
      have hl := h.len (j := 14 + w) (by omega)
      refine ⟨_, h.rm hw, cx_indexOf h (by omega) tt_lcr hm (fun hmem => ⟨fun z => absurd z (ps_ne1 (by have := List.idxOf_lt_length_iff.mpr hmem; omega)), fun _ => ?_⟩) (fun hmem => ⟨fun _ => ?_, fun z => absurd rfl z⟩)⟩
      · rw [if_pos hmem] at hp
        exact ⟨h.xL, 1, 610, ⟨by omega, by omega⟩, cx_acknowledge h hw hm hn (Nat.le_refl _) (Nat.le_refl _) hp⟩
      · rw [if_neg hmem] at hp
        refine ⟨h.AW hw, h.rI (tt_v3 hw) ?_⟩
        rw [hh.1 w hw]
        refine ⟨fun e => h.rI (tt_v3 hw) ⟨h.xL, 1, 6, ⟨by omega, by omega⟩, ?_⟩, fun e => h.rI (tt_v3 hw) ⟨h.xL, 1, 6, ⟨by omega, by omega⟩, ?_⟩⟩
        · rw [hh.1 w hw]
          refine cx_truckNumbered h hg (Nat.le_refl _) (Nat.le_refl _) (fun w' h4' h8' e' => ⟨_, rfl, h.AT h4' h8', ?_⟩) (fun z => absurd rfl (z w ((nI_leI (a := 4) (by decide) (by omega)).mp e) hw))
          have ew : w = w' := (nI_eq (by omega) (by omega)).mp e'
          subst ew
          rw [if_neg (by omega)] at hp
          obtain ⟨r2, k2⟩ := h.wR (f := 3) (i := w) (k := 7) (n := m + 1) (v := some (G 2 m)) (tt_v3 hw) (tt_b37t (by omega)) (by decide) (by
            have e : tt_e G (tt_R T 3 7 w (m + 1)) 3 7 w = tt_o (G 2) (tr (tt_R T 3 7 w (m + 1)) 3 7 w) := rfl
            rw [e, show tr (tt_R T 3 7 w (m + 1)) 3 7 w = m + 1 from if_pos ⟨rfl, rfl, rfl⟩]
            rfl) (by decide)
          exact hp _ r2 k2
        · rw [hh.1 w hw]
          have hw4 : w < 4 := by
            rcases Nat.lt_or_ge w 4 with z | z
            · exact z
            · exact absurd (nI_le (a := 4) z (by omega)) e
          refine cx_craneNumbered h hg (Nat.le_refl _) (Nat.le_refl _) (fun w' h4' e' => ⟨_, rfl, h.xL, 4, 1232, ⟨by omega, by omega⟩, ?_⟩) (fun z => absurd rfl (z w hw4))
          have ew : w = w' := (nI_eq (by omega) (by omega)).mp e'
          subst ew
          rw [if_pos hw4] at hp
          exact cx_lift h hg hh hw4 hm hb hbv hn hr (Nat.le_refl _) (Nat.le_refl _) hp
    · rw [if_neg d] at hp
      exact hp S h tx_K.rf
  · rw [if_pos (Int32.not_le.mp c)] at hp
    have e47' : v47 = ti T 3 3 w := e47.trans (h.I (tt_v3 hw) (by decide) rfl)
    obtain ⟨r1, k1⟩ := h.wI (f := 3) (i := w) (k := 3) (v := v48) (tt_v3 hw) rfl (by decide)
    rw [e48, e47'] at r1 k1
    rw [e48, e47']
    exact hp _ r1 k1
end TXO
