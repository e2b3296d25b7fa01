/-! ===== what the reference's private methods read, in the class's numbers ===== -/
def tt_bi (b : Bool) : Int32 := if b = true then 1 else 0
theorem tt_bi01 {b : Bool} : tt_bi b = 0 ∨ tt_bi b = 1 := by
  cases b
  · exact Or.inl rfl
  · exact Or.inr rfl
theorem tt_bi0 {b : Bool} (h : tt_bi b = 0) : b = false := by
  cases b
  · rfl
  · exact absurd h (by decide)
theorem tt_bi1 {b : Bool} (h : ¬ tt_bi b = 0) : b = true := by
  cases b
  · exact absurd rfl h
  · rfl
def tt_an (p : Nat → Bool) : Nat → Bool
  | 0 => false
  | n + 1 => tt_an p n || p n
theorem tt_an_iff {p : Nat → Bool} : ∀ n, tt_an p n = true ↔ ∃ i, i < n ∧ p i = true
  | 0 => ⟨fun h => absurd (show false = true from h) (by decide), fun ⟨_, h, _⟩ => absurd h (Nat.not_lt_zero _)⟩
  | n + 1 => by
    show (tt_an p n || p n) = true ↔ _
    rw [Bool.or_eq_true, tt_an_iff n]
    constructor
    · rintro (⟨i, hi, h⟩ | h)
      · exact ⟨i, by omega, h⟩
      · exact ⟨n, by omega, h⟩
    · rintro ⟨i, hi, h⟩
      by_cases c : i = n
      · exact Or.inr (c ▸ h)
      · exact Or.inl ⟨i, by omega, h⟩
theorem tt_ct_an {p : Nat → Bool} : ∀ n, tt_ct p n = 0 ↔ tt_an p n = false
  | 0 => ⟨fun _ => rfl, fun _ => rfl⟩
  | n + 1 => by
    have ih := tt_ct_an (p := p) n
    show tt_ct p n + (if p n = true then 1 else 0) = 0 ↔ (tt_an p n || p n) = false
    cases h : p n
    · rw [if_neg (by decide), Bool.or_false]
      exact ih
    · rw [if_pos rfl, Bool.or_true]
      constructor
      · intro z; omega
      · intro z; cases z
theorem tt_an_congr {p q : Nat → Bool} : ∀ n, (∀ i, i < n → p i = q i) → tt_an p n = tt_an q n
  | 0, _ => rfl
  | n + 1, h => by
    show (tt_an p n || p n) = (tt_an q n || q n)
    rw [tt_an_congr n (fun i hi => h i (by omega)), h n (by omega)]
theorem ps_lt1 {x : Int32} : x < 1 ↔ x ≤ 0 := by
  rw [Int32.lt_iff_toInt_lt, Int32.le_iff_toInt_le]
  show x.toInt < 1 ↔ x.toInt ≤ 0
  omega
section TYR
variable {t0 m9 y c : Nat} {S : qs_S} {T : tt_T} {H : Nat → Nat} {M : mm_M} {post : Int32 → qs_S → Prop}
theorem cy_in {v lo hi : Int32} (h1 : ¬ v < lo → ¬ hi < v → post 1 S) (h0 : v < lo ∨ hi < v → post 0 S) : wp_X7_in t0 m9 post S v lo hi :=
  ⟨fun z => ⟨Or.inl rfl, h0 (Or.inl z)⟩, fun z => ⟨fun w => ⟨Or.inl rfl, h0 (Or.inr w)⟩, fun w => ⟨Or.inr rfl, h1 z w⟩⟩⟩
theorem cy_inx {v hi : Int32} {n : Nat} (hn : n < 2 ^ 31) (e : hi = nI n - 1) (h1 : ∀ i, i < n → v = nI i → post 1 S) (h0 : tt_ix v n = 0 → post 0 S) : wp_X7_in t0 m9 post S v 0 hi := by
  refine cy_in (fun z w => ?_) (fun z => h0 (tt_ix_out hn (fun i hi ei => ?_)))
  · obtain ⟨j, hj, ej⟩ := nI_of z
    refine h1 j ?_ ej
    cases n with
    | zero =>
      exfalso
      refine w ?_
      rw [e, ej]
      have : (nI 0 - 1 : Int32) < 0 := by decide
      exact Int32.lt_of_lt_of_le this (nI_pos' hj)
    | succ k =>
      rw [e, ej, nI_pred] at w
      rcases Nat.lt_or_ge j (k + 1) with q | q
      · exact q
      · exact absurd (nI_lt (a := k) (b := j) (by omega) hj) w
  · rcases z with z | z
    · rw [ei] at z
      exact nI_pos (by omega) z
    · cases n with
      | zero => exact absurd hi (Nat.not_lt_zero _)
      | succ k =>
        rw [e, ei, nI_pred] at z
        have := (nI_ltI (by omega) (by omega)).mp z
        omega
theorem cy_isCrane {v : Int32} (h1 : ∀ i, i < 4 → v = nI i → post 1 S) (h0 : tt_ix v 4 = 0 → post 0 S) : wp_X7_isCrane t0 m9 post S v := cy_inx (n := 4) (by decide) rfl (fun i hi e => ⟨Or.inr rfl, h1 i hi e⟩) (fun z => ⟨Or.inl rfl, h0 z⟩)
theorem cy_isWorker {v : Int32} (h1 : ∀ i, i < 8 → v = nI i → post 1 S) (h0 : tt_ix v 8 = 0 → post 0 S) : wp_X7_isWorker t0 m9 post S v := cy_inx (n := 8) (by decide) rfl (fun i hi e => ⟨Or.inr rfl, h1 i hi e⟩) (fun z => ⟨Or.inl rfl, h0 z⟩)
theorem cy_isPlace {v : Int32} (h1 : ∀ i, i < 16 → v = nI i → post 1 S) (h0 : (v < 0 ∨ ¬ v < 16) → post 0 S) : wp_X7_isPlace t0 m9 post S v := cy_inx (n := 16) (by decide) rfl (fun i hi e => ⟨Or.inr rfl, h1 i hi e⟩) (fun z => ⟨Or.inl rfl, h0 (by
  unfold tt_ix at z
  by_cases q : v < 0 ∨ ¬ v < nI 16
  · exact q
  · rw [if_neg q] at z
    omega)⟩)
/-- is it a truck -/
theorem cy_isTruck {v : Int32} (h1 : ∀ w, 4 ≤ w → w < 8 → v = nI w → post 1 S) (h0 : tt_tx v = 0 → post 0 S) : wp_X7_in t0 m9 post S v 4 7 := by
  refine cy_in (fun z w => ?_) (fun z => h0 (tt_tx_out (fun w h4 h8 e => ?_)))
  · have z4 : ¬ v.toInt < 4 := fun q => z (Int32.lt_iff_toInt_lt.mpr q)
    have w7 : ¬ 7 < v.toInt := fun q => w (Int32.lt_iff_toInt_lt.mpr q)
    obtain ⟨i, hi, e⟩ := ps_sm (x := v) (n := 8) (by decide) (fun q => z4 (by have := Int32.lt_iff_toInt_lt.mp q; simp at this; omega)) (Int32.lt_iff_toInt_lt.mpr (by show v.toInt < 8; omega))
    refine h1 i ?_ hi e
    rw [e, nI_toInt (by omega)] at z4
    omega
  · rw [e] at z
    rcases z with z | z
    · exact nI_nlt (b := 4) h4 (by omega) z
    · have := (nI_ltI (a := 7) (by decide) (by omega)).mp z
      omega
theorem sm.len (I : iv T c) : (tl T 0).length ≤ 10 ∧ (tl T 1).length ≤ 24 ∧ (tl T 2).length ≤ 80 := I.n
theorem cy_isBox (h : tx_M S y H M) (s : sm T M) (I : iv T c) {v : Int32} (h1 : ∀ i, i < (tl T 1).length → v = nI i → post 1 S) (h0 : tt_ix v (tl T 1).length = 0 → post 0 S) : wp_X7_isBox t0 m9 post S y v := by
  have := I.n.2.1
  exact ⟨h.y7, h.rI (fun v4 e4 => cy_inx (n := (tl T 1).length) (by omega) (by rw [e4, s.i.2.2.1]) (fun i hi e => ⟨Or.inr rfl, h1 i hi e⟩) (fun z => ⟨Or.inl rfl, h0 z⟩))⟩
theorem cy_isShip (h : tx_M S y H M) (s : sm T M) (I : iv T c) {v : Int32} (h1 : ∀ i, i < (tl T 0).length → v = nI i → ti T 0 2 i = 0 → post 1 S) (h0 : (∀ i, i < (tl T 0).length → v = nI i → ti T 0 2 i ≠ 0) → post 0 S) : wp_X7_isShip t0 m9 post S y v := by
  have hl := I.n.1
  refine ⟨h.y7, h.rI (fun v5 e5 => cy_inx (n := (tl T 0).length) (by omega) (by rw [e5, s.i.2.1]) (fun i hi e => ⟨fun z => absurd z (by decide), fun _ => ⟨h.y7, ?_⟩⟩) (fun z => ⟨fun _ => ⟨Or.inl rfl, h0 (fun i hi e => ?_)⟩, fun y => absurd rfl y⟩))⟩
  · refine h.rA (k := 5) (i := i) e ?_ (by show i < 10; omega)
    rw [(s.s i hi).2.2]
    refine ⟨fun z => ⟨Or.inl rfl, h0 (fun i' hi' e' => ?_)⟩, fun z => ⟨Or.inr rfl, h1 i hi e z⟩⟩
    have : i = i' := (nI_eq (by omega) (by omega)).mp (e.symm.trans e')
    rw [← this]
    exact z
  · rw [e, tt_ix_in hi (by omega)] at z
    omega
def tt_fr (T : tt_T) (p e : Int32) (i : Nat) : Bool := decide (ti T 0 2 i = 0 ∧ ti T 0 0 i < e ∧ p < ti T 0 1 i)
theorem tt_isTk_an {T : tt_T} {p e : Int32} : tt_isTk T p e = tt_an (tt_fr T p e) (tl T 0).length := by
  have a : tt_an (tt_fr T p e) (tl T 0).length = true ↔ tt_isTk T p e = true := by
    rw [tt_an_iff, tt_isTk_iff]
    unfold tt_fr tt_tk
    constructor
    · rintro ⟨i, hi, h⟩
      exact ⟨i, hi, of_decide_eq_true h⟩
    · rintro ⟨i, hi, h⟩
      exact ⟨i, hi, decide_eq_true h⟩
  cases h1 : tt_isTk T p e <;> cases h2 : tt_an (tt_fr T p e) (tl T 0).length
  · rfl
  · rw [h1, h2] at a; exact absurd (a.mp rfl) (by decide)
  · rw [h1, h2] at a; exact absurd (a.mpr rfl) (by decide)
  · rfl
theorem cy_isFreeL (h : tx_M S y H M) (s : sm T M) (I : iv T c) {p l : Int32} (hp : post (tt_bi (!tt_isTk T p (p + l))) S) : ∀ (k i : Nat), i + k = (tl T 0).length → wp_X7_isFree_b5 t0 m9 post (k + 1) S y p l (tt_bi (!tt_an (tt_fr T p (p + l)) i)) (nI i) := by
  have hl := I.n.1
  intro k
  induction k with
  | zero =>
    intro i hi
    have hi' : i = (tl T 0).length := hi
    subst hi'
    refine ⟨h.y7, h.rI ?_⟩
    rw [s.i.2.1]
    refine ⟨fun _ => ⟨tt_bi01, ?_⟩, fun z => absurd (nI_le (Nat.le_refl _) (by omega)) z⟩
    rw [← tt_isTk_an]
    exact hp
  | succ k ih =>
    intro i hi
    have hlt : i < (tl T 0).length := by omega
    have nx : ∀ b : Bool, (!tt_an (tt_fr T p (p + l)) (i + 1)) = b → ∀ v : Int32, v = nI i + 1 → wp_X7_isFree_b5 t0 m9 post (k + 1) S y p l (tt_bi b) v := by
      intro b eb v e
      rw [e, nI_1, ← eb]
      exact ih (i + 1) (by omega)
    have es : tt_an (tt_fr T p (p + l)) (i + 1) = (tt_an (tt_fr T p (p + l)) i || tt_fr T p (p + l) i) := rfl
    refine ⟨h.y7, h.rI ?_⟩
    rw [s.i.2.1]
    refine ⟨fun z => absurd z (nI_ge hlt (by omega)), fun _ => ⟨fun z => ?_, fun z => ?_⟩⟩
    · refine nx false ?_
      have := tt_bi0 z
      rw [es]
      cases h1 : tt_an (tt_fr T p (p + l)) i
      · rw [h1] at this; exact absurd this (by decide)
      · rfl
    · have h1 : tt_an (tt_fr T p (p + l)) i = false := by
        have := tt_bi1 z
        cases h1 : tt_an (tt_fr T p (p + l)) i
        · rfl
        · rw [h1] at this; exact absurd this (by decide)
      have yes : tt_fr T p (p + l) i = true → (!tt_an (tt_fr T p (p + l)) (i + 1)) = false := fun q => by rw [es, q, Bool.or_true]; rfl
      have no : ¬ (ti T 0 2 i = 0 ∧ ti T 0 0 i < p + l ∧ p < ti T 0 1 i) → (!tt_an (tt_fr T p (p + l)) (i + 1)) = true := fun q => by rw [es, h1, show tt_fr T p (p + l) i = false from decide_eq_false q]; rfl
      have i10 : i < 10 := by omega
      obtain ⟨s1, s2, s3⟩ := s.s i hlt
      refine h.rA (k := 5) (i := i) rfl ?_ i10
      rw [s3]
      refine ⟨fun q => nx true (no (fun r => q r.1)), fun q1 => h.rA (k := 3) (i := i) rfl (fun v19 e19 => ?_) i10⟩
      rw [e19, s1]
      refine ⟨fun q => nx true (no (fun r => (Int32.not_le.mpr r.2.1) q)), fun q2 => h.rA (k := 3) (i := i) rfl (h.rA (k := 4) (i := i) rfl (fun v31 e31 => ?_) i10) i10⟩
      rw [e31, s2]
      exact ⟨fun q => nx false (yes (decide_eq_true ⟨q1, Int32.not_le.mp q2, q⟩)), fun q => nx true (no (fun r => q r.2.2))⟩
theorem cy_isFree (h : tx_M S y H M) (s : sm T M) (I : iv T c) {p l : Int32} (hp : post (tt_bi (!tt_isTk T p (p + l))) S) : wp_X7_isFree t0 m9 post S y p l := ⟨(tl T 0).length + 1, cy_isFreeL h s I hp _ 0 (Nat.zero_add _)⟩
theorem cy_isTakenL (h : tx_M S y H M) (s : sm T M) (I : iv T c) {p : Int32} (hp : post (tt_bi (tt_an (tt_at T 1 p) (tl T 1).length)) S) : ∀ (k i : Nat), i + k = (tl T 1).length → wp_X7_isTaken_b4 t0 m9 post (k + 1) S y p (tt_bi (tt_an (tt_at T 1 p) i)) (nI i) := by
  have hl := I.n.2.1
  intro k
  induction k with
  | zero =>
    intro i hi
    have hi' : i = (tl T 1).length := hi
    subst hi'
    refine ⟨h.y7, h.rI ?_⟩
    rw [s.i.2.2.1]
    exact ⟨fun _ => ⟨tt_bi01, hp⟩, fun z => absurd (nI_le (Nat.le_refl _) (by omega)) z⟩
  | succ k ih =>
    intro i hi
    have hlt : i < (tl T 1).length := by omega
    have nx : ∀ b : Bool, tt_an (tt_at T 1 p) (i + 1) = b → ∀ v : Int32, v = nI i + 1 → wp_X7_isTaken_b4 t0 m9 post (k + 1) S y p (tt_bi b) v := by
      intro b eb v e
      rw [e, nI_1, ← eb]
      exact ih (i + 1) (by omega)
    have es : tt_an (tt_at T 1 p) (i + 1) = (tt_an (tt_at T 1 p) i || tt_at T 1 p i) := rfl
    refine ⟨h.y7, h.rI ?_⟩
    rw [s.i.2.2.1]
    refine ⟨fun z => absurd z (nI_ge hlt (by omega)), fun _ => ⟨fun z => nx true (by rw [es, tt_bi1 z]; rfl), fun z => ?_⟩⟩
    have i24 : i < 24 := by omega
    have sb := s.b i hlt
    have no : ¬ (ti T 1 2 i = 1 ∧ ti T 1 3 i = p) → tt_an (tt_at T 1 p) (i + 1) = false := fun q => by rw [es, tt_bi0 z, show tt_at T 1 p i = false from decide_eq_false q]; rfl
    refine h.rA (k := 9) (i := i) rfl ?_ i24
    rw [sb.2.2.1]
    refine ⟨fun q => nx false (no (fun r => q r.1)), fun q1 => h.rA (k := 8) (i := i) rfl ?_ i24⟩
    rw [sb.2.1, ← (I.b i hlt).2.2.1 (Or.inr q1)]
    exact ⟨fun q => nx false (no (fun r => q r.2)), fun q => nx true (by rw [es, show tt_at T 1 p i = true from decide_eq_true ⟨q1, q⟩, Bool.or_true])⟩
theorem cy_isTaken (h : tx_M S y H M) (s : sm T M) (I : iv T c) {p : Int32} (h0 : tt_ca T 1 p = 0 → post 0 S) (h1 : ¬ tt_ca T 1 p = 0 → post 1 S) : wp_X7_isTaken t0 m9 post S y p := by
  refine ⟨(tl T 1).length + 1, cy_isTakenL h s I ?_ _ 0 (Nat.zero_add _)⟩
  cases q : tt_an (tt_at T 1 p) (tl T 1).length
  · exact h0 ((tt_ct_an _).mpr q)
  · exact h1 (fun z => by rw [(tt_ct_an _).mp z] at q; exact absurd q (by decide))
theorem cy_isEmptyL (h : tx_M S y H M) (s : sm T M) (I : iv T c) {p : Int32} (hp : post (tt_bi (!tt_an (tt_at T 2 p) (tl T 1).length)) S) : ∀ (k i : Nat), i + k = (tl T 1).length → wp_X7_isEmpty_b4 t0 m9 post (k + 1) S y p (tt_bi (!tt_an (tt_at T 2 p) i)) (nI i) := by
  have hl := I.n.2.1
  intro k
  induction k with
  | zero =>
    intro i hi
    have hi' : i = (tl T 1).length := hi
    subst hi'
    refine ⟨h.y7, h.rI ?_⟩
    rw [s.i.2.2.1]
    exact ⟨fun _ => ⟨tt_bi01, hp⟩, fun z => absurd (nI_le (Nat.le_refl _) (by omega)) z⟩
  | succ k ih =>
    intro i hi
    have hlt : i < (tl T 1).length := by omega
    have nx : ∀ b : Bool, (!tt_an (tt_at T 2 p) (i + 1)) = b → ∀ v : Int32, v = nI i + 1 → wp_X7_isEmpty_b4 t0 m9 post (k + 1) S y p (tt_bi b) v := by
      intro b eb v e
      rw [e, nI_1, ← eb]
      exact ih (i + 1) (by omega)
    have es : tt_an (tt_at T 2 p) (i + 1) = (tt_an (tt_at T 2 p) i || tt_at T 2 p i) := rfl
    refine ⟨h.y7, h.rI ?_⟩
    rw [s.i.2.2.1]
    refine ⟨fun z => absurd z (nI_ge hlt (by omega)), fun _ => ⟨fun z => nx false ?_, fun z => ?_⟩⟩
    · have := tt_bi0 z
      rw [es]
      cases h1 : tt_an (tt_at T 2 p) i
      · rw [h1] at this; exact absurd this (by decide)
      · rfl
    have h1 : tt_an (tt_at T 2 p) i = false := by
      have := tt_bi1 z
      cases h1 : tt_an (tt_at T 2 p) i
      · rfl
      · rw [h1] at this; exact absurd this (by decide)
    have i24 : i < 24 := by omega
    have sb := s.b i hlt
    have no : ¬ (ti T 1 2 i = 2 ∧ ti T 1 3 i = p) → (!tt_an (tt_at T 2 p) (i + 1)) = true := fun q => by rw [es, h1, show tt_at T 2 p i = false from decide_eq_false q]; rfl
    refine h.rA (k := 9) (i := i) rfl ?_ i24
    rw [sb.2.2.1]
    refine ⟨fun q => nx true (no (fun r => q r.1)), fun q1 => h.rA (k := 10) (i := i) rfl ?_ i24⟩
    rw [sb.2.2.2.1 (by rw [q1]; decide) (by rw [q1]; decide)]
    exact ⟨fun q => nx false (by rw [es, show tt_at T 2 p i = true from decide_eq_true ⟨q1, q⟩, Bool.or_true]; rfl), fun q => nx true (no (fun r => q r.2))⟩
theorem cy_isEmpty (h : tx_M S y H M) (s : sm T M) (I : iv T c) {p : Int32} (h0 : tt_ca T 2 p = 0 → post 1 S) (h1 : ¬ tt_ca T 2 p = 0 → post 0 S) : wp_X7_isEmpty t0 m9 post S y p := by
  refine ⟨(tl T 1).length + 1, cy_isEmptyL h s I ?_ _ 0 (Nat.zero_add _)⟩
  cases q : tt_an (tt_at T 2 p) (tl T 1).length
  · exact h0 ((tt_ct_an _).mpr q)
  · exact h1 (fun z => by rw [(tt_ct_an _).mp z] at q; exact absurd q (by decide))
theorem cy_canGo (h : tx_M S y H M) (s : sm T M) {cr : Nat} (hc : cr < 4) {p : Int32} (h1 : tt_go T cr p → post 1 S) (h0 : ¬ tt_go T cr p → post 0 S) : wp_X7_canGo t0 m9 post S y (nI cr) p := by
  have b16 : (cr = 0 ∨ ti T 3 7 (cr - 1) < p) → wp_X7_canGo_b16 t0 m9 post S y (nI cr) p := by
    intro hl
    refine ⟨fun z => ⟨Or.inr rfl, h1 ⟨hl, Or.inl ((nI_eq (b := 3) (by omega) (by decide)).mp z)⟩⟩, fun z => ⟨h.y7, _, h.ar 16, fun v6 e6 => ?_⟩⟩
    have c3 : cr ≠ 3 := fun q => z (by rw [q]; rfl)
    refine h.rB (k := 16) (i := cr + 1) (by rw [e6]; exact nI_1 cr) ?_ (by show cr + 1 < 4; omega)
    rw [(s.w (cr + 1) (by omega)).1 (by omega)]
    exact ⟨fun q => ⟨Or.inl rfl, h0 (fun r => r.2.elim c3 (fun r => (Int32.not_le.mpr r) q))⟩, fun q => ⟨Or.inr rfl, h1 ⟨hl, Or.inr (Int32.not_le.mp q)⟩⟩⟩
  refine ⟨fun z => b16 (Or.inl ((nI_eq (b := 0) (by omega) (by decide)).mp z)), fun z => ⟨h.y7, _, h.ar 16, fun v16 e16 => ?_⟩⟩
  have c0 : cr ≠ 0 := fun q => z (by rw [q]; rfl)
  refine h.rB (k := 16) (i := cr - 1) (by rw [e16]; exact pk_sub (b := 1) (by omega)) ?_ (by show cr - 1 < 4; omega)
  rw [(s.w (cr - 1) (by omega)).1 (by omega)]
  exact ⟨fun q => ⟨Or.inl rfl, h0 (fun r => r.1.elim c0 (fun r => (Int32.not_le.mpr r) q))⟩, fun q => b16 (Or.inr (Int32.not_le.mp q))⟩
theorem cy_isUppermost (h : tx_M S y H M) (s : sm T M) (I : iv T c) {b : Nat} (hb : b < (tl T 1).length) (h1 : ti T 1 2 b = 3 ∧ ti T 1 4 b = nI (tt_ca T 3 (ti T 1 3 b)) - 1 → post 1 S) (h0 : ¬ (ti T 1 2 b = 3 ∧ ti T 1 4 b = nI (tt_ca T 3 (ti T 1 3 b)) - 1) → post 0 S) : wp_X7_isUppermost t0 m9 post S y (nI b) := by
  have hl := I.n.2.1
  have b24 : b < 24 := by omega
  have sb := s.b b hb
  refine ⟨h.y7, h.rA (k := 9) (i := b) rfl ?_ b24⟩
  rw [sb.2.2.1]
  refine ⟨fun q => ⟨Or.inl rfl, h0 (fun r => q r.1)⟩, fun q1 => h.rA (k := 15) (i := b) rfl ⟨_, h.ar 14, h.rA (k := 10) (i := b) rfl ?_ b24⟩ b24⟩
  obtain ⟨st, hst, est⟩ := (I.b b hb).2.2.2.1 q1
  rw [sb.2.2.2.1 (by rw [q1]; decide) (by rw [q1]; decide)]
  refine h.rB (k := 14) (i := st) est (fun v25 e25 => ?_) hst
  rw [e25, s.h st hst, sb.2.2.2.2.2.2.2 q1, ← est]
  exact ⟨fun q => ⟨Or.inl rfl, h0 (fun r => q r.2)⟩, fun q => ⟨Or.inr rfl, h1 ⟨q1, q⟩⟩⟩
theorem cy_slotsForL (h : tx_M S y H M) (si : mi M 6 = nI (tl T 1).length) (sb : sm_b T M) (hl : (tl T 1).length ≤ 24) {g ho : Int32} (hh : ho ≠ -1) (hp : post (tt_sl T g ho) S) : ∀ (k i : Nat), i + k = (tl T 1).length → wp_X7_slotsFor_b5 t0 m9 post (k + 1) S y g ho (2 - nI (tt_ct (tt_bk T g ho) i)) (nI i) := by
  intro k
  induction k with
  | zero =>
    intro i hi
    have hi' : i = (tl T 1).length := hi
    subst hi'
    refine ⟨h.y7, h.rI ?_⟩
    rw [si]
    exact ⟨fun _ => hp, fun z => absurd (nI_le (Nat.le_refl _) (by omega)) z⟩
  | succ k ih =>
    intro i hi
    have hlt : i < (tl T 1).length := by omega
    have es : tt_ct (tt_bk T g ho) (i + 1) = tt_ct (tt_bk T g ho) i + (if tt_bk T g ho i = true then 1 else 0) := rfl
    have no : ¬ (ti T 1 6 i = g ∧ ti T 1 7 i = ho) → wp_X7_slotsFor_b41 t0 m9 post (wp_X7_slotsFor_b5 t0 m9 post (k + 1)) S y g ho (nI i) (2 - nI (tt_ct (tt_bk T g ho) i)) := by
      intro q v1 e1 v2 e2
      have r := ih (i + 1) (by omega)
      rw [es, if_neg (by rw [show tt_bk T g ho i = false from decide_eq_false q]; decide)] at r
      rw [e1, e2, nI_1, Int32.sub_zero]
      exact r
    refine ⟨h.y7, h.rI ?_⟩
    rw [si]
    have i24 : i < 24 := by omega
    have sbi := sb i hlt
    refine ⟨fun z => absurd z (nI_ge hlt (by omega)), fun _ => h.rA (k := 12) (i := i) rfl ?_ i24⟩
    rw [sbi.2.2.2.2.2.1]
    refine ⟨fun q => no (fun r => q r.2), fun q1 => h.rA (k := 13) (i := i) rfl ?_ i24⟩
    rw [sbi.2.2.2.2.2.2.1 (by rw [q1]; exact hh)]
    refine ⟨fun q => no (fun r => q r.1), fun q2 v1 e1 v2 e2 => ?_⟩
    have r := ih (i + 1) (by omega)
    rw [es, if_pos (show tt_bk T g ho i = true from decide_eq_true ⟨q2, q1⟩)] at r
    have e' : v1 = 2 - nI (tt_ct (tt_bk T g ho) i + 1) := by
      rw [e1, nI_succ, Int32.sub_eq_add_neg, Int32.sub_eq_add_neg, Int32.sub_eq_add_neg, Int32.neg_add, Int32.add_assoc, Int32.sub_eq_add_neg]
    rw [e', e2, nI_1]
    exact r
theorem cy_slotsFor (h : tx_M S y H M) (si : mi M 6 = nI (tl T 1).length) (sb : sm_b T M) (hl : (tl T 1).length ≤ 24) {g ho : Int32} (hh : ho ≠ -1) (hp : post (tt_sl T g ho) S) : wp_X7_slotsFor t0 m9 post S y g ho := by
  refine ⟨(tl T 1).length + 1, ?_⟩
  have r := cy_slotsForL (t0 := t0) (m9 := m9) h si sb hl hh hp _ 0 (Nat.zero_add _)
  have e : (2 : Int32) - nI (tt_ct (tt_bk T g ho) 0) = 2 := by
    show (2 : Int32) - nI 0 = 2
    decide +kernel
  rw [e] at r
  exact r
theorem cy_isInL (h : tx_M S y H M) (s : sm T M) (I : iv T c) {w m : Nat} (hw : w < 8) (hm : m < 80) (h1 : m ∈ tl T (6 + w) → post 1 S) (h0 : m ∉ tl T (6 + w) → post 0 S) : ∀ (k i : Nat), i + k = (tl T (6 + w)).length → wp_X7_isIn_b5 t0 m9 post (k + 1) S y (nI w) (nI m) (tt_bi (tt_an (fun j => decide ((tl T (6 + w)).getD j 0 = m)) i)) (nI i) := by
  have hl := I.len (j := 6 + w) (Or.inr (by omega)) (by omega)
  obtain ⟨q1, q2⟩ := s.q w hw
  intro k
  induction k with
  | zero =>
    intro i hi
    have hi' : i = (tl T (6 + w)).length := hi
    subst hi'
    refine ⟨h.y7, h.rA (k := 29) (i := w) rfl ?_ hw⟩
    rw [q1]
    refine ⟨fun _ => ⟨tt_bi01, ?_⟩, fun z => absurd (nI_le (Nat.le_refl _) (by omega)) z⟩
    cases q : tt_an (fun j => decide ((tl T (6 + w)).getD j 0 = m)) (tl T (6 + w)).length
    · refine h0 (fun hmem => ?_)
      obtain ⟨i, hi, e⟩ := List.getElem_of_mem hmem
      have : tt_an (fun j => decide ((tl T (6 + w)).getD j 0 = m)) (tl T (6 + w)).length = true := (tt_an_iff _).mpr ⟨i, hi, decide_eq_true (by rw [List.getD_eq_getElem?_getD, List.getElem?_eq_getElem hi, e]; rfl)⟩
      rw [this] at q
      cases q
    · obtain ⟨i, hi, e⟩ := (tt_an_iff _).mp q
      exact h1 (of_decide_eq_true e ▸ ps_getD_mem hi)
  | succ k ih =>
    intro i hi
    have hlt : i < (tl T (6 + w)).length := by omega
    have es : tt_an (fun j => decide ((tl T (6 + w)).getD j 0 = m)) (i + 1) = (tt_an (fun j => decide ((tl T (6 + w)).getD j 0 = m)) i || decide ((tl T (6 + w)).getD i 0 = m)) := rfl
    have nx : ∀ b : Bool, tt_an (fun j => decide ((tl T (6 + w)).getD j 0 = m)) (i + 1) = b → ∀ v : Int32, v = nI i + 1 → wp_X7_isIn_b5 t0 m9 post (k + 1) S y (nI w) (nI m) (tt_bi b) v := by
      intro b eb v e
      rw [e, nI_1, ← eb]
      exact ih (i + 1) (by omega)
    refine ⟨h.y7, h.rA (k := 29) (i := w) rfl ?_ hw⟩
    rw [q1]
    refine ⟨fun z => absurd z (nI_ge hlt (by omega)), fun _ => ⟨fun z => nx true (by rw [es, tt_bi1 z]; rfl), fun z => ⟨_, h.ar 30, fun v13 e13 v14 e14 => ?_⟩⟩⟩
    have e14' : v14 = nI (80 * w + i) := by
      rw [e14, e13, ← nI_add]
      congr 1
      exact pk_mul 80 w
    refine h.rB (k := 30) (i := 80 * w + i) e14' ?_ (by show 80 * w + i < 640; omega)
    rw [q2 i hlt]
    have hmi := (I.l (6 + w) (Or.inr (by omega)) (by omega)).2 _ (ps_getD_mem hlt)
    have := I.n.2.2
    refine ⟨fun q => nx false ?_, fun q => nx true ?_⟩
    · rw [es, tt_bi0 z, show decide ((tl T (6 + w)).getD i 0 = m) = false from decide_eq_false (fun r => q (by rw [r]))]
      rfl
    · rw [es, show decide ((tl T (6 + w)).getD i 0 = m) = true from decide_eq_true ((nI_eq (by omega) (by omega)).mp q), Bool.or_true]
theorem cy_isIn (h : tx_M S y H M) (s : sm T M) (I : iv T c) {w m : Nat} (hw : w < 8) (hm : m < 80) (h1 : m ∈ tl T (6 + w) → post 1 S) (h0 : m ∉ tl T (6 + w) → post 0 S) : wp_X7_isIn t0 m9 post S y (nI w) (nI m) :=
  ⟨(tl T (6 + w)).length + 1, cy_isInL h s I hw hm h1 h0 _ 0 (Nat.zero_add _)⟩
end TYR
