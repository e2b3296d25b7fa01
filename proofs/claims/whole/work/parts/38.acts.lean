/-! ===== the calls that change things ===== -/
def tt_pl (T : tt_T) (w m : Nat) : tt_T := tt_L T (6 + w) ((tl T (6 + w)).erase m ++ [m])
def tt_N0 (T : tt_T) (j : Nat) (vi : Nat → Int32) (vr : Nat → Nat) : tt_T := (fun f k i => if f = j ∧ i = (tl T j).length then vi k else ti T f k i, fun f k i => if f = j ∧ i = (tl T j).length then vr k else tr T f k i, tl T)
def tt_N (T : tt_T) (j : Nat) (vi : Nat → Int32) (vr : Nat → Nat) : tt_T := tt_L (tt_N0 T j vi vr) j (tl T j ++ [(tl T j).length])
def tt_isTk (T : tt_T) (p e : Int32) : Bool := (List.range (tl T 0).length).any (fun i => decide (ti T 0 2 i = 0 ∧ ti T 0 0 i < e ∧ p < ti T 0 1 i))
theorem tt_isTk_iff {T : tt_T} {p e : Int32} : tt_isTk T p e = true ↔ ∃ i, i < (tl T 0).length ∧ tt_tk T p e i := by
  unfold tt_isTk tt_tk
  rw [List.any_eq_true]
  constructor
  · rintro ⟨i, hi, h⟩
    exact ⟨i, List.mem_range.mp hi, of_decide_eq_true h⟩
  · rintro ⟨i, hi, h⟩
    exact ⟨i, List.mem_range.mpr hi, decide_eq_true h⟩
def tt_sv (p e : Int32) (k : Nat) : Int32 := if k = 0 then p else if k = 1 then e else 0
def tq_berth (T : tt_T) (p l : Int32) : tq_r :=
  if p < 0 ∨ ¬ p < 16 then (1, 0, T) else if l < 1 ∨ 8 < l ∨ ¬ p + l ≤ 16 then (2, 0, T)
  else if 10 ≤ (tl T 0).length ∨ tt_isTk T p (p + l) = true then (3, 0, T) else (0, nI (tl T 0).length, tt_N T 0 (tt_sv p (p + l)) (fun _ => 0))
def tt_bv (p : Int32) (k : Nat) : Int32 := if k = 1 ∨ k = 3 then p else if k = 5 ∨ k = 6 ∨ k = 7 then -1 else 0
def tq_box (T : tt_T) (x p : Int32) : tq_r := match tt_ix x (tl T 0).length with
  | 0 => (1, 0, T)
  | s + 1 => if ti T 0 2 s ≠ 0 then (1, 0, T) else if p < ti T 0 0 s ∨ ¬ p < ti T 0 1 s then (2, 0, T) else if 24 ≤ (tl T 1).length then (3, 0, T)
    else (0, nI (tl T 1).length, tt_N T 1 (tt_bv p) (fun _ => s + 1))
def tt_on (T : tt_T) (s i : Nat) : Bool := decide (tr T 1 0 i = s + 1)
def tt_isOn (T : tt_T) (s : Nat) : Bool := (List.range (tl T 1).length).any (fun i => decide (tr T 1 0 i = s + 1 ∧ ti T 1 2 i = 0))
theorem tt_isOn_iff {T : tt_T} {s : Nat} : tt_isOn T s = true ↔ ∃ i, i < (tl T 1).length ∧ tr T 1 0 i = s + 1 ∧ ti T 1 2 i = 0 := by
  unfold tt_isOn
  rw [List.any_eq_true]
  constructor
  · rintro ⟨i, hi, h⟩
    exact ⟨i, List.mem_range.mp hi, of_decide_eq_true h⟩
  · rintro ⟨i, hi, h⟩
    exact ⟨i, List.mem_range.mpr hi, decide_eq_true h⟩
def tq_leave (T : tt_T) (x : Int32) : tq_r := match tt_ix x (tl T 0).length with
  | 0 => (1, 0, T)
  | s + 1 => if ti T 0 2 s ≠ 0 then (1, 0, T) else if tt_isOn T s = true then (3, 0, T) else (0, nI (tt_ct (tt_on T s) (tl T 1).length), tt_I T 0 2 s 1)
def tt_mv (n : Nat) (k t : Int32) (j : Nat) : Int32 := if j = 0 then nI n else if j = 1 then k else if j = 3 then t else if j = 5 then -1 else 0
def tt_to (k : Int32) : Int32 := if k = 0 then 1 else if k = 1 then 6 else 2
def tt_rv (T : tt_T) (k w : Int32) : Nat := if w = -1 then tt_bs T k 8 else tt_ix w 8
def tt_sd (T : tt_T) (k t : Int32) (b r : Nat) : tt_T := tt_L (tt_N T 2 (tt_mv (tl T 2).length k t) (fun _ => b + 1)) (6 + r) (tl T (6 + r) ++ [(tl T 2).length])
def tq_send (T : tt_T) (k x t w : Int32) : tq_r :=
  if k < 0 ∨ ¬ k ≤ 2 then (2, 0, T) else match tt_ix x (tl T 1).length with
  | 0 => (1, 0, T)
  | b + 1 => if t < 0 ∨ ¬ t < tt_to k then (1, 0, T) else if w ≠ -1 ∧ ¬ tt_isF k w then (1, 0, T)
    else match tt_rv T k w with
      | 0 => (3, 0, T)
      | r + 1 => if 80 ≤ (tl T 2).length then (3, 0, T) else (0, nI (tl T 2).length, tt_sd T k t b r)
def tt_bx (T : tt_T) (m : Nat) : Nat := tr T 2 2 m - 1
def tt_dl (T : tt_T) (w m : Nat) : Int32 × tt_T := if (tt_ho T w m (tt_bx T m)).1 = 4 then tt_ho T w m (tt_bx T m) else ((tt_ho T w m (tt_bx T m)).1, tt_pl (tt_ho T w m (tt_bx T m)).2 w m)
def tq_deliver (T : tt_T) (x : Int32) : tq_r := match tt_ix x 8 with
  | 0 => (1, 0, T)
  | w + 1 => match tl T (6 + w) with
    | [] => (0, 0, T)
    | m :: _ => (0, tt_dl (tt_I T 2 4 m (ti T 2 4 m + 1)) w m)
abbrev tt_nd (T : tt_T) (m b : Nat) : Prop := ti T 1 2 b = 4 ∨ (ti T 2 1 m = 1 ∧ ti T 1 2 b = 3 ∧ ti T 1 3 b = ti T 2 3 m)
abbrev tt_cp (T : tt_T) (m b : Nat) : Prop := if ti T 2 1 m = 1 then tt_ca T 3 (ti T 2 3 m) < 4 else ti T 1 6 b = ti T 2 3 m ∧ ti T 1 7 b = ti T 6 6 0
abbrev tt_tk' (T : tt_T) (w b : Nat) : Prop := (ti T 1 2 b = 1 ∨ (ti T 1 2 b = 3 ∧ ti T 1 4 b = nI (tt_ca T 3 (ti T 1 3 b)) - 1)) ∧ tt_ca T 2 (nI w) = 0
def tt_ac (T : tt_T) (w m b : Nat) : Int32 × tt_T :=
  if tt_nd T m b then tt_fi T w m else if ti T 1 2 b = 2 ∧ ti T 1 3 b = nI w then (if tt_cp T m b then tt_fi (tt_pd T m b) w m else (3, T))
  else if tt_tk' T w b then (7, tt_br T b 2 (nI w)) else (3, T)
def tq_act (T : tt_T) (x : Int32) : tq_r := match tt_tx x with
  | 0 => (1, 0, T)
  | w + 1 => match tr T 3 7 w with
    | 0 => (0, 0, T)
    | m + 1 => (0, tt_ac T w m (tt_bx T m))
def tq_lose (T : tt_T) (x n a : Int32) : tq_r := match tt_ix x 8 with
  | 0 => (1, 0, T)
  | w + 1 => if n < 1 ∨ ¬ n ≤ 9 then (2, 0, T) else if a = 0 then (0, ti T 3 3 w + n, tt_I T 3 3 w (ti T 3 3 w + n)) else (0, ti T 3 4 w + n, tt_I T 3 4 w (ti T 3 4 w + n))
def tt_isQ (T : tt_T) (m : Nat) : Bool := (List.range 8).any (fun w => decide (m ∈ tl T (6 + w)))
theorem tt_isQ_iff {T : tt_T} {m : Nat} : tt_isQ T m = true ↔ ∃ w, w < 8 ∧ m ∈ tl T (6 + w) := by
  unfold tt_isQ
  rw [List.any_eq_true]
  constructor
  · rintro ⟨i, hi, h⟩
    exact ⟨i, List.mem_range.mp hi, of_decide_eq_true h⟩
  · rintro ⟨i, hi, h⟩
    exact ⟨i, List.mem_range.mpr hi, decide_eq_true h⟩
def tq_repeat (T : tt_T) (x : Int32) : tq_r := match tt_ix x 8 with
  | 0 => (1, 0, T)
  | w + 1 => match tr T 3 6 w with
    | 0 => (3, 0, T)
    | m + 1 => if tt_isQ T m = true then (3, 0, T) else (0, nI m, tt_L T (6 + w) (tl T (6 + w) ++ [m]))
def tq_silence (T : tt_T) (x a : Int32) : tq_r := match tt_ix x 4 with
  | 0 => (1, 0, T)
  | c + 1 => (0, ti T 3 5 c, tt_I T 3 5 c a)
def tt_gv (T : tt_T) (c o : Nat) : tt_T := tt_L (tt_L T (6 + o) (tl T (6 + o) ++ tl T (6 + c))) (6 + c) []
def tq_giveAway (T : tt_T) (x y : Int32) : tq_r := match tt_ix x 4 with
  | 0 => (1, 0, T)
  | c + 1 => match tt_ix y 4 with
    | 0 => (1, 0, T)
    | o + 1 => if ti T 3 5 c = 0 ∨ c = o then (3, 0, T) else (0, nI (tl T (6 + c)).length, tt_gv T c o)
def tq_park (T : tt_T) (x p : Int32) : tq_r := match tt_ix x 4 with
  | 0 => (1, 0, T)
  | c + 1 => if p < 0 ∨ ¬ p < 16 then (1, 0, T) else if ti T 3 5 c ≠ 0 ∨ ¬ tt_go T c p then (3, 0, T) else (0, ti T 3 7 c, tt_I T 3 7 c p)
def tt_isC (T : tt_T) (b : Nat) (h : Int32) : Bool := (List.range (tl T 1).length).any (fun i => decide ((ti T 1 2 i = 3 ∧ ti T 1 3 i = ti T 1 3 b) ∧ ((ti T 1 4 b < ti T 1 4 i ∧ (ti T 1 7 i = -1 ∨ h < ti T 1 7 i)) ∨ (ti T 1 4 i < ti T 1 4 b ∧ ti T 1 7 i ≠ -1 ∧ ti T 1 7 i < h))))
theorem tt_isC_iff {T : tt_T} {b : Nat} {h : Int32} : tt_isC T b h = true ↔ ∃ i, i < (tl T 1).length ∧ tt_cb T b h i := by
  unfold tt_isC tt_cb
  rw [List.any_eq_true]
  constructor
  · rintro ⟨i, hi, h⟩
    exact ⟨i, List.mem_range.mp hi, of_decide_eq_true h⟩
  · rintro ⟨i, hi, h⟩
    exact ⟨i, List.mem_range.mpr hi, decide_eq_true h⟩
def tt_sl (T : tt_T) (g h : Int32) : Int32 := 2 - nI (tt_ct (tt_bk T g h) (tl T 1).length)
def tt_bo (T : tt_T) (b : Nat) (g h : Int32) : tt_T := tt_I (tt_I T 1 6 b g) 1 7 b h
def tq_book (T : tt_T) (g h x : Int32) : tq_r :=
  if g < 0 ∨ ¬ g < 2 then (1, 0, T) else match tt_ix x (tl T 1).length with
  | 0 => (1, 0, T)
  | b + 1 => if h < ti T 6 6 0 ∨ ¬ h ≤ ti T 6 6 0 + 24 then (2, 0, T)
    else if ti T 1 2 b = 3 ∧ ti T 1 7 b = -1 ∧ ¬ tt_sl T g h < 1 ∧ tt_isC T b h = false then (0, tt_sl T g h - 1, tt_bo T b g h) else (3, 0, T)
def tq_unbook (T : tt_T) (x : Int32) : tq_r := match tt_ix x (tl T 1).length with
  | 0 => (1, 0, T)
  | b + 1 => if ti T 1 7 b = -1 then (3, 0, T) else (0, ti T 1 7 b, tt_db T b)
/-- the first n boxes' bookings that are over are dropped; how many -/
def tt_ad (T : tt_T) : Nat → Nat × tt_T
  | 0 => (0, T)
  | n + 1 => if ti (tt_ad T n).2 1 7 n ≠ -1 ∧ ti (tt_ad T n).2 1 7 n < ti (tt_ad T n).2 6 6 0 then ((tt_ad T n).1 + 1, tt_db (tt_ad T n).2 n) else tt_ad T n
def tt_h1 (T : tt_T) (n : Int32) : tt_T := tt_I T 6 6 0 (ti T 6 6 0 + n)
def tq_advance (T : tt_T) (n : Int32) : tq_r :=
  if n < 1 ∨ ¬ n ≤ 48 then (2, 0, T) else if ¬ ti T 6 6 0 + n ≤ 5000 then (3, 0, T) else (0, nI (tt_ad (tt_h1 T n) (tl T 1).length).1, (tt_ad (tt_h1 T n) (tl T 1).length).2)
theorem tt_ad_l {T : tt_T} : ∀ n j, tl (tt_ad T n).2 j = tl T j
  | 0, _ => rfl
  | n + 1, j => by
    unfold tt_ad
    split
    · exact tt_ad_l n j
    · exact tt_ad_l n j
theorem tt_ad_1 {T : tt_T} : ∀ n, (tt_ad T n).1 ≤ n
  | 0 => Nat.le_refl 0
  | n + 1 => by
    have := tt_ad_1 (T := T) n
    unfold tt_ad
    split
    · exact Nat.succ_le_succ this
    · exact Nat.le_succ_of_le this
section TXA
variable {t0 m9 mc ms c : Nat} {S : qs_S} {G : Nat → Nat → Nat} {T : tt_T} {post : Int32 → qs_S → Prop} {px : String → qs_S → Prop}
theorem cq_lose (h : tx_R t0 S G T) (I : iv T c) (hmc : 100 ≤ mc) (hms : 10500 ≤ ms) {x n a : Int32} (hp : tx_H post px t0 S (G 6 0) (tq_lose T x n a)) : wp_X6_lose t0 m9 mc ms post px S (G 6 0) x n a := by
  unfold tq_lose at hp
  refine ⟨h.xL, 1, 6, ⟨by omega, by omega⟩, cx_workerNumbered h I.g (Nat.le_refl _) (Nat.le_refl _) (fun w hw e => ⟨_, rfl, ?_⟩) (fun z => ?_)⟩
  · rw [e, tt_ix_in hw (by decide)] at hp
    simp only at hp
    refine ⟨fun z => ⟨⟨by omega, by omega⟩, ?_⟩, fun z => ⟨fun y => ⟨fun q => ⟨h.AW hw, h.rI (tt_v3 hw) (fun v e => ?_)⟩, fun q => ⟨h.AW hw, h.rI (tt_v3 hw) (fun v e => ?_)⟩⟩, fun y => ⟨⟨by omega, by omega⟩, ?_⟩⟩⟩
    · rw [if_pos (Or.inl z)] at hp
      exact hp.e2
    · rw [if_neg (fun r => r.elim z (fun r => r y)), if_pos q] at hp
      obtain ⟨r1, k1⟩ := h.wI (f := 3) (i := w) (k := 3) (v := v) (tt_v3 hw) rfl (by decide)
      have e1 := r1.I (f := 3) (i := w) (k := 3) (tt_v3 hw) (by decide) rfl
      have e2 : ti (tt_I T 3 3 w v) 3 3 w = v := if_pos ⟨rfl, rfl, rfl⟩
      intro v16 e16
      rw [e16, e1, e2]
      rw [e] at r1 k1 ⊢
      exact hp.ok r1 rfl k1
    · rw [if_neg (fun r => r.elim z (fun r => r y)), if_neg q] at hp
      obtain ⟨r1, k1⟩ := h.wI (f := 3) (i := w) (k := 4) (v := v) (tt_v3 hw) rfl (by decide)
      have e1 := r1.I (f := 3) (i := w) (k := 4) (tt_v3 hw) (by decide) rfl
      have e2 : ti (tt_I T 3 4 w v) 3 4 w = v := if_pos ⟨rfl, rfl, rfl⟩
      intro v16 e16
      rw [e16, e1, e2]
      rw [e] at r1 k1 ⊢
      exact hp.ok r1 rfl k1
    · rw [if_pos (Or.inr y)] at hp
      exact hp.e2
  · rw [tt_ix_out (by decide) z] at hp
    exact hp.e1
theorem cq_silence (h : tx_R t0 S G T) (I : iv T c) (hmc : 100 ≤ mc) (hms : 10500 ≤ ms) {x a : Int32} (ha : a = 0 ∨ a = 1) (hp : tx_H post px t0 S (G 6 0) (tq_silence T x a)) : wp_X6_silence t0 m9 mc ms post px S (G 6 0) x a := by
  unfold tq_silence at hp
  refine ⟨h.xL, 1, 6, ⟨by omega, by omega⟩, cx_craneNumbered h I.g (Nat.le_refl _) (Nat.le_refl _) (fun w hw e => ⟨_, rfl, h.AC hw, h.rI (tt_v3 (by omega)) ⟨ha, (I.f w (by omega)).1, ?_⟩⟩) (fun z => ?_)⟩
  · rw [e, tt_ix_in hw (by decide)] at hp
    obtain ⟨r1, k1⟩ := h.wI (f := 3) (i := w) (k := 5) (v := a) (tt_v3 (by omega)) rfl (by decide)
    exact hp.ok r1 rfl k1
  · rw [tt_ix_out (by decide) z] at hp
    exact hp.e1
theorem cq_park (h : tx_R t0 S G T) (I : iv T c) (hmc : 100 ≤ mc) (hms : 10500 ≤ ms) {x p : Int32} (hp : tx_H post px t0 S (G 6 0) (tq_park T x p)) : wp_X6_park t0 m9 mc ms post px S (G 6 0) x p := by
  unfold tq_park at hp
  refine ⟨h.xL, 1, 6, ⟨by omega, by omega⟩, cx_craneNumbered h I.g (Nat.le_refl _) (Nat.le_refl _) (fun w hw e => ⟨_, rfl, 1, 6, ⟨by omega, by omega⟩, ?_⟩) (fun z => ?_)⟩
  · rw [e, tt_ix_in hw (by decide)] at hp
    simp only at hp
    refine cx_req (Nat.le_refl _) (Nat.le_refl _) (fun z y => ⟨h.AC hw, h.rI (tt_v3 (by omega)) ⟨fun q => ⟨⟨by omega, by omega⟩, ?_⟩, fun q => ⟨h.xL, 2, 12, ⟨by omega, by omega⟩, ?_⟩⟩⟩) (fun z => ?_)
    · rw [if_neg (fun r => r.elim z (fun r => r y)), if_pos (Or.inl q)] at hp
      exact hp.e3
    · rw [if_neg (fun r => r.elim z (fun r => r y))] at hp
      rw [e]
      refine cx_canGo h I.g hw (Nat.le_refl _) (Nat.le_refl _) (fun d => ⟨fun _ => ⟨h.AC hw, h.rI (tt_v3 (by omega)) (k := 7) ?_ (tt_b37 hw)⟩, fun z => absurd z (by decide)⟩) (fun d => ⟨fun z => absurd rfl z, fun _ => ⟨⟨by omega, by omega⟩, ?_⟩⟩)
      · rw [if_neg (fun r => r.elim (fun r => r q) (fun r => r d))] at hp
        obtain ⟨r1, k1⟩ := h.wI (f := 3) (i := w) (k := 7) (v := p) (tt_v3 (by omega)) (tt_b37 hw) (by decide)
        exact hp.ok r1 rfl k1
      · rw [if_pos (Or.inr d)] at hp
        exact hp.e3
    · rw [if_pos z] at hp
      exact hp.e1
  · rw [tt_ix_out (by decide) z] at hp
    exact hp.e1
theorem cq_unbook (h : tx_R t0 S G T) (I : iv T c) (hmc : 100 ≤ mc) (hms : 10500 ≤ ms) {x : Int32} (hp : tx_H post px t0 S (G 6 0) (tq_unbook T x)) : wp_X6_unbook t0 m9 mc ms post px S (G 6 0) x := by
  have hl := h.len (j := 1) (by decide)
  unfold tq_unbook at hp
  refine ⟨h.xL, 1, 6, ⟨by omega, by omega⟩, cx_boxNumbered h I.g (Nat.le_refl _) (Nat.le_refl _) (fun b hb e => ⟨_, rfl, h.A (tt_v1 hb), ?_⟩) (fun z => ?_)⟩
  · rw [e, tt_ix_in hb (by omega)] at hp
    simp only at hp
    refine cx_isBooked h (tt_v1 hb) (fun z => ⟨fun _ => ⟨h.A (tt_v1 hb), h.rI (tt_v1 hb) (cx_dropBooking h (tt_v1 hb) (fun S' r k => ?_))⟩, fun y => absurd y (by decide)⟩) (fun z => ⟨fun y => absurd rfl y, fun _ => ⟨⟨by omega, by omega⟩, ?_⟩⟩)
    · rw [if_neg z] at hp
      exact hp.ok r rfl k
    · rw [if_pos z] at hp
      exact hp.e3
  · rw [tt_ix_out (by omega) z] at hp
    exact hp.e1
theorem cq_book (h : tx_R t0 S G T) (I : iv T c) (hmc : 100 ≤ mc) (hms : 10500 ≤ ms) {g ho x : Int32} (hp : tx_H post px t0 S (G 6 0) (tq_book T g ho x)) : wp_X6_book t0 m9 mc ms post px S (G 6 0) g ho x := by
  have hl := h.len (j := 1) (by decide)
  unfold tq_book at hp
  refine ⟨1, 6, ⟨by omega, by omega⟩, cx_req (Nat.le_refl _) (Nat.le_refl _) (fun z1 z2 => ⟨h.xL, 1, 6, ⟨by omega, by omega⟩, cx_boxNumbered h I.g (Nat.le_refl _) (Nat.le_refl _) (fun b hb e => ⟨_, rfl, h.xL, h.rI tt_v6 ?_⟩) (fun z => ?_)⟩) (fun z => ?_)⟩
  · rw [if_neg (fun r => r.elim z1 (fun r => r z2)), e, tt_ix_in hb (by omega)] at hp
    simp only at hp
    refine ⟨fun y => ⟨⟨by omega, by omega⟩, ?_⟩, fun y1 => h.rI tt_v6 (fun v18 e18 => ?_)⟩
    · rw [if_pos (Or.inl y)] at hp
      exact hp.e2
    · rw [e18]
      refine ⟨fun y2 => ?_, fun y2 => ⟨⟨by omega, by omega⟩, ?_⟩⟩
      · rw [if_neg (fun r => r.elim y1 (fun r => r y2))] at hp
        have no : (¬ (ti T 1 2 b = 3 ∧ ti T 1 7 b = -1 ∧ ¬ tt_sl T g ho < 1 ∧ tt_isC T b ho = false)) → ∀ k n, k ≤ 2 → n ≤ 12 → wp_X6_book_b83 t0 m9 mc ms post px k n S := by
          intro w k n hk hn
          rw [if_neg w] at hp
          exact ⟨⟨by omega, by omega⟩, hp.e3⟩
        refine cx_slotsLeft h I.g ⟨h.A (tt_v1 hb), h.rI (tt_v1 hb) ⟨fun q => no (fun r => q r.1) _ _ (by decide) (by decide), fun q1 => cx_isBooked h (tt_v1 hb) (fun z => ⟨fun _ => no (fun r => z r.2.1) _ _ (by decide) (by decide), fun y => absurd y (by decide)⟩) (fun q2 => ⟨fun y => absurd rfl y, fun _ => ⟨fun q => no (fun r => r.2.2.1 q) _ _ (by decide) (by decide), fun q3 => ⟨h.xL, cx_canComeOut h I.g (tt_v1 hb) (fun z => ⟨fun _ => ⟨h.A (tt_v1 hb), fun v43 e43 => ?_⟩, fun y => absurd y (by decide)⟩) (fun z => ⟨fun y => absurd rfl y, fun _ => no (fun r => ?_) _ _ (by decide) (by decide)⟩)⟩⟩⟩)⟩⟩
        · have q4 : tt_isC T b ho = false := by
            cases hc : tt_isC T b ho with
            | false => rfl
            | true =>
              obtain ⟨i, hi, hi2⟩ := tt_isC_iff.mp hc
              exact absurd hi2 (z i hi)
          rw [if_pos ⟨q1, q2, q3, q4⟩] at hp
          obtain ⟨r1, k1⟩ := h.wI (f := 1) (i := b) (k := 6) (v := g) (tt_v1 hb) rfl (by decide)
          obtain ⟨r2, k2⟩ := r1.wI (f := 1) (i := b) (k := 7) (v := ho) (tt_v1 hb) rfl (by decide)
          rw [e43]
          exact hp.ok r2 rfl (k1.tr k2)
        · rw [tt_isC_iff.mpr z] at r
          exact absurd r.2.2.2 (by decide)
      · rw [if_pos (Or.inr y2)] at hp
        exact hp.e2
  · rw [if_neg (fun r => r.elim z1 (fun r => r z2)), tt_ix_out (by omega) z] at hp
    exact hp.e1
  · rw [if_pos z] at hp
    exact hp.e1
theorem cx_advanceL (n0 : Nat) (T1 : tt_T) (hn0 : (tl T1 1).length = n0) (hl : n0 ≤ 24) (S0 : qs_S) (hp : ∀ S', tx_R t0 S' G (tt_ad T1 n0).2 → tx_K t0 S0 S' → post (nI (tt_ad T1 n0).1) S') (g : ∀ j, j < 3 → tl T1 j = List.range (tl T1 j).length) : ∀ (k i : Nat) (S : qs_S), i + k = n0 → tx_R t0 S G (tt_ad T1 i).2 → tx_K t0 S0 S → wp_X6_advance_b59 t0 m9 mc ms post px (k + 1) 0 0 S (G 6 0) (nI (tt_ad T1 i).1) (nI i) := by
  intro k
  induction k with
  | zero =>
    intro i S hi h hk
    have hi' : i = n0 := hi
    subst hi'
    refine ⟨h.xL, G 4 1, h.xR (by decide), h.lL (by decide), h.size (by decide) ⟨fun _ => hp S h hk, fun c => absurd (nI_le ?_ (by omega)) c⟩⟩
    rw [tt_ad_l, hn0]
    exact Nat.le_refl _
  | succ k ih =>
    intro i S hi h hk
    have e1 : (tl (tt_ad T1 i).2 1).length = n0 := by rw [tt_ad_l, hn0]
    have hlt : i < (tl (tt_ad T1 i).2 1).length := by omega
    refine ⟨h.xL, G 4 1, h.xR (by decide), h.lL (by decide), h.size (by decide) ⟨fun c => absurd c (nI_ge hlt (by omega)), fun _ => ⟨h.xL, G 4 1, h.xR (by decide), h.lL (by decide), h.get (by decide) hlt ?_⟩⟩⟩
    rw [ps_range (by rw [tt_ad_l]; exact g 1 (by decide)) hlt]
    have vi := tt_v1 hlt
    have nx : ∀ (r : Nat × tt_T) (S' : qs_S), tt_ad T1 (i + 1) = r → tx_R t0 S' G r.2 → tx_K t0 S0 S' → ∀ v : Int32, v = nI i + 1 → wp_X6_advance_b59 t0 m9 mc ms post px (k + 1) 0 0 S' (G 6 0) (nI r.1) v := by
      intro r S' er hr hk' v e
      rw [e, nI_1, ← er]
      rw [← er] at hr
      exact ih (i + 1) S' (by omega) hr hk'
    refine ⟨_, rfl, h.A vi, cx_isBooked h vi (fun z => ⟨fun y => absurd y (by decide), fun _ => ⟨h.A vi, h.rI vi ⟨h.xL, h.rI tt_v6 ⟨fun y => nx _ S (if_neg (fun r => (Int32.not_lt.mpr y) r.2)) h hk, fun y => cx_dropBooking h vi (fun S' r' k' v40 e40 => ?_)⟩⟩⟩⟩) (fun z => ⟨fun _ => nx _ S (if_neg (fun r => r.1 z)) h hk, fun y => absurd rfl y⟩)⟩
    rw [e40, nI_1]
    exact nx ((tt_ad T1 i).1 + 1, tt_db (tt_ad T1 i).2 i) S' (if_pos ⟨z, Int32.not_le.mp y⟩) r' (hk.tr k')
theorem cq_advance (h : tx_R t0 S G T) (I : iv T c) (hmc : 100 ≤ mc) (hms : 10500 ≤ ms) {x : Int32} (hp : tx_H post px t0 S (G 6 0) (tq_advance T x)) : wp_X6_advance t0 m9 mc ms post px S (G 6 0) x := by
  unfold tq_advance at hp
  refine ⟨fun z => ⟨⟨by omega, by omega⟩, ?_⟩, fun z => ⟨fun y => ⟨h.xL, h.rI tt_v6 (fun v46 e46 => ?_)⟩, fun y => ⟨⟨by omega, by omega⟩, ?_⟩⟩⟩
  · rw [if_pos (Or.inl z)] at hp
    exact hp.e2
  · rw [if_neg (fun r => r.elim z (fun r => r y))] at hp
    rw [e46]
    refine ⟨fun q => h.rI tt_v6 (fun v49 e49 => ⟨(tl T 1).length + 1, ?_⟩), fun q => ⟨⟨by omega, by omega⟩, ?_⟩⟩
    · rw [if_neg (fun r => r q)] at hp
      obtain ⟨r1, k1⟩ := h.wI (f := 6) (i := 0) (k := 6) (v := v49) tt_v6 rfl (by decide)
      rw [e49] at r1 k1 ⊢
      exact cx_advanceL (tl T 1).length (tt_h1 T x) rfl I.n.2.1 S (fun S' r k => hp.ok r rfl k) I.g.1 _ 0 _ (Nat.zero_add _) r1 k1
    · rw [if_pos q] at hp
      exact hp.e3
  · rw [if_pos (Or.inr y)] at hp
    exact hp.e2
theorem cx_addW (h : tx_R t0 S G T) {w m : Nat} (hw : w < 8) (hm : tt_v T 2 m) (hn : (tl T (6 + w)).length ≤ 80) (hmc : 1 ≤ mc) (hms : 10 + (tl T (6 + w)).length + (tl T (6 + w)).length / 2 ≤ ms) (hp : ∀ S', tx_R t0 S' G (tt_L T (6 + w) (tl T (6 + w) ++ [m])) → tx_K t0 S S' → post 1 S') : wp_Jx4a65c_add_9ea2d t0 m9 mc ms post S (G 4 (6 + w)) (G 2 m) := by
  have hlc : tt_lc (6 + w) = 2 := tt_lcw
  have a := h.add (m9 := m9) (mc := mc) (ms := ms) (j := 6 + w) (e := m) (by omega) (by omega) (by rw [hlc]; exact hm) (by omega) hmc hms (post := post) hp
  rw [hlc] at a
  exact a
theorem cq_repeat (h : tx_R t0 S G T) (I : iv T c) (hmc : 100 ≤ mc) (hms : 10500 ≤ ms) {x : Int32} (hp : tx_H post px t0 S (G 6 0) (tq_repeat T x)) : wp_X6_repeat t0 m9 mc ms post px S (G 6 0) x := by
  unfold tq_repeat at hp
  refine ⟨h.xL, 1, 6, ⟨by omega, by omega⟩, cx_workerNumbered h I.g (Nat.le_refl _) (Nat.le_refl _) (fun w hw e => ⟨_, rfl, h.AW hw, ?_⟩) (fun z => ?_)⟩
  · rw [e, tt_ix_in hw (by decide)] at hp
    rw [h.la hw]
    cases hq : tr T 3 6 w with
    | zero =>
      simp only [hq] at hp
      exact ⟨fun _ => ⟨⟨by omega, by omega⟩, hp.e3⟩, fun q e => absurd e (by intro z; cases z)⟩
    | succ m =>
      simp only [hq] at hp
      have hm := (I.r w hw m).1 hq
      refine ⟨fun e => absurd e (by intro z; cases z), fun q e => ?_⟩
      have eq : G 2 m = q := Option.some.inj e
      subst eq
      have hl := I.len (j := 6 + w) (Or.inr (by omega)) (by omega)
      refine ⟨h.xL, 8, 48, ⟨by omega, by omega⟩, cx_isInAQueue h I.g (tt_v2 hm) (Nat.le_refl _) (Nat.le_refl _) (fun z => ⟨fun y => absurd y (by decide), fun _ => ⟨⟨by omega, by omega⟩, ?_⟩⟩) (fun z => ⟨fun _ => ⟨h.AW hw, _, h.wt hw, h.lL (by omega), 1, 610, ⟨by omega, by omega⟩, cx_addW h hw (tt_v2 hm) hl (Nat.le_refl _) (by omega) (fun S' r k => ⟨r.A (f := 2) ((tt_vL (by omega)).mpr (tt_v2 hm)), r.rI (f := 2) ((tt_vL (by omega)).mpr (tt_v2 hm)) ?_⟩)⟩, fun y => absurd rfl y⟩)⟩
      · rw [if_pos (tt_isQ_iff.mpr z)] at hp
        exact hp.e3
      · rw [if_neg (fun r => by
          obtain ⟨w', hw', hm'⟩ := tt_isQ_iff.mp r
          exact z w' hw' hm')] at hp
        have en : ti (tt_L T (6 + w) (tl T (6 + w) ++ [m])) 2 0 m = nI m := I.h.2.1 m hm
        rw [en]
        exact hp.ok r rfl k
  · rw [tt_ix_out (by decide) z] at hp
    exact hp.e1
end TXA
