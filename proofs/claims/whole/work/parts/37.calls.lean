/-! ===== what holds of the class's state between two calls; what a call answers: 0 and a value, or which exception (1 index, 2 argument, 3 state) ===== -/
theorem ps_nodup_le : ∀ (n : Nat) (l : List Nat), l.Nodup → (∀ x, x ∈ l → x < n) → l.length ≤ n
  | 0, l, _, h => by
    cases l with
    | nil => exact Nat.le_refl 0
    | cons a l => exact absurd (h a (List.mem_cons_self ..)) (Nat.not_lt_zero _)
  | n + 1, l, d, h => by
    by_cases c : n ∈ l
    · have r := ps_nodup_le n (l.erase n) (d.erase n) (fun x hx => by
        have h1 := h x (List.mem_of_mem_erase hx)
        have h2 : x ≠ n := fun e => by
          rw [e] at hx
          exact (List.Nodup.not_mem_erase d) hx
        omega)
      rw [List.length_erase_of_mem c] at r
      omega
    · have r := ps_nodup_le n l d (fun x hx => by
        have h1 := h x hx
        have h2 : x ≠ n := fun e => c (e ▸ hx)
        omega)
      omega
def iv_n (T : tt_T) : Prop := (tl T 0).length ≤ 10 ∧ (tl T 1).length ≤ 24 ∧ (tl T 2).length ≤ 80
def iv_l (T : tt_T) : Prop := ∀ j, (j = 3 ∨ 6 ≤ j) → j < 22 → (tl T j).Nodup ∧ ∀ m, m ∈ tl T j → m < (tl T 2).length
def iv_w (T : tt_T) : Prop := ∀ w w' m, w < 8 → w' < 8 → m ∈ tl T (6 + w) → m ∈ tl T (6 + w') → w = w'
def iv_r (T : tt_T) : Prop := ∀ w, w < 8 → ∀ x, (tr T 3 6 w = x + 1 → x < (tl T 2).length) ∧ (4 ≤ w → tr T 3 7 w = x + 1 → x < (tl T 2).length ∧ x ∉ tl T (14 + w))
def iv_k (T : tt_T) : Prop := ∀ w, 4 ≤ w → w < 8 → (∀ m, m ∈ tl T (6 + w) → ti T 2 1 m ≠ 0) ∧ ∀ x, (tr T 3 6 w = x + 1 → ti T 2 1 x ≠ 0) ∧ (tr T 3 7 w = x + 1 → ti T 2 1 x ≠ 0)
def iv_b (T : tt_T) : Prop := ∀ b, b < (tl T 1).length → (∃ p, p < 16 ∧ ti T 1 1 b = nI p) ∧ (∃ q, q < 5 ∧ ti T 1 2 b = nI q) ∧ (ti T 1 2 b = 0 ∨ ti T 1 2 b = 1 → ti T 1 3 b = ti T 1 1 b) ∧ (ti T 1 2 b = 3 → ∃ s, s < 6 ∧ ti T 1 3 b = nI s) ∧ (ti T 1 7 b = -1 ∨ ¬ ti T 1 7 b < 0)
def iv_t (T : tt_T) (c : Nat) : Prop := ∃ h k, ti T 6 6 0 = nI h ∧ h ≤ 5000 ∧ ti T 6 7 0 = nI k ∧ k ≤ c ∧ ∀ m, m < (tl T 2).length → ti T 2 5 m = -1 ∨ ∃ o, o < k ∧ ti T 2 5 m = nI o
def iv_s (T : tt_T) : Prop := ∀ s, s < (tl T 0).length → ∃ a l, ti T 0 0 s = nI a ∧ ti T 0 1 s = nI (a + l) ∧ 1 ≤ l ∧ a + l ≤ 16
def iv_m (T : tt_T) : Prop := ∀ m, m < (tl T 2).length → (ti T 2 1 m = 0 ∨ ti T 2 1 m = 1 ∨ ti T 2 1 m = 2) ∧ (ti T 2 1 m = 1 → ∃ s, s < 6 ∧ ti T 2 3 m = nI s) ∧ (m ∈ tl T 3 → ti T 2 6 m ≠ 0)
def iv_f (T : tt_T) : Prop := ∀ w, w < 8 → (ti T 3 5 w = 0 ∨ ti T 3 5 w = 1) ∧ (4 ≤ w → ti T 3 5 w = 0)
def iv (T : tt_T) (c : Nat) : Prop := tt_g T ∧ tt_h T ∧ iv_n T ∧ iv_l T ∧ iv_w T ∧ iv_r T ∧ iv_k T ∧ iv_b T ∧ iv_t T c ∧ iv_s T ∧ iv_m T ∧ iv_f T
section IV
variable {T : tt_T} {c : Nat}
theorem iv.g (h : iv T c) : tt_g T := h.1
theorem iv.h (h : iv T c) : tt_h T := h.2.1
theorem iv.n (h : iv T c) : iv_n T := h.2.2.1
theorem iv.l (h : iv T c) : iv_l T := h.2.2.2.1
theorem iv.w (h : iv T c) : iv_w T := h.2.2.2.2.1
theorem iv.r (h : iv T c) : iv_r T := h.2.2.2.2.2.1
theorem iv.k (h : iv T c) : iv_k T := h.2.2.2.2.2.2.1
theorem iv.b (h : iv T c) : iv_b T := h.2.2.2.2.2.2.2.1
theorem iv.t (h : iv T c) : iv_t T c := h.2.2.2.2.2.2.2.2.1
theorem iv.s (h : iv T c) : iv_s T := h.2.2.2.2.2.2.2.2.2.1
theorem iv.m (h : iv T c) : iv_m T := h.2.2.2.2.2.2.2.2.2.2.1
theorem iv.f (h : iv T c) : iv_f T := h.2.2.2.2.2.2.2.2.2.2.2
theorem iv.len (h : iv T c) {j : Nat} (hj : j = 3 ∨ 6 ≤ j) (hj2 : j < 22) : (tl T j).length ≤ 80 :=
  Nat.le_trans (ps_nodup_le _ _ (h.l j hj hj2).1 (h.l j hj hj2).2) h.n.2.2
theorem iv.len2 (h : iv T c) {w w' : Nat} (hw : w < 8) (hw' : w' < 8) (hne : w ≠ w') : (tl T (6 + w)).length + (tl T (6 + w')).length ≤ 80 := by
  have d : (tl T (6 + w) ++ tl T (6 + w')).Nodup := List.nodup_append.mpr ⟨(h.l _ (Or.inr (by omega)) (by omega)).1, (h.l _ (Or.inr (by omega)) (by omega)).1, fun a ha b hb e => hne (h.w w w' a hw hw' ha (e ▸ hb))⟩
  have r := ps_nodup_le _ _ d (fun x hx => by
    rcases List.mem_append.mp hx with z | z
    · exact (h.l _ (Or.inr (by omega)) (by omega)).2 x z
    · exact (h.l _ (Or.inr (by omega)) (by omega)).2 x z)
  rw [List.length_append] at r
  exact Nat.le_trans r h.n.2.2
theorem iv.q (h : iv T c) : tt_q T := by
  intro f i k v hk hb
  unfold tt_tv
  by_cases c6 : f = 6
  · rw [if_pos c6]
    subst c6
    have : k < 6 := of_decide_eq_true hb
    exact tt_v4 (by omega)
  · rw [if_neg c6]
    rcases v with v | v | v | v | v | v
    · obtain ⟨rfl, -⟩ := v
      cases hb
    · obtain ⟨rfl, vi⟩ := v
      rw [if_neg (by omega), if_neg (by omega)]
      intro x e
      have k0 : k = 0 := by simpa [tt_b] using hb
      subst k0
      obtain ⟨s, hs, es⟩ := h.h.2.2.2 i vi
      have : s = x := by omega
      rw [← this]
      exact tt_v0 hs
    · obtain ⟨rfl, vi⟩ := v
      rw [if_neg (by omega), if_neg (by omega)]
      intro x e
      have k0 : k = 2 := by simpa [tt_b] using hb
      subst k0
      obtain ⟨s, hs, es⟩ := h.h.2.2.1 i vi
      have : s = x := by omega
      rw [← this]
      exact tt_v1 hs
    · obtain ⟨rfl, vi⟩ := v
      have k0 : k = 1 ∨ k = 2 ∨ k = 6 ∨ (k = 7 ∧ 4 ≤ i) := by
        simp [tt_b] at hb
        omega
      rcases k0 with rfl | rfl | rfl | ⟨rfl, h4⟩
      · rw [if_pos ⟨rfl, rfl⟩]; exact tt_v4 (by omega)
      · rw [if_neg (by omega), if_pos ⟨rfl, rfl⟩]; exact tt_v4 (by omega)
      · rw [if_neg (by omega), if_neg (by omega)]
        exact fun x e => tt_v2 ((h.r i vi x).1 e)
      · rw [if_neg (by omega), if_neg (by omega)]
        exact fun x e => tt_v2 ((h.r i vi x).2 h4 e).1
    · obtain ⟨rfl, vi⟩ := v
      cases hb
    · exact absurd v.1 c6
end IV
def tt_ix (x : Int32) (n : Nat) : Nat := if x < 0 ∨ ¬ x < nI n then 0 else x.toNatClampNeg + 1
theorem tt_ix_in {i n : Nat} (hi : i < n) (hn : n < 2 ^ 31) : tt_ix (nI i) n = i + 1 := by
  unfold tt_ix
  rw [if_neg (fun z => z.elim (fun z => nI_pos (by omega) z) (fun z => z (nI_lt hi hn))), nI_clamp (by omega)]
theorem tt_ix_out {x : Int32} {n : Nat} (hn : n < 2 ^ 31) (h : ∀ i, i < n → x ≠ nI i) : tt_ix x n = 0 := by
  unfold tt_ix
  refine if_pos (Classical.byContradiction (fun z => ?_))
  obtain ⟨i, hi, e⟩ := ps_sm hn (fun y => z (Or.inl y)) (Classical.byContradiction (fun y => z (Or.inr y)))
  exact h i hi e
theorem tt_ix_eq {x : Int32} {n j : Nat} (hn : n < 2 ^ 31) (h : tt_ix x n = j + 1) : j < n ∧ x = nI j := by
  unfold tt_ix at h
  by_cases c : x < 0 ∨ ¬ x < nI n
  · rw [if_pos c] at h
    exact absurd h (by omega)
  · rw [if_neg c] at h
    obtain ⟨i, hi, e⟩ := ps_sm hn (fun y => c (Or.inl y)) (Classical.byContradiction (fun y => c (Or.inr y)))
    rw [e, nI_clamp (by omega)] at h
    have : i = j := by omega
    rw [← this]
    exact ⟨hi, e⟩
def tt_tx (x : Int32) : Nat := if tt_ix x 8 ≤ 4 then 0 else tt_ix x 8
theorem tt_tx_in {w : Nat} (h4 : 4 ≤ w) (h8 : w < 8) : tt_tx (nI w) = w + 1 := by
  unfold tt_tx
  rw [tt_ix_in h8 (by decide), if_neg (by omega)]
theorem tt_tx_out {x : Int32} (h : ∀ w, 4 ≤ w → w < 8 → x ≠ nI w) : tt_tx x = 0 := by
  unfold tt_tx
  by_cases c : tt_ix x 8 ≤ 4
  · exact if_pos c
  · rw [if_neg c]
    exfalso
    obtain ⟨j, e⟩ : ∃ j, tt_ix x 8 = j + 1 := ⟨tt_ix x 8 - 1, by omega⟩
    obtain ⟨h8, ex⟩ := tt_ix_eq (by decide) e
    exact h j (by omega) h8 ex
abbrev tq_r : Type := Nat × Int32 × tt_T
def tx_H (post : Int32 → qs_S → Prop) (px : String → qs_S → Prop) (t0 : Nat) (S : qs_S) (x : Nat) (r : tq_r) : Prop :=
  (r.1 = 0 → ∀ S' G', tx_R t0 S' G' r.2.2 → G' 6 0 = x → tx_K t0 S S' → post r.2.1 S') ∧ (r.1 = 1 → px "java/lang/IndexOutOfBoundsException" S) ∧ (r.1 = 2 → px "java/lang/IllegalArgumentException" S) ∧ (r.1 = 3 → px "java/lang/IllegalStateException" S)
def tq_hour (T : tt_T) : tq_r := (0, ti T 6 6 0, T)
def tq_boxes (T : tt_T) : tq_r := (0, nI (tl T 1).length, T)
def tq_whereIs (T : tt_T) (x : Int32) : tq_r := match tt_ix x (tl T 1).length with
  | 0 => (1, 0, T)
  | b + 1 => (0, if ti T 1 2 b = 3 then 300 + 10 * ti T 1 3 b + ti T 1 4 b else 100 * ti T 1 2 b + ti T 1 3 b, T)
def tq_whereByLog (T : tt_T) (x : Int32) : tq_r := match tt_ix x (tl T 1).length with
  | 0 => (1, 0, T)
  | b + 1 => match tt_ll T b (tl T 3).length with
    | 0 => (0, 0 + ti T 1 1 b, T)
    | m + 1 => (0, if ti T 2 1 m = 0 then 100 + ti T 1 1 b else if ti T 2 1 m = 1 then 300 + 10 * ti T 2 3 m else 400 + ti T 2 3 m, T)
def tq_boxI (k : Nat) (T : tt_T) (x : Int32) : tq_r := match tt_ix x (tl T 1).length with
  | 0 => (1, 0, T)
  | b + 1 => (0, ti T 1 k b, T)
def tq_placeOf (T : tt_T) (x : Int32) : tq_r := match tt_ix x 4 with
  | 0 => (1, 0, T)
  | c + 1 => (0, ti T 3 7 c, T)
def tq_height (T : tt_T) (x : Int32) : tq_r := match tt_ix x 6 with
  | 0 => (1, 0, T)
  | _ + 1 => (0, nI (tt_ca T 3 x), T)
def tq_queue (T : tt_T) (x : Int32) : tq_r := match tt_ix x 8 with
  | 0 => (1, 0, T)
  | w + 1 => (0, nI (tl T (6 + w)).length, T)
def tq_queued (T : tt_T) (x y : Int32) : tq_r := match tt_ix x 8 with
  | 0 => (1, 0, T)
  | w + 1 => match tt_ix y (tl T (6 + w)).length with
    | 0 => (1, 0, T)
    | k + 1 => (0, nI ((tl T (6 + w)).getD k 0), T)
def tq_seen (T : tt_T) (x : Int32) : tq_r := match tt_tx x with
  | 0 => (1, 0, T)
  | w + 1 => match tr T 3 7 w with
    | 0 => (0, -1, T)
    | m + 1 => (0, nI m, T)
def tq_handed (T : tt_T) (x : Int32) : tq_r := match tt_ix x (tl T 2).length with
  | 0 => (1, 0, T)
  | m + 1 => (0, ti T 2 4 m, T)
def tq_isDone (T : tt_T) (x : Int32) : tq_r := match tt_ix x (tl T 2).length with
  | 0 => (1, 0, T)
  | m + 1 => (0, if ti T 2 5 m = -1 then 0 else 1, T)
def tq_moves (T : tt_T) : tq_r := (0, nI (tl T 3).length, T)
def tq_moveAt (T : tt_T) (x : Int32) : tq_r := match tt_ix x (tl T 3).length with
  | 0 => (1, 0, T)
  | k + 1 => (0, nI ((tl T 3).getD k 0), T)
def tq_unheard (T : tt_T) : tq_r := (0, ti T 6 7 0 - nI (tl T 3).length, T)
section TXQ
variable {t0 m9 mc ms c : Nat} {S : qs_S} {G : Nat → Nat → Nat} {T : tt_T} {post : Int32 → qs_S → Prop} {px : String → qs_S → Prop}
theorem tx_H.ok {x : Nat} {v : Int32} {T' : tt_T} (hp : tx_H post px t0 S x (0, v, T')) {S' : qs_S} {G' : Nat → Nat → Nat} (r : tx_R t0 S' G' T') (e : G' 6 0 = x) (k : tx_K t0 S S') : post v S' := hp.1 rfl S' G' r e k
theorem tx_H.e1 {x : Nat} {v : Int32} {T' : tt_T} (hp : tx_H post px t0 S x (1, v, T')) : px "java/lang/IndexOutOfBoundsException" S := hp.2.1 rfl
theorem tx_H.e2 {x : Nat} {v : Int32} {T' : tt_T} (hp : tx_H post px t0 S x (2, v, T')) : px "java/lang/IllegalArgumentException" S := hp.2.2.1 rfl
theorem tx_H.e3 {x : Nat} {v : Int32} {T' : tt_T} (hp : tx_H post px t0 S x (3, v, T')) : px "java/lang/IllegalStateException" S := hp.2.2.2 rfl
theorem cq_hour (h : tx_R t0 S G T) (hp : tx_H post px t0 S (G 6 0) (tq_hour T)) : wp_X6_hour t0 m9 post S (G 6 0) := ⟨h.xL, h.rI tt_v6 (hp.ok h rfl tx_K.rf)⟩
theorem cq_boxes (h : tx_R t0 S G T) (hp : tx_H post px t0 S (G 6 0) (tq_boxes T)) : wp_X6_boxes t0 m9 post S (G 6 0) := ⟨h.xL, _, h.xR (by decide), h.lL (by decide), h.size (by decide) (hp.ok h rfl tx_K.rf)⟩
theorem cq_moves (h : tx_R t0 S G T) (hp : tx_H post px t0 S (G 6 0) (tq_moves T)) : wp_X6_moves t0 m9 post S (G 6 0) := ⟨h.xL, _, h.xR (by decide), h.lL (by decide), h.size (by decide) (hp.ok h rfl tx_K.rf)⟩
theorem cq_unheard (h : tx_R t0 S G T) (hp : tx_H post px t0 S (G 6 0) (tq_unheard T)) : wp_X6_unheard t0 m9 post S (G 6 0) :=
  ⟨h.xL, h.rI tt_v6 ⟨_, h.xR (by decide), h.lL (by decide), h.size (by decide) (fun v e => by rw [e]; exact hp.ok h rfl tx_K.rf)⟩⟩
theorem cq_whereIs (h : tx_R t0 S G T) (I : iv T c) (hmc : 100 ≤ mc) (hms : 10500 ≤ ms) {x : Int32} (hp : tx_H post px t0 S (G 6 0) (tq_whereIs T x)) : wp_X6_whereIs t0 m9 mc ms post px S (G 6 0) x := by
  have hl := h.len (j := 1) (by decide)
  unfold tq_whereIs at hp
  refine ⟨h.xL, 1, 6, ⟨by omega, by omega⟩, cx_boxNumbered h I.g (Nat.le_refl _) (Nat.le_refl _) (fun b hb e => ⟨_, rfl, h.A (tt_v1 hb), h.rI (tt_v1 hb) ⟨fun z => ?_, fun z => ?_⟩⟩) (fun z => ?_)⟩
  · rw [e, tt_ix_in hb (by omega)] at hp
    refine h.rI (tt_v1 hb) (fun v13 e13 => h.rI (tt_v1 hb) (fun v15 e15 => ?_))
    rw [e15, e13]
    have := hp.ok h rfl tx_K.rf
    rw [if_neg z] at this
    exact this
  · rw [e, tt_ix_in hb (by omega)] at hp
    refine h.rI (tt_v1 hb) (fun v17 e17 v18 e18 => h.rI (tt_v1 hb) (fun v20 e20 => ?_))
    rw [e20, e18, e17]
    have := hp.ok h rfl tx_K.rf
    rw [if_pos z] at this
    exact this
  · rw [tt_ix_out (by omega) z] at hp
    exact hp.e1
theorem cq_whereByLog (h : tx_R t0 S G T) (I : iv T c) (hmc : 100 ≤ mc) (hms : 10500 ≤ ms) {x : Int32} (hp : tx_H post px t0 S (G 6 0) (tq_whereByLog T x)) : wp_X6_whereByLog t0 m9 mc ms post px S (G 6 0) x := by
  have hl := h.len (j := 1) (by decide)
  unfold tq_whereByLog at hp
  refine ⟨h.xL, 1, 6, ⟨by omega, by omega⟩, cx_boxNumbered h I.g (Nat.le_refl _) (Nat.le_refl _) (fun b hb e => ⟨_, rfl, h.xL, cx_lastLogged h I.h (tt_v1 hb) ?_⟩) (fun z => ?_)⟩
  · rw [e, tt_ix_in hb (by omega)] at hp
    cases hq : tt_ll T b (tl T 3).length with
    | zero =>
      simp only [hq] at hp
      refine ⟨fun _ => ⟨h.A (tt_v1 hb), h.rI (tt_v1 hb) (fun v e => ?_)⟩, fun q e => absurd e (by intro z; cases z)⟩
      rw [e]
      exact hp.ok h rfl tx_K.rf
    | succ m =>
      simp only [hq] at hp
      have hm := tt_ll_v h _ (Nat.le_refl _) m hq
      refine ⟨fun e => absurd e (by intro z; cases z), fun q e => ?_⟩
      have eq : G 2 m = q := Option.some.inj e
      subst eq
      have := hp.ok h rfl tx_K.rf
      refine ⟨h.A hm, h.rI hm ⟨fun z => h.rI hm ⟨fun y => h.rI hm (fun v e => ?_), fun y => h.rI hm (fun v28 e28 v e => ?_)⟩, fun z => ⟨h.A (tt_v1 hb), h.rI (tt_v1 hb) (fun v e => ?_)⟩⟩⟩
      · rw [e]
        rw [if_neg z, if_neg y] at this
        exact this
      · rw [e, e28]
        rw [if_neg z, if_pos y] at this
        exact this
      · rw [e]
        rw [if_pos z] at this
        exact this
  · rw [tt_ix_out (by omega) z] at hp
    exact hp.e1
theorem cq_liftedBy (h : tx_R t0 S G T) (I : iv T c) (hmc : 100 ≤ mc) (hms : 10500 ≤ ms) {x : Int32} (hp : tx_H post px t0 S (G 6 0) (tq_boxI 5 T x)) : wp_X6_liftedBy t0 m9 mc ms post px S (G 6 0) x := by
  have hl := h.len (j := 1) (by decide)
  unfold tq_boxI at hp
  refine ⟨h.xL, 1, 6, ⟨by omega, by omega⟩, cx_boxNumbered h I.g (Nat.le_refl _) (Nat.le_refl _) (fun b hb e => ⟨_, rfl, h.A (tt_v1 hb), h.rI (tt_v1 hb) ?_⟩) (fun z => ?_)⟩
  · rw [e, tt_ix_in hb (by omega)] at hp
    exact hp.ok h rfl tx_K.rf
  · rw [tt_ix_out (by omega) z] at hp
    exact hp.e1
theorem cq_bookedFor (h : tx_R t0 S G T) (I : iv T c) (hmc : 100 ≤ mc) (hms : 10500 ≤ ms) {x : Int32} (hp : tx_H post px t0 S (G 6 0) (tq_boxI 7 T x)) : wp_X6_bookedFor t0 m9 mc ms post px S (G 6 0) x := by
  have hl := h.len (j := 1) (by decide)
  unfold tq_boxI at hp
  refine ⟨h.xL, 1, 6, ⟨by omega, by omega⟩, cx_boxNumbered h I.g (Nat.le_refl _) (Nat.le_refl _) (fun b hb e => ⟨_, rfl, h.A (tt_v1 hb), h.rI (tt_v1 hb) ?_⟩) (fun z => ?_)⟩
  · rw [e, tt_ix_in hb (by omega)] at hp
    exact hp.ok h rfl tx_K.rf
  · rw [tt_ix_out (by omega) z] at hp
    exact hp.e1
theorem cq_placeOf (h : tx_R t0 S G T) (I : iv T c) (hmc : 100 ≤ mc) (hms : 10500 ≤ ms) {x : Int32} (hp : tx_H post px t0 S (G 6 0) (tq_placeOf T x)) : wp_X6_placeOf t0 m9 mc ms post px S (G 6 0) x := by
  unfold tq_placeOf at hp
  refine ⟨h.xL, 1, 6, ⟨by omega, by omega⟩, cx_craneNumbered h I.g (Nat.le_refl _) (Nat.le_refl _) (fun w hw e => ⟨_, rfl, h.AC hw, h.rI (tt_v3 (by omega)) (k := 7) ?_ (tt_b37 hw)⟩) (fun z => ?_)⟩
  · rw [e, tt_ix_in hw (by decide)] at hp
    exact hp.ok h rfl tx_K.rf
  · rw [tt_ix_out (by decide) z] at hp
    exact hp.e1
theorem cq_height (h : tx_R t0 S G T) (I : iv T c) (hmc : 100 ≤ mc) (hms : 10500 ≤ ms) {x : Int32} (hp : tx_H post px t0 S (G 6 0) (tq_height T x)) : wp_X6_height t0 m9 mc ms post px S (G 6 0) x := by
  unfold tq_height at hp
  refine ⟨1, 6, ⟨by omega, by omega⟩, cx_req (Nat.le_refl _) (Nat.le_refl _) (fun z y => ⟨h.xL, cx_countAt h I.g ?_⟩) (fun z => ?_)⟩
  · obtain ⟨i, hi, e⟩ := ps_sm (n := 6) (by decide) z y
    rw [e, tt_ix_in hi (by decide)] at hp
    rw [e]
    exact hp.ok h rfl tx_K.rf
  · rw [tt_ix_out (by decide) (ps_out (n := 6) (by decide) z)] at hp
    exact hp.e1
theorem cq_queue (h : tx_R t0 S G T) (I : iv T c) (hmc : 100 ≤ mc) (hms : 10500 ≤ ms) {x : Int32} (hp : tx_H post px t0 S (G 6 0) (tq_queue T x)) : wp_X6_queue t0 m9 mc ms post px S (G 6 0) x := by
  unfold tq_queue at hp
  refine ⟨h.xL, 1, 6, ⟨by omega, by omega⟩, cx_workerNumbered h I.g (Nat.le_refl _) (Nat.le_refl _) (fun w hw e => ⟨_, rfl, h.AW hw, _, h.wt hw, h.lL (by omega), h.size (by omega) ?_⟩) (fun z => ?_)⟩
  · rw [e, tt_ix_in hw (by decide)] at hp
    exact hp.ok h rfl tx_K.rf
  · rw [tt_ix_out (by decide) z] at hp
    exact hp.e1
theorem cq_queued (h : tx_R t0 S G T) (I : iv T c) (hmc : 100 ≤ mc) (hms : 10500 ≤ ms) {x y : Int32} (hp : tx_H post px t0 S (G 6 0) (tq_queued T x y)) : wp_X6_queued t0 m9 mc ms post px S (G 6 0) x y := by
  unfold tq_queued at hp
  refine ⟨h.xL, 1, 6, ⟨by omega, by omega⟩, cx_workerNumbered h I.g (Nat.le_refl _) (Nat.le_refl _) (fun w hw e => ⟨_, rfl, h.AW hw, _, h.wt hw, 1, 6, ⟨by omega, by omega⟩, ?_⟩) (fun z => ?_)⟩
  · rw [e, tt_ix_in hw (by decide)] at hp
    have hl := h.len (j := 6 + w) (by omega)
    refine cx_elementOf h (by omega) tt_lcw (Nat.le_refl _) (Nat.le_refl _) (fun k hk ek => ?_) (fun z => ?_)
    · have hm := (I.l (6 + w) (Or.inr (by omega)) (by omega)).2 _ (ps_getD_mem hk)
      refine ⟨_, rfl, h.A (tt_v2 hm), h.rI (tt_v2 hm) ?_⟩
      simp only [ek, tt_ix_in hk (by omega)] at hp
      rw [I.h.2.1 _ hm]
      exact hp.ok h rfl tx_K.rf
    · simp only [tt_ix_out (by omega) z] at hp
      exact hp.e1
  · rw [tt_ix_out (by decide) z] at hp
    exact hp.e1
theorem tx_R.sn (h : tx_R t0 S G T) {w : Nat} (h4 : 4 ≤ w) (hw : w < 8) : qs_R S 7 (G 3 w) = tt_o (G 2) (tr T 3 7 w) := h.R (tt_v3 hw) (by decide) (tt_b37t h4)
theorem tx_R.la (h : tx_R t0 S G T) {w : Nat} (hw : w < 8) : qs_R S 6 (G 3 w) = tt_o (G 2) (tr T 3 6 w) := h.R (tt_v3 hw) (by decide) rfl
theorem cq_seen (h : tx_R t0 S G T) (I : iv T c) (hmc : 100 ≤ mc) (hms : 10500 ≤ ms) {x : Int32} (hp : tx_H post px t0 S (G 6 0) (tq_seen T x)) : wp_X6_seen t0 m9 mc ms post px S (G 6 0) x := by
  unfold tq_seen at hp
  refine ⟨h.xL, 1, 6, ⟨by omega, by omega⟩, cx_truckNumbered h I.g (Nat.le_refl _) (Nat.le_refl _) (fun w h4 hw e => ⟨_, rfl, h.AT h4 hw, ?_⟩) (fun z => ?_)⟩
  · rw [e, tt_tx_in h4 hw] at hp
    rw [h.sn h4 hw]
    cases hq : tr T 3 7 w with
    | zero =>
      simp only [hq] at hp
      exact ⟨fun _ => hp.ok h rfl tx_K.rf, fun q e => absurd e (by intro z; cases z)⟩
    | succ m =>
      simp only [hq] at hp
      have hm := ((I.r w hw m).2 h4 hq).1
      refine ⟨fun e => absurd e (by intro z; cases z), fun q e => ?_⟩
      have eq : G 2 m = q := Option.some.inj e
      subst eq
      refine ⟨h.A (tt_v2 hm), h.rI (tt_v2 hm) ?_⟩
      rw [I.h.2.1 _ hm]
      exact hp.ok h rfl tx_K.rf
  · rw [tt_tx_out z] at hp
    exact hp.e1
theorem cq_handed (h : tx_R t0 S G T) (I : iv T c) (hmc : 100 ≤ mc) (hms : 10500 ≤ ms) {x : Int32} (hp : tx_H post px t0 S (G 6 0) (tq_handed T x)) : wp_X6_handed t0 m9 mc ms post px S (G 6 0) x := by
  unfold tq_handed at hp
  have hl := h.len (j := 2) (by decide)
  refine ⟨h.xL, _, h.xR (by decide), 1, 6, ⟨by omega, by omega⟩, cx_elementOf h (by decide) rfl (Nat.le_refl _) (Nat.le_refl _) (fun k hk ek => ?_) (fun z => ?_)⟩
  · rw [ps_range (I.g.1 2 (by decide)) hk]
    refine ⟨_, rfl, h.A (tt_v2 hk), h.rI (tt_v2 hk) ?_⟩
    rw [ek, tt_ix_in hk (by omega)] at hp
    exact hp.ok h rfl tx_K.rf
  · rw [tt_ix_out (by omega) z] at hp
    exact hp.e1
theorem cq_isDone (h : tx_R t0 S G T) (I : iv T c) (hmc : 100 ≤ mc) (hms : 10500 ≤ ms) {x : Int32} (hp : tx_H post px t0 S (G 6 0) (tq_isDone T x)) : wp_X6_isDone t0 m9 mc ms post px S (G 6 0) x := by
  unfold tq_isDone at hp
  have hl := h.len (j := 2) (by decide)
  refine ⟨h.xL, _, h.xR (by decide), 1, 6, ⟨by omega, by omega⟩, cx_elementOf h (by decide) rfl (Nat.le_refl _) (Nat.le_refl _) (fun k hk ek => ?_) (fun z => ?_)⟩
  · rw [ps_range (I.g.1 2 (by decide)) hk]
    rw [ek, tt_ix_in hk (by omega)] at hp
    have := hp.ok h rfl tx_K.rf
    refine ⟨_, rfl, h.A (tt_v2 hk), cx_isMoveMade h (tt_v2 hk) (fun z => ⟨Or.inr rfl, ?_⟩) (fun z => ⟨Or.inl rfl, ?_⟩)⟩
    · rw [if_neg z] at this
      exact this
    · rw [if_pos z] at this
      exact this
  · rw [tt_ix_out (by omega) z] at hp
    exact hp.e1
theorem cq_moveAt (h : tx_R t0 S G T) (I : iv T c) (hmc : 100 ≤ mc) (hms : 10500 ≤ ms) {x : Int32} (hp : tx_H post px t0 S (G 6 0) (tq_moveAt T x)) : wp_X6_moveAt t0 m9 mc ms post px S (G 6 0) x := by
  unfold tq_moveAt at hp
  have hl := h.len (j := 3) (by decide)
  refine ⟨h.xL, _, h.xR (by decide), 1, 6, ⟨by omega, by omega⟩, cx_elementOf h (by decide) rfl (Nat.le_refl _) (Nat.le_refl _) (fun k hk ek => ?_) (fun z => ?_)⟩
  · have hm := (I.l 3 (Or.inl rfl) (by omega)).2 _ (ps_getD_mem hk)
    refine ⟨_, rfl, h.A (tt_v2 hm), h.rI (tt_v2 hm) ?_⟩
    rw [ek, tt_ix_in hk (by omega)] at hp
    rw [I.h.2.1 _ hm]
    exact hp.ok h rfl tx_K.rf
  · rw [tt_ix_out (by omega) z] at hp
    exact hp.e1
end TXQ
