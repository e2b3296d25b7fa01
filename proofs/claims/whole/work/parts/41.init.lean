/-! ===== the constructor ===== -/
def tt_0 : tt_T := (fun f k i => if f = 3 then (if k = 0 then nI i else if k = 7 ∧ i < 4 then nI i * 5 else 0) else 0, fun _ _ _ => 0, fun _ => [])
def tt_Z (w : Nat) : tt_T := tt_L tt_0 4 (List.range w)
def tt_Y (w : Nat) : tt_T := tt_L (tt_Z 4) 5 ((List.range w).map (4 + ·))
theorem tt_LL {T : tt_T} {j : Nat} {l l' : List Nat} : tt_L (tt_L T j l) j l' = tt_L T j l' := by
  refine Prod.ext rfl (Prod.ext rfl ?_)
  funext j'
  show (if j' = j then l' else if j' = j then l else tl T j') = if j' = j then l' else tl T j'
  by_cases c : j' = j
  · rw [if_pos c, if_pos c]
  · rw [if_neg c, if_neg c, if_neg c]
def iV (n f i : Nat) : Prop := (f = 6 ∧ i = 0) ∨ (f = 4 ∧ i < n)
def iF (n f i k : Nat) : Prop := f = 6 ∧ i = 0 ∧ k < n
def jV (w f i : Nat) : Prop := (f = 6 ∧ i = 0) ∨ (f = 4 ∧ (i < 6 ∨ (6 ≤ i ∧ i < 6 + w) ∨ (14 ≤ i ∧ i < 14 + w))) ∨ (f = 3 ∧ i < w)
def jF (w f i k : Nat) : Prop := k < 8 ∧ ((f = 6 ∧ i = 0) ∨ (f = 3 ∧ i < w))
section TXI
variable {t0 m9 mc ms : Nat} {S : qs_S} {G : Nat → Nat → Nat} {T : tt_T} {post : qs_S → Prop} {V : Nat → Nat → Prop} {F : Nat → Nat → Nat → Prop}
theorem cx_initL {n x : Nat} (ex : G 6 0 = x) (h : tx_W (iV n) (iF n) t0 S G T) (hn : n < 6) (he : tl T n = []) {q : Nat} (hq : q ∉ qs_L S) (ht : q ≠ t0) (hp : ∀ S' G', (x ∈ qs_L S' ∧ qs_K S' x = 6) → G' 6 0 = x → tx_W (iV (n + 1)) (iF (n + 1)) t0 (qs_wR S' n x (some q)) G' T → tx_K t0 S (qs_wR S' n x (some q)) → post S') : wp_Jx4a65c_init_da8c8 t0 m9 post (qs_nw S q 0) q := by
  subst ex
  refine h.newL (j0 := n) (fun z => ?_) (fun k z => absurd z.1 (by decide)) he hq ht (fun S' r k _ => ?_)
  · rcases z with z | z
    · exact absurd z.1 (by decide)
    · exact absurd z.2 (Nat.lt_irrefl _)
  · have v6 : iV n 6 0 ∨ (6 = 4 ∧ 0 = n) := Or.inl (Or.inl ⟨rfl, rfl⟩)
    obtain ⟨r2, k2⟩ := r.setR (f0 := 6) (i0 := 0) (k0 := n) (v := some q) v6 (decide_eq_true hn) (by decide) (by
      show some q = some (tt_G G 4 n q 4 n)
      rw [tt_Gs]) (Or.inr ⟨rfl, rfl⟩)
    have e6 : tt_G G 4 n q 6 0 = G 6 0 := tt_Gn (by omega)
    rw [e6] at r2 k2
    refine hp S' (tt_G G 4 n q) (r.A (f := 6) (i := 0) v6) e6 (r2.wk (V' := iV (n + 1)) (F' := iF (n + 1)) (fun f i => ?_) (fun f i k' v z => ?_)) (k.tr k2)
    · unfold iV
      omega
    · unfold iF at z ⊢
      omega
theorem cx_init5 {w kd : Nat} (hkd : kd = tt_k 3 w) (h : tx_W (jV w) (jF w) t0 S G T) (hw : w < 8) {q : Nat} (hq : q ∉ qs_L S) (ht : q ≠ t0) (e1 : tl T (6 + w) = []) (e2 : tl T (14 + w) = []) (f0 : ti T 3 0 w = nI w) (f3 : ti T 3 3 w = 0) (f4 : ti T 3 4 w = 0) (f5 : ti T 3 5 w = 0) (f6 : tr T 3 6 w = 0)
    (hp : ∀ S' G', G' 6 0 = G 6 0 → G' 3 w = q → (∀ j, j < 6 → G' 4 j = G 4 j) → tx_W (jV (w + 1)) (fun f i k => jF w f i k ∨ (f = 3 ∧ i = w ∧ k < 7)) t0 S' G' T → tx_K t0 S S' → post S') : wp_X5_init t0 m9 2 6 post (qs_nw S q kd) q (nI w) := by
  subst hkd
  have hk3 : tt_k 3 w = 2 ∨ tt_k 3 w = 5 := by
    show (if w < 4 then 2 else 5) = 2 ∨ (if w < 4 then 2 else 5) = 5
    by_cases c : w < 4
    · rw [if_pos c]; exact Or.inl rfl
    · rw [if_neg c]; exact Or.inr rfl
  have nV : ¬ jV w 3 w := by unfold jV; omega
  obtain ⟨w1, k1⟩ := h.new (f0 := 3) (i0 := w) nV (fun k z => by unfold jF at z; omega) (by decide) hq ht
  refine ⟨⟨by decide, by decide⟩, fun q1 hq1 ht1 => w1.newL (j0 := 6 + w) (by unfold jV; omega) (fun k z => by unfold jF at z; omega) e1 hq1 ht1 (fun S2 w2 k2 _ => ?_)⟩
  have v3 : (jV w 3 w ∨ 3 = 3 ∧ w = w) ∨ 3 = 4 ∧ w = 6 + w := Or.inl (Or.inr ⟨rfl, rfl⟩)
  have g3 : tt_G (tt_G G 3 w q) 4 (6 + w) q1 3 w = q := (tt_Gn (by omega)).trans tt_Gs
  have a3 := w2.A v3
  obtain ⟨w3, k3⟩ := w2.setR (f0 := 3) (i0 := w) (k0 := 1) (v := some q1) v3 rfl (by decide) (by
    show some q1 = some (tt_G (tt_G G 3 w q) 4 (6 + w) q1 4 (6 + w))
    rw [tt_Gs]) (Or.inr ⟨rfl, rfl⟩)
  rw [g3] at a3 w3 k3
  refine ⟨⟨a3.1, by rw [a3.2]; exact hk3⟩, ⟨by decide, by decide⟩, fun q11 hq11 ht11 => w3.newL (j0 := 14 + w) (by unfold jV; omega) (fun k z => by unfold jF at z; omega) e2 hq11 ht11 (fun S4 w4 k4 _ => ?_)⟩
  have v3' : ((jV w 3 w ∨ 3 = 3 ∧ w = w) ∨ 3 = 4 ∧ w = 6 + w) ∨ 3 = 4 ∧ w = 14 + w := Or.inl v3
  have g3' : tt_G (tt_G (tt_G G 3 w q) 4 (6 + w) q1) 4 (14 + w) q11 3 w = q := (tt_Gn (by omega)).trans g3
  have a3' := w4.A v3'
  obtain ⟨w5, k5⟩ := w4.setR (f0 := 3) (i0 := w) (k0 := 2) (v := some q11) v3' rfl (by decide) (by
    show some q11 = some (tt_G (tt_G (tt_G G 3 w q) 4 (6 + w) q1) 4 (14 + w) q11 4 (14 + w))
    rw [tt_Gs]) (Or.inr ⟨rfl, rfl⟩)
  obtain ⟨w6, k6⟩ := w5.setI (f0 := 3) (i0 := w) (k0 := 3) (v := 0) v3' rfl (by decide) f3.symm
  obtain ⟨w7, k7⟩ := w6.setI (f0 := 3) (i0 := w) (k0 := 4) (v := 0) v3' rfl (by decide) f4.symm
  obtain ⟨w8, k8⟩ := w7.setI (f0 := 3) (i0 := w) (k0 := 5) (v := 0) v3' rfl (by decide) f5.symm
  obtain ⟨w9, k9⟩ := w8.setR (f0 := 3) (i0 := w) (k0 := 6) (v := none) v3' rfl (by decide) (by
    have e : tt_e (tt_G (tt_G (tt_G G 3 w q) 4 (6 + w) q1) 4 (14 + w) q11) T 3 6 w = tt_o (tt_G (tt_G (tt_G G 3 w q) 4 (6 + w) q1) 4 (14 + w) q11 2) (tr T 3 6 w) := rfl
    rw [e, f6]
    rfl) (fun x e => by rw [f6] at e; omega)
  obtain ⟨wa, ka⟩ := w9.setI (f0 := 3) (i0 := w) (k0 := 0) (v := nI w) v3' rfl (by decide) f0.symm
  rw [g3'] at a3' k5 k6 k7 k8 k9 ka wa
  refine ⟨⟨a3'.1, by rw [a3'.2]; exact hk3⟩, hp _ _ ?_ g3' (fun j hj => ?_) (wa.wk (V' := jV (w + 1)) (fun f i => ?_) (fun f i k v z => ?_)) (((((((((k1.tr k2).tr k3).tr k4).tr k5).tr k6).tr k7).tr k8).tr k9).tr ka)⟩
  · exact ((tt_Gn (by omega)).trans (tt_Gn (by omega))).trans (tt_Gn (by omega))
  · exact ((tt_Gn (by omega)).trans (tt_Gn (by omega))).trans (tt_Gn (by omega))
  · unfold jV
    omega
  · rcases z with z | ⟨z1, z2, z3⟩
    · exact Or.inl (Or.inl (Or.inl (Or.inl (Or.inl (Or.inl (Or.inl z))))))
    · rcases (show k = 1 ∨ k = 2 ∨ k = 3 ∨ k = 4 ∨ k = 5 ∨ k = 6 ∨ k = 0 by omega) with z | z | z | z | z | z | z
      · exact Or.inl (Or.inl (Or.inl (Or.inl (Or.inl (Or.inl (Or.inr ⟨z1, z2, z⟩))))))
      · exact Or.inl (Or.inl (Or.inl (Or.inl (Or.inl (Or.inr ⟨z1, z2, z⟩)))))
      · exact Or.inl (Or.inl (Or.inl (Or.inl (Or.inr ⟨z1, z2, z⟩))))
      · exact Or.inl (Or.inl (Or.inl (Or.inr ⟨z1, z2, z⟩)))
      · exact Or.inl (Or.inl (Or.inr ⟨z1, z2, z⟩))
      · exact Or.inl (Or.inr ⟨z1, z2, z⟩)
      · exact Or.inr ⟨z1, z2, z⟩
theorem tt_0i {T : tt_T} (e : ∀ f k i, ti T f k i = ti tt_0 f k i) (w : Nat) : ti T 3 0 w = nI w ∧ ti T 3 3 w = 0 ∧ ti T 3 4 w = 0 ∧ ti T 3 5 w = 0 := by
  rw [e, e, e, e]
  exact ⟨rfl, rfl, rfl, rfl⟩
theorem cx_initC (hp : ∀ (S' : qs_S) (G' : Nat → Nat → Nat), G' 6 0 = G 6 0 → tx_W (jV 4) (jF 4) t0 S' G' (tt_Z 4) → tx_K t0 S S' → ∃ n24 : Nat, wp_X6_init_b114 t0 m9 mc ms post n24 22 2514 S' (G' 6 0) 0) (hmc : 38 ≤ mc) (hms : 5010 ≤ ms) : ∀ (r w : Nat) (S1 : qs_S) (G1 : Nat → Nat → Nat), w + r = 4 → G1 6 0 = G 6 0 → tx_W (jV w) (jF w) t0 S1 G1 (tt_Z w) → tx_K t0 S S1 → wp_X6_init_b82 t0 m9 mc ms post (r + 1) (6 + 4 * w) (18 + 624 * w) S1 (G 6 0) (nI w) := by
  intro r
  induction r with
  | zero =>
    intro w S1 G1 hi eg h hk
    have : w = 4 := hi
    subst this
    refine ⟨fun _ => ?_, fun z => absurd (by decide) z⟩
    have := hp S1 G1 eg h hk
    rw [eg] at this
    exact this
  | succ r ih =>
    intro w S1 G1 hi eg h hk
    have v6 : jV w 6 0 := Or.inl ⟨rfl, rfl⟩
    have v4 : jV w 4 4 := Or.inr (Or.inl ⟨rfl, Or.inl (by decide)⟩)
    have a6 := h.A v6
    have r4 := h.fR (f := 6) (i := 0) (k := 4) v6 ⟨by decide, Or.inl ⟨rfl, rfl⟩⟩ (by decide) rfl
    rw [eg] at a6 r4
    refine ⟨fun z => absurd z (nI_ge (b := 4) (by omega) (by decide)), fun _ => ⟨a6, _, r4, ⟨by omega, by omega⟩, fun q hq ht v35 e35 => ⟨2, 6, ⟨by omega, by omega⟩, 2, 6, ⟨by omega, by omega⟩, ?_⟩⟩⟩
    have hk2 : 2 = tt_k 3 w := (if_pos (show w < 4 by omega)).symm
    obtain ⟨f0, f3, f4, f5⟩ := tt_0i (T := tt_Z w) (fun _ _ _ => rfl) w
    refine cx_init5 hk2 h (by omega) hq ht (tt_lL (by omega)) (tt_lL (by omega)) f0 f3 f4 f5 rfl (fun S2 G2 g6 g3 g4 w2 k2 => ?_)
    have v3 : jV (w + 1) 3 w := Or.inr (Or.inr ⟨rfl, by omega⟩)
    have a3 := w2.A v3
    obtain ⟨w3, k3⟩ := w2.setI (f0 := 3) (i0 := w) (k0 := 7) (v := v35) v3 (tt_b37 (by omega)) (by decide) (by
      show v35 = if 7 = 7 ∧ w < 4 then nI w * 5 else 0
      rw [if_pos ⟨rfl, by omega⟩, e35])
    have w4 := w3.wk (V' := jV (w + 1)) (F' := jF (w + 1)) (fun f i => Iff.rfl) (fun f i k v z => by
      unfold jF at z ⊢
      omega)
    rw [g3] at a3 k3 w4
    rw [← hk2] at a3
    have l4 : tl (tt_Z w) 4 = List.range w := tt_lS
    have al := w4.A (f := 4) (i := 4) (Or.inr (Or.inl ⟨rfl, Or.inl (by decide)⟩))
    have ad := w4.add (m9 := m9) (mc := 1) (ms := 610) (j := 4) (e := w) (post := fun (_ : Int32) (S43 : qs_S) => ∀ v45 : Int32, v45 = nI w + 1 → wp_X6_init_b82 t0 m9 mc ms post (r + 1) (6 + 4 * w + 1 + 2 + 1) (18 + 624 * w + 8 + 6 + 610) S43 (G 6 0) v45) (Or.inr (Or.inl ⟨rfl, Or.inl (by decide)⟩)) v3 (by rw [l4, List.length_range]; omega) (Nat.le_refl _) (Nat.le_refl _) (fun S5 w5 k5 v45 e45 => ?_)
    · have e3 : G2 (tt_lc 4) w = q := g3
      rw [g4 4 (by decide)] at ad al
      rw [e3] at ad
      exact ⟨a3, al, 1, 610, ⟨by omega, by omega⟩, ad⟩
    · rw [e45, nI_1]
      have eT : tt_L (tt_Z w) 4 (tl (tt_Z w) 4 ++ [w]) = tt_Z (w + 1) := by
        rw [l4]
        unfold tt_Z
        rw [tt_LL, List.range_succ]
      rw [eT] at w5
      have := ih (w + 1) S5 G2 (by omega) (g6.trans eg) w5 (((hk.tr k2).tr k3).tr k5)
      rw [show 6 + 4 * (w + 1) = 6 + 4 * w + 1 + 2 + 1 by omega, show 18 + 624 * (w + 1) = 18 + 624 * w + 8 + 6 + 610 by omega] at this
      exact this
theorem cx_initT (hp : ∀ (S' : qs_S) (G' : Nat → Nat → Nat), G' 6 0 = G 6 0 → tx_W (jV 8) (jF 8) t0 S' G' (tt_Y 4) → tx_K t0 S S' → post S') (hmc : 38 ≤ mc) (hms : 5010 ≤ ms) : ∀ (r u : Nat) (S1 : qs_S) (G1 : Nat → Nat → Nat), u + r = 4 → G1 6 0 = G 6 0 → tx_W (jV (4 + u)) (jF (4 + u)) t0 S1 G1 (tt_Y u) → tx_K t0 S S1 → wp_X6_init_b114 t0 m9 mc ms post (r + 1) (22 + 4 * u) (2514 + 624 * u) S1 (G 6 0) (nI u) := by
  intro r
  induction r with
  | zero =>
    intro w S1 G1 hi eg h hk
    have : w = 4 := hi
    subst this
    exact ⟨fun _ => hp S1 G1 eg h hk, fun z => absurd (by decide) z⟩
  | succ r ih =>
    intro w S1 G1 hi eg h hk
    have v6 : jV (4 + w) 6 0 := Or.inl ⟨rfl, rfl⟩
    have a6 := h.A v6
    have r4 := h.fR (f := 6) (i := 0) (k := 5) v6 ⟨by decide, Or.inl ⟨rfl, rfl⟩⟩ (by decide) rfl
    rw [eg] at a6 r4
    refine ⟨fun z => absurd z (nI_ge (b := 4) (by omega) (by decide)), fun _ => ⟨a6, _, r4, ⟨by omega, by omega⟩, fun q hq ht v12 e12 => ⟨2, 6, ⟨by omega, by omega⟩, 2, 6, ⟨by omega, by omega⟩, ?_⟩⟩⟩
    have hk2 : 5 = tt_k 3 (4 + w) := (if_neg (show ¬ 4 + w < 4 by omega)).symm
    obtain ⟨f0, f3, f4, f5⟩ := tt_0i (T := tt_Y w) (fun _ _ _ => rfl) (4 + w)
    have e12' : v12 = nI (4 + w) := by rw [e12]; exact nI_add 4 w
    rw [e12']
    refine cx_init5 hk2 h (by omega) hq ht ((tt_lL (by omega)).trans (tt_lL (by omega))) ((tt_lL (by omega)).trans (tt_lL (by omega))) f0 f3 f4 f5 rfl (fun S2 G2 g6 g3 g4 w2 k2 => ?_)
    have v3 : jV (4 + w + 1) 3 (4 + w) := Or.inr (Or.inr ⟨rfl, by omega⟩)
    have a3 := w2.A v3
    obtain ⟨w3, k3⟩ := w2.setR (f0 := 3) (i0 := 4 + w) (k0 := 7) (v := none) v3 (tt_b37t (by omega)) (by decide) rfl (fun x e => absurd e (by show ¬ 0 = x + 1; omega))
    have w4 := w3.wk (V' := jV (4 + w + 1)) (F' := jF (4 + w + 1)) (fun f i => Iff.rfl) (fun f i k v z => by
      unfold jF at z ⊢
      omega)
    rw [g3] at a3 k3 w4
    rw [← hk2] at a3
    have l4 : tl (tt_Y w) 5 = (List.range w).map (4 + ·) := tt_lS
    have al := w4.A (f := 4) (i := 5) (Or.inr (Or.inl ⟨rfl, Or.inl (by decide)⟩))
    have ad := w4.add (m9 := m9) (mc := 1) (ms := 610) (j := 5) (e := 4 + w) (post := fun (_ : Int32) (S43 : qs_S) => ∀ v45 : Int32, v45 = nI w + 1 → wp_X6_init_b114 t0 m9 mc ms post (r + 1) (22 + 4 * w + 1 + 2 + 1) (2514 + 624 * w + 8 + 6 + 610) S43 (G 6 0) v45) (Or.inr (Or.inl ⟨rfl, Or.inl (by decide)⟩)) v3 (by rw [l4, List.length_map, List.length_range]; omega) (Nat.le_refl _) (Nat.le_refl _) (fun S5 w5 k5 v45 e45 => ?_)
    · have e3 : G2 (tt_lc 5) (4 + w) = q := g3
      rw [g4 5 (by decide)] at ad al
      rw [e3] at ad
      exact ⟨a3, al, 1, 610, ⟨by omega, by omega⟩, ad⟩
    · rw [e45, nI_1]
      have eT : tt_L (tt_Y w) 5 (tl (tt_Y w) 5 ++ [4 + w]) = tt_Y (w + 1) := by
        rw [l4]
        unfold tt_Y
        rw [tt_LL, List.range_succ, List.map_append]
        rfl
      rw [eT] at w5
      have := ih (w + 1) S5 G2 (by omega) (g6.trans eg) w5 (((hk.tr k2).tr k3).tr k5)
      rw [show 22 + 4 * (w + 1) = 22 + 4 * w + 1 + 2 + 1 by omega, show 2514 + 624 * (w + 1) = 2514 + 624 * w + 8 + 6 + 610 by omega] at this
      exact this
theorem cx_init {x : Nat} (hx : x ∈ qs_L S) (hk : qs_K S x = 6) (ht : t0 ∉ qs_L S) (hmc : 38 ≤ mc) (hms : 5010 ≤ ms) (hp : ∀ (S' : qs_S) (G' : Nat → Nat → Nat), G' 6 0 = x → tx_R t0 S' G' (tt_Y 4) → tx_K t0 S S' → post S') : wp_X6_init t0 m9 mc ms post S x := by
  have w0 : tx_W (iV 0) (iF 0) t0 S (fun _ _ => x) tt_0 := by
    have e6 : ∀ {f i}, iV 0 f i → f = 6 ∧ i = 0 := fun v => v.elim id (fun z => absurd z.2 (Nat.not_lt_zero _))
    have n4 : ∀ {i}, ¬ iV 0 4 i := fun v => absurd (e6 v).1 (by decide)
    refine ⟨fun f i v => ⟨hx, ?_, fun k _ hf => absurd hf.2.2 (Nat.not_lt_zero _)⟩, fun f i f' i' v v' _ => ⟨(e6 v).1.trans (e6 v').1.symm, (e6 v).2.trans (e6 v').2.symm⟩, ht, ⟨fun _ => t0, fun j v => absurd v n4, fun i j v => absurd v n4⟩, fun j e v => absurd v n4, fun f i k v hk hf => absurd hf.2.2 (Nat.not_lt_zero _)⟩
    rw [(e6 v).1, (e6 v).2]
    exact hk
  refine ⟨⟨by omega, by omega⟩, fun q0 h0 t0' => cx_initL rfl w0 (by decide) rfl h0 t0' (fun S1 G1 a1 e1 w1 k1 => ⟨a1, ⟨by omega, by omega⟩, fun q1 h1 t1 => cx_initL e1 w1 (by decide) rfl h1 t1 (fun S2 G2 a2 e2 w2 k2 => ⟨a2, ⟨by omega, by omega⟩, fun q2 h2 t2 => cx_initL e2 w2 (by decide) rfl h2 t2 (fun S3 G3 a3 e3 w3 k3 => ⟨a3, ⟨by omega, by omega⟩, fun q3 h3 t3 => cx_initL e3 w3 (by decide) rfl h3 t3 (fun S4 G4 a4 e4 w4 k4 => ⟨a4, ⟨by omega, by omega⟩, fun q4 h4 t4 => cx_initL e4 w4 (by decide) rfl h4 t4 (fun S5 G5 a5 e5 w5 k5 => ⟨a5, ⟨by omega, by omega⟩, fun q5 h5 t5 => cx_initL e5 w5 (by decide) rfl h5 t5 (fun S6 G6 a6 e6 w6 k6 => ⟨a6, 5, ?_⟩)⟩)⟩)⟩)⟩)⟩)⟩
  have v6 : iV 6 6 0 := Or.inl ⟨rfl, rfl⟩
  obtain ⟨w7, k7⟩ := w6.setI (f0 := 6) (i0 := 0) (k0 := 6) (v := 0) v6 rfl (by decide) rfl
  obtain ⟨w8, k8⟩ := w7.setI (f0 := 6) (i0 := 0) (k0 := 7) (v := 0) v6 rfl (by decide) rfl
  rw [e6] at w8 k7 k8
  have w9 := w8.wk (V' := jV 0) (F' := jF 0) (fun f i => by unfold iV jV; omega) (fun f i k v z => by
    unfold jF at z
    unfold iF
    omega)
  have eZ : tt_Z 0 = tt_0 := by
    unfold tt_Z
    exact tt_L_self (T := tt_0) (j := 4)
  rw [← eZ] at w9
  have K := ((((((k1.tr k2).tr k3).tr k4).tr k5).tr k6).tr k7).tr k8
  have goalC := cx_initC (S := S) (G := G6) (m9 := m9) (post := post) (fun S7 G7 e7 w10 k10 => ⟨5, ?_⟩) hmc hms 4 0 _ G6 rfl rfl w9 K
  · rw [e6] at goalC
    exact goalC
  have eY : tt_Y 0 = tt_Z 4 := by
    unfold tt_Y
    exact tt_L_self (T := tt_Z 4) (j := 5)
  rw [← eY] at w10
  refine cx_initT (S := S) (G := G7) (fun S8 G8 e8 w11 k11 => hp S8 G8 ((e8.trans e7).trans e6) (w11.R (fun f i => ?_) (fun f i k v hk => ?_)) k11) hmc hms 4 0 S7 G7 rfl rfl w10 k10
  · have l0 : tl (tt_Y 4) 0 = [] := rfl
    have l1 : tl (tt_Y 4) 1 = [] := rfl
    have l2 : tl (tt_Y 4) 2 = [] := rfl
    unfold tt_v jV
    rw [l0, l1, l2]
    simp only [List.length_nil]
    omega
  · unfold jV at v
    unfold jF
    rcases v with v | v | v
    · rw [v.1] at hk
      exact ⟨hk, Or.inl v⟩
    · rw [v.1] at hk
      exact absurd hk (Nat.not_lt_zero _)
    · rw [v.1] at hk
      exact ⟨hk, Or.inr v⟩
end TXI
