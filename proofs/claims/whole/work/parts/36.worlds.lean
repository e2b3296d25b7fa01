/-! ===== the state in the making: V says which objects there are, F which of their fields hold ===== -/
def tt_rc (f : Nat) : Nat := if f = 1 then 0 else if f = 2 then 1 else 2
def tt_tv (V : Nat → Nat → Prop) (T : tt_T) (f k i : Nat) : Prop := if f = 6 then V 4 k else if f = 3 ∧ k = 1 then V 4 (6 + i) else if f = 3 ∧ k = 2 then V 4 (14 + i) else ∀ x, tr T f k i = x + 1 → V (tt_rc f) x
def tx_W (V : Nat → Nat → Prop) (F : Nat → Nat → Nat → Prop) (t0 : Nat) (S : qs_S) (G : Nat → Nat → Nat) (T : tt_T) : Prop :=
  (∀ f i, V f i → G f i ∈ qs_L S ∧ qs_K S (G f i) = tt_k f i ∧ ∀ k, k < tt_n f → F f i k → if tt_b f k i = true then qs_R S k (G f i) = tt_e G T f k i else qs_I S k (G f i) = ti T f k i) ∧
  (∀ f i f' i', V f i → V f' i' → G f i = G f' i' → f = f' ∧ i = i') ∧ t0 ∉ qs_L S ∧
  (∃ dd : Nat → Nat, (∀ j, V 4 j → ps_Ls t0 S (G 4 j) (dd j) ((tl T j).map (G (tt_lc j)))) ∧ ∀ i j, V 4 i → V 4 j → dd i = dd j → dd i ≠ t0 → i = j) ∧ (∀ j e, V 4 j → e ∈ tl T j → V (tt_lc j) e) ∧
  ∀ f i k, V f i → k < tt_n f → F f i k → tt_b f k i = true → tt_tv V T f k i
def tt_G (G : Nat → Nat → Nat) (f0 i0 q : Nat) (f i : Nat) : Nat := if f = f0 ∧ i = i0 then q else G f i
theorem tt_Gn {G : Nat → Nat → Nat} {f0 i0 q f i : Nat} (h : ¬ (f = f0 ∧ i = i0)) : tt_G G f0 i0 q f i = G f i := if_neg h
theorem tt_Gs {G : Nat → Nat → Nat} {f0 i0 q : Nat} : tt_G G f0 i0 q f0 i0 = q := if_pos ⟨rfl, rfl⟩
theorem tt_o_ex {G : Nat → Nat → Nat} {f0 i0 q f n : Nat} (h : ∀ x, n = x + 1 → ¬ (f = f0 ∧ x = i0)) : tt_o (tt_G G f0 i0 q f) n = tt_o (G f) n := by
  cases n with
  | zero => rfl
  | succ x => exact congrArg some (tt_Gn (h x rfl))
theorem tt_e_new {G : Nat → Nat → Nat} {T : tt_T} {V : Nat → Nat → Prop} {f0 i0 q f k i : Nat} (hn : ¬ V f0 i0) (h : tt_tv V T f k i) : tt_e (tt_G G f0 i0 q) T f k i = tt_e G T f k i := by
  unfold tt_tv at h
  unfold tt_e
  split
  · rename_i c
    rw [if_pos c] at h
    exact congrArg some (tt_Gn (fun z => hn (z.1 ▸ z.2 ▸ h)))
  · rename_i c
    rw [if_neg c] at h
    split
    · rename_i c2
      rw [if_pos c2] at h
      exact congrArg some (tt_Gn (fun z => hn (z.1 ▸ z.2 ▸ h)))
    · rename_i c2
      rw [if_neg c2] at h
      split
      · rename_i c3
        rw [if_pos c3] at h
        exact congrArg some (tt_Gn (fun z => hn (z.1 ▸ z.2 ▸ h)))
      · rename_i c3
        rw [if_neg c3] at h
        have g : ∀ x, tr T f k i = x + 1 → ¬ (tt_rc f = f0 ∧ x = i0) := fun x e z => hn (z.1 ▸ z.2 ▸ h x e)
        unfold tt_rc at g
        split
        · rename_i c4
          rw [if_pos c4] at g
          exact tt_o_ex g
        · rename_i c4
          rw [if_neg c4] at g
          split
          · rename_i c5
            rw [if_pos c5] at g
            exact tt_o_ex g
          · rename_i c5
            rw [if_neg c5] at g
            exact tt_o_ex g
theorem tt_tv_wk {V V' : Nat → Nat → Prop} {T : tt_T} {f k i : Nat} (hV : ∀ f i, V f i → V' f i) (h : tt_tv V T f k i) : tt_tv V' T f k i := by
  unfold tt_tv at h ⊢
  split
  · rename_i c
    rw [if_pos c] at h
    exact hV _ _ h
  · rename_i c
    rw [if_neg c] at h
    split
    · rename_i c2
      rw [if_pos c2] at h
      exact hV _ _ h
    · rename_i c2
      rw [if_neg c2] at h
      split
      · rename_i c3
        rw [if_pos c3] at h
        exact hV _ _ h
      · rename_i c3
        rw [if_neg c3] at h
        exact fun x e => hV _ _ (h x e)
section TXW
variable {t0 m9 mc ms : Nat} {S : qs_S} {G : Nat → Nat → Nat} {T : tt_T} {V : Nat → Nat → Prop} {F : Nat → Nat → Nat → Prop}
theorem tx_W.A (h : tx_W V F t0 S G T) {f i : Nat} (v : V f i) : G f i ∈ qs_L S ∧ qs_K S (G f i) = tt_k f i := ⟨(h.1 f i v).1, (h.1 f i v).2.1⟩
theorem tx_W.wk (h : tx_W V F t0 S G T) {V' : Nat → Nat → Prop} {F' : Nat → Nat → Nat → Prop} (hV : ∀ f i, V' f i ↔ V f i) (hF : ∀ f i k, V f i → F' f i k → F f i k) : tx_W V' F' t0 S G T := by
  obtain ⟨h1, h2, h3, ⟨dd, h4, h5⟩, h6, h7⟩ := h
  exact ⟨fun f i v => ⟨(h1 f i ((hV f i).mp v)).1, (h1 f i ((hV f i).mp v)).2.1, fun k hk hf => (h1 f i ((hV f i).mp v)).2.2 k hk (hF f i k ((hV f i).mp v) hf)⟩, fun f i f' i' v v' => h2 f i f' i' ((hV f i).mp v) ((hV f' i').mp v'), h3, ⟨dd, fun j v => h4 j ((hV _ _).mp v), fun i j v v' => h5 i j ((hV _ _).mp v) ((hV _ _).mp v')⟩, fun j e v he => (hV _ _).mpr (h6 j e ((hV _ _).mp v) he), fun f i k v hk hf hb => tt_tv_wk (fun f i => (hV f i).mpr) (h7 f i k ((hV _ _).mp v) hk (hF f i k ((hV f i).mp v) hf) hb)⟩
theorem tx_W.dd10 {dd : Nat → Nat} (h4 : ∀ j, V 4 j → ps_Ls t0 S (G 4 j) (dd j) ((tl T j).map (G (tt_lc j)))) {j : Nat} (v : V 4 j) (hd : dd j ≠ t0) : dd j ∈ qs_L S ∧ qs_K S (dd j) = 10 := by
  rcases (h4 j v).2.2.2.2.1 with ⟨e, -⟩ | ⟨-, e1, e2, -⟩
  · exact absurd e hd
  · exact ⟨e1, e2⟩
/-- a new object, no field of it holds yet -/
theorem tx_W.new (h : tx_W V F t0 S G T) {f0 i0 q : Nat} (hn : ¬ V f0 i0) (hF : ∀ k, ¬ F f0 i0 k) (hf : f0 ≠ 4) (hq : q ∉ qs_L S) (ht : q ≠ t0) : tx_W (fun f i => V f i ∨ (f = f0 ∧ i = i0)) F t0 (qs_nw S q (tt_k f0 i0)) (tt_G G f0 i0 q) T ∧ tx_K t0 S (qs_nw S q (tt_k f0 i0)) := by
  obtain ⟨h1, h2, h3, ⟨dd, h4, h5⟩, h6, h7⟩ := h
  have fr : ∀ P, ps_Fr t0 S (qs_nw S q (tt_k f0 i0)) P := fun P => ps_Fr.nw hq ht
  have ne : ∀ {f i}, V f i → ¬ (f = f0 ∧ i = i0) := fun v z => hn (z.1 ▸ z.2 ▸ v)
  have e4 : ∀ j, tt_G G f0 i0 q 4 j = G 4 j := fun j => tt_Gn (fun z => hf z.1.symm)
  have v4 : ∀ {j}, (V 4 j ∨ (4 = f0 ∧ j = i0)) → V 4 j := fun v => v.elim id (fun z => absurd z.1.symm hf)
  refine ⟨⟨fun f i v => ?_, fun f i f' i' v v' e => ?_, (fr (fun _ => False)).2.2 h3, ⟨dd, fun j v => ?_, fun i j v v' => h5 i j (v4 v) (v4 v')⟩, fun j e v he => Or.inl (h6 j e (v4 v) he), fun f i k v hk hf hb => ?_⟩, fr _⟩
  · rcases v with v | v
    · rw [tt_Gn (ne v)]
      have b := (fr (fun _ => False)).1 _ (h1 f i v).1
      have s := (fr (fun _ => False)).2.1 _ (h1 f i v).1 (fun z => z)
      refine ⟨b.1, b.2.trans (h1 f i v).2.1, fun k hk hf => ?_⟩
      have z := (h1 f i v).2.2 k hk hf
      cases hbb : tt_b f k i with
      | true =>
        rw [hbb] at z
        have tv := h7 f i k v hk hf hbb
        exact ((s.2.1 k).trans z).trans (tt_e_new hn tv).symm
      | false => rw [hbb] at z; exact (s.1 k).trans z
    · rw [v.1, v.2, tt_Gs]
      exact ⟨List.mem_append_right _ (List.mem_singleton.mpr rfl), if_pos rfl, fun k _ hf => absurd hf (hF k)⟩
  · rcases v with v | v <;> rcases v' with v' | v'
    · rw [tt_Gn (ne v), tt_Gn (ne v')] at e
      exact h2 f i f' i' v v' e
    · rw [tt_Gn (ne v), v'.1, v'.2, tt_Gs] at e
      exact absurd (e ▸ (h1 f i v).1) hq
    · rw [tt_Gn (ne v'), v.1, v.2, tt_Gs] at e
      exact absurd (e.symm ▸ (h1 f' i' v').1) hq
    · exact ⟨v.1.trans v'.1.symm, v.2.trans v'.2.symm⟩
  · have v' := v4 v
    have l := (h4 j v').fr (fr (fun _ => False)) (fun z => z) (fun _ z => z)
    have em : (tl T j).map (tt_G G f0 i0 q (tt_lc j)) = (tl T j).map (G (tt_lc j)) := List.map_congr_left (fun e he => tt_Gn (ne (h6 j e v' he)))
    rw [e4, em]
    exact l
  · rcases v with v | v
    · exact tt_tv_wk (fun _ _ => Or.inl) (h7 f i k v hk hf hb)
    · exact absurd hf (v.1 ▸ v.2 ▸ hF k)
/-- a new list, empty -/
theorem tx_W.newL (h : tx_W V F t0 S G T) {j0 q : Nat} (hn : ¬ V 4 j0) (hF : ∀ k, ¬ F 4 j0 k) (he : tl T j0 = []) (hq : q ∉ qs_L S) (ht : q ≠ t0) {post : qs_S → Prop} (hp : ∀ S', tx_W (fun f i => V f i ∨ (f = 4 ∧ i = j0)) F t0 S' (tt_G G 4 j0 q) T → tx_K t0 S S' → (∀ b, b ∈ qs_L S → ps_Sm S S' b) → post S') : wp_Jx4a65c_init_da8c8 t0 m9 post (qs_nw S q 0) q := by
  have hqL : q ∈ qs_L (qs_nw S q 0) := List.mem_append_right _ (List.mem_singleton.mpr rfl)
  have hqK : qs_K (qs_nw S q 0) q = 0 := if_pos rfl
  refine ⟨⟨hqL, hqK⟩, ⟨hqL, hqK⟩, hp _ ?_ ?_ ?_⟩
  all_goals
    obtain ⟨h1, h2, h3, ⟨dd, h4, h5⟩, h6, h7⟩ := h
    have f1 : ps_Fr t0 (qs_nw S q 0) (qs_wR (qs_wI (qs_nw S q 0) 0 q 0) 1 q (some t0)) (fun b => b = q) := (ps_Fr.wI (P := fun b => b = q) rfl).tr (ps_Fr.wR (P := fun b => b = q) rfl)
    have f0 : ∀ P, ps_Fr t0 S (qs_nw S q 0) P := fun P => ps_Fr.nw hq ht
    have fr : ps_Fr t0 S (qs_wR (qs_wI (qs_nw S q 0) 0 q 0) 1 q (some t0)) (fun _ => False) := ⟨fun b hb => ⟨(f1.1 b ((f0 (fun _ => False)).1 b hb).1).1, (f1.1 b ((f0 (fun _ => False)).1 b hb).1).2.trans ((f0 (fun _ => False)).1 b hb).2⟩, fun b hb hx => ((f0 (fun _ => False)).2.1 b hb hx).tr (f1.2.1 b ((f0 (fun _ => False)).1 b hb).1 (fun z => hq (z ▸ hb))), fun z => f1.2.2 ((f0 (fun _ => False)).2.2 z)⟩
  · have ne : ∀ {f i}, V f i → ¬ (f = 4 ∧ i = j0) := fun v z => hn (z.1 ▸ z.2 ▸ v)
    refine ⟨fun f i v => ?_, fun f i f' i' v v' e => ?_, fr.2.2 h3, ⟨fun j => if j = j0 then t0 else dd j, fun j v => ?_, fun i j v v' e hd => ?_⟩, fun j e v hm => ?_, fun f i k v hk hf hb => ?_⟩
    · rcases v with v | v
      · rw [tt_Gn (ne v)]
        have b := fr.1 _ (h1 f i v).1
        have s := fr.2.1 _ (h1 f i v).1 (fun z => z)
        refine ⟨b.1, b.2.trans (h1 f i v).2.1, fun k hk hf => ?_⟩
        have z := (h1 f i v).2.2 k hk hf
        cases hbb : tt_b f k i with
        | true =>
          rw [hbb] at z
          have tv := h7 f i k v hk hf hbb
          exact ((s.2.1 k).trans z).trans (tt_e_new hn tv).symm
        | false => rw [hbb] at z; exact (s.1 k).trans z
      · rw [v.1, v.2, tt_Gs]
        exact ⟨hqL, hqK, fun k hk => absurd hk (Nat.not_lt_zero _)⟩
    · rcases v with v | v <;> rcases v' with v' | v'
      · rw [tt_Gn (ne v), tt_Gn (ne v')] at e
        exact h2 f i f' i' v v' e
      · rw [tt_Gn (ne v), v'.1, v'.2, tt_Gs] at e
        exact absurd (e ▸ (h1 f i v).1) hq
      · rw [tt_Gn (ne v'), v.1, v.2, tt_Gs] at e
        exact absurd (e.symm ▸ (h1 f' i' v').1) hq
      · exact ⟨v.1.trans v'.1.symm, v.2.trans v'.2.symm⟩
    · by_cases c : j = j0
      · rw [c, he, tt_Gs]
        show ps_Ls t0 _ q (if j0 = j0 then t0 else dd j0) []
        rw [if_pos rfl]
        refine ⟨hqL, hqK, ?_, ?_, Or.inl ⟨rfl, rfl⟩, fun y hy => absurd hy List.not_mem_nil⟩
        · show (if 1 = 1 ∧ q = q then some t0 else _) = some t0
          exact if_pos ⟨rfl, rfl⟩
        · show (if 2 = 0 ∧ q = q then (0 : Int32) else if q = q then 0 else qs_I S 2 q) = nI 0
          rw [if_neg (by omega), if_pos rfl]
          decide
      · have v' : V 4 j := v.elim id (fun z => absurd z.2 c)
        have l := (h4 j v').fr fr (fun z => z) (fun _ z => z)
        have em : (tl T j).map (tt_G G 4 j0 q (tt_lc j)) = (tl T j).map (G (tt_lc j)) := List.map_congr_left (fun e he => tt_Gn (ne (h6 j e v' he)))
        rw [em, tt_Gn (ne v')]
        show ps_Ls t0 _ (G 4 j) (if j = j0 then t0 else dd j) _
        rw [if_neg c]
        exact l
    · have e' : (if i = j0 then t0 else dd i) = (if j = j0 then t0 else dd j) := e
      have hd' : (if i = j0 then t0 else dd i) ≠ t0 := hd
      by_cases c : i = j0
      · rw [if_pos c] at hd'
        exact absurd rfl hd'
      · rw [if_neg c] at hd' e'
        by_cases c' : j = j0
        · rw [if_pos c'] at e'
          exact absurd e' hd'
        · rw [if_neg c'] at e'
          exact h5 i j (v.elim id (fun z => absurd z.2 c)) (v'.elim id (fun z => absurd z.2 c')) e' hd'
    · rcases v with v | v
      · exact Or.inl (h6 j e v hm)
      · rw [v.2, he] at hm
        exact absurd hm List.not_mem_nil
    · rcases v with v | v
      · exact tt_tv_wk (fun _ _ => Or.inl) (h7 f i k v hk hf hb)
      · exact absurd hf (v.1 ▸ v.2 ▸ hF k)
  · exact fr.wk (fun _ _ z => z.elim)
  · exact fun b hb => fr.2.1 b hb (fun z => z)
/-- a field is set -/
theorem tx_W.setI (h : tx_W V F t0 S G T) {f0 i0 k0 : Nat} {v : Int32} (hv : V f0 i0) (hb : tt_b f0 k0 i0 = false) (hf : f0 ≠ 4) (ev : v = ti T f0 k0 i0) : tx_W V (fun f i k => F f i k ∨ (f = f0 ∧ i = i0 ∧ k = k0)) t0 (qs_wI S k0 (G f0 i0) v) G T ∧ tx_K t0 S (qs_wI S k0 (G f0 i0) v) := by
  obtain ⟨h1, h2, h3, ⟨dd, h4, h5⟩, h6, h7⟩ := h
  have hkf := (h1 f0 i0 hv).2.1
  have fr : ps_Fr t0 S (qs_wI S k0 (G f0 i0) v) (fun b => b = G f0 i0) := ps_Fr.wI rfl
  refine ⟨⟨fun f i w => ⟨(h1 f i w).1, (h1 f i w).2.1, fun k hk hF => ?_⟩, h2, h3, ⟨dd, fun j w => (h4 j w).fr fr (fun z => ?_) (fun hd z => ?_), h5⟩, h6, fun f i k w hk hF hbb => ?_⟩, fr.wk (fun b hb z => by rw [z, hkf]; exact Or.inl tt_k7)⟩
  · cases hbb : tt_b f k i with
    | true =>
      rcases hF with hF | hF
      · have z := (h1 f i w).2.2 k hk hF
        rw [hbb] at z
        exact z
      · rw [hF.1, hF.2.1, hF.2.2, hb] at hbb
        cases hbb
    | false =>
      show (if k = k0 ∧ G f i = G f0 i0 then v else qs_I S k (G f i)) = ti T f k i
      by_cases c : k = k0 ∧ G f i = G f0 i0
      · rw [if_pos c, ev]
        obtain ⟨y1, y2⟩ := h2 f i f0 i0 w hv c.2
        rw [y1, y2, c.1]
      · rw [if_neg c]
        rcases hF with hF | hF
        · have z := (h1 f i w).2.2 k hk hF
          rw [hbb] at z
          exact z
        · exact absurd ⟨hF.2.2, by rw [hF.1, hF.2.1]⟩ c
  · have : qs_K S (G f0 i0) = 0 := by rw [← z]; exact (h4 j w).2.1
    rw [hkf] at this
    exact tt_kn4 hf this
  · have := (tx_W.dd10 h4 w hd).2
    rw [z, hkf] at this
    have := @tt_k7 f0 i0
    omega
  · rcases hF with hF | hF
    · exact h7 f i k w hk hF hbb
    · rw [hF.1, hF.2.1, hF.2.2, hb] at hbb
      cases hbb
theorem tx_W.setR (h : tx_W V F t0 S G T) {f0 i0 k0 : Nat} {v : Option Nat} (hv : V f0 i0) (hb : tt_b f0 k0 i0 = true) (hf : f0 ≠ 4) (ev : v = tt_e G T f0 k0 i0) (tv : tt_tv V T f0 k0 i0) : tx_W V (fun f i k => F f i k ∨ (f = f0 ∧ i = i0 ∧ k = k0)) t0 (qs_wR S k0 (G f0 i0) v) G T ∧ tx_K t0 S (qs_wR S k0 (G f0 i0) v) := by
  obtain ⟨h1, h2, h3, ⟨dd, h4, h5⟩, h6, h7⟩ := h
  have hkf := (h1 f0 i0 hv).2.1
  have fr : ps_Fr t0 S (qs_wR S k0 (G f0 i0) v) (fun b => b = G f0 i0) := ps_Fr.wR rfl
  refine ⟨⟨fun f i w => ⟨(h1 f i w).1, (h1 f i w).2.1, fun k hk hF => ?_⟩, h2, h3, ⟨dd, fun j w => (h4 j w).fr fr (fun z => ?_) (fun hd z => ?_), h5⟩, h6, fun f i k w hk hF hbb => ?_⟩, fr.wk (fun b hb z => by rw [z, hkf]; exact Or.inl tt_k7)⟩
  · cases hbb : tt_b f k i with
    | false =>
      rcases hF with hF | hF
      · have z := (h1 f i w).2.2 k hk hF
        rw [hbb] at z
        exact z
      · rw [hF.1, hF.2.1, hF.2.2, hb] at hbb
        cases hbb
    | true =>
      show (if k = k0 ∧ G f i = G f0 i0 then v else qs_R S k (G f i)) = tt_e G T f k i
      by_cases c : k = k0 ∧ G f i = G f0 i0
      · rw [if_pos c, ev]
        obtain ⟨y1, y2⟩ := h2 f i f0 i0 w hv c.2
        rw [y1, y2, c.1]
      · rw [if_neg c]
        rcases hF with hF | hF
        · have z := (h1 f i w).2.2 k hk hF
          rw [hbb] at z
          exact z
        · exact absurd ⟨hF.2.2, by rw [hF.1, hF.2.1]⟩ c
  · have : qs_K S (G f0 i0) = 0 := by rw [← z]; exact (h4 j w).2.1
    rw [hkf] at this
    exact tt_kn4 hf this
  · have := (tx_W.dd10 h4 w hd).2
    rw [z, hkf] at this
    have := @tt_k7 f0 i0
    omega
  · rcases hF with hF | hF
    · exact h7 f i k w hk hF hbb
    · rw [hF.1, hF.2.1, hF.2.2]
      exact tv
/-- an element more -/
theorem tx_W.add (h : tx_W V F t0 S G T) {j e : Nat} (hj : V 4 j) (he : V (tt_lc j) e) (hn : (tl T j).length ≤ 400) (hmc : 1 ≤ mc) (hms : 610 ≤ ms) {post : Int32 → qs_S → Prop}
    (hp : ∀ S', tx_W V F t0 S' G (tt_L T j (tl T j ++ [e])) → tx_K t0 S S' → post 1 S') : wp_Jx4a65c_add_9ea2d t0 m9 mc ms post S (G 4 j) (G (tt_lc j) e) := by
  obtain ⟨h1, h2, h3, ⟨dd, h4, h5⟩, h6, h7⟩ := h
  refine pl_add (h4 j hj) h3 (by rw [List.length_map]; exact hn) hmc (by rw [List.length_map]; omega) (h1 _ _ he).1 (by rw [(h1 _ _ he).2.1]; exact Nat.lt_of_lt_of_le tt_k7 (by decide)) (fun S' d' g1 g2 g4 g3 => ?_)
  have hdK : ∀ i, V 4 i → dd i ≠ t0 → dd i ∈ qs_L S ∧ qs_K S (dd i) = 10 := fun i hi hd => tx_W.dd10 h4 hi hd
  have nP : ∀ f i, V f i → f ≠ 4 → ¬ (G f i = G 4 j ∨ G f i = dd j) := by
    intro f i hv hf z
    rcases z with z | z
    · exact hf (h2 f i 4 j hv hj z).1
    · by_cases hd : dd j = t0
      · exact h3 (hd ▸ z ▸ (h1 f i hv).1)
      · have := (hdK j hj hd).2
        rw [← z, (h1 f i hv).2.1] at this
        have := @tt_k7 f i
        omega
  refine hp S' ⟨fun f i hv => ?_, h2, g3.2.2 h3, ⟨fun i => if i = j then d' else dd i, fun i hi => ?_, fun i i' hi hi' e hne => ?_⟩, fun i e' hi he' => ?_, h7⟩ (g3.wk (fun b hb z => ?_))
  · have b := g3.1 (G f i) (h1 f i hv).1
    refine ⟨b.1, b.2.trans (h1 f i hv).2.1, fun k hk hF => ?_⟩
    have hf : f ≠ 4 := by
      intro e
      rw [e] at hk
      exact absurd hk (Nat.not_lt_zero _)
    have s := g3.2.1 (G f i) (h1 f i hv).1 (nP f i hv hf)
    have z := (h1 f i hv).2.2 k hk hF
    cases hbb : tt_b f k i with
    | true => rw [hbb] at z; exact (s.2.1 k).trans z
    | false => rw [hbb] at z; exact (s.1 k).trans z
  · by_cases c : i = j
    · subst c
      show ps_Ls t0 S' (G 4 i) (if i = i then d' else dd i) ((if i = i then tl T i ++ [e] else tl T i).map _)
      rw [if_pos rfl, if_pos rfl, List.map_append]
      exact g1
    · show ps_Ls t0 S' (G 4 i) (if i = j then d' else dd i) ((if i = j then _ else tl T i).map _)
      rw [if_neg c, if_neg c]
      refine (h4 i hi).fr g3 (fun z => ?_) (fun hd z => ?_)
      · rcases z with z | z
        · exact c (h2 4 i 4 j hi hj z).2
        · by_cases hd : dd j = t0
          · exact h3 (hd ▸ z ▸ (h4 i hi).1)
          · have := (hdK j hj hd).2
            rw [← z, (h4 i hi).2.1] at this
            exact absurd this (by decide)
      · rcases z with z | z
        · have := (hdK i hi hd).2
          rw [z, (h4 j hj).2.1] at this
          exact absurd this (by decide)
        · exact c (h5 i j hi hj z hd)
  · have e' : (if i = j then d' else dd i) = (if i' = j then d' else dd i') := e
    have hne' : (if i = j then d' else dd i) ≠ t0 := hne
    by_cases c : i = j <;> by_cases c' : i' = j
    · rw [c, c']
    · rw [if_pos c, if_neg c'] at e'
      rw [if_pos c] at hne'
      rcases g2 with z | z
      · exact c.trans (h5 j i' hj hi' (z.symm.trans e') (z ▸ hne'))
      · exact absurd (e' ▸ (hdK i' hi' (e' ▸ hne')).1) z
    · rw [if_neg c, if_pos c'] at e'
      rw [if_neg c] at hne'
      rcases g2 with z | z
      · exact (h5 i j hi hj (e'.trans z) hne').trans c'.symm
      · exact absurd (e' ▸ (hdK i hi hne').1) z
    · rw [if_neg c, if_neg c'] at e'
      rw [if_neg c] at hne'
      exact h5 i i' hi hi' e' hne'
  · have he2 : e' ∈ (if i = j then tl T j ++ [e] else tl T i) := he'
    by_cases c : i = j
    · rw [if_pos c] at he2
      rw [c]
      rcases List.mem_append.mp he2 with z | z
      · exact h6 j e' hj z
      · rw [List.mem_singleton.mp z]; exact he
    · rw [if_neg c] at he2
      exact h6 i e' hi he2
  · rcases z with z | z
    · exact Or.inl (by rw [z, (h1 4 j hj).2.1]; exact tt_k7)
    · by_cases hd : dd j = t0
      · exact absurd (hd ▸ z ▸ hb) h3
      · exact Or.inr (by rw [z]; exact (hdK j hj hd).2)
theorem tx_W.R (h : tx_W V F t0 S G T) (hV : ∀ f i, tt_v T f i ↔ V f i) (hF : ∀ f i k, V f i → k < tt_n f → F f i k) : tx_R t0 S G T := by
  obtain ⟨h1, h2, h3, ⟨dd, h4, h5⟩, h6, h7⟩ := h
  refine ⟨fun f i v => ?_, fun f i f' i' v v' => h2 f i f' i' ((hV f i).mp v) ((hV f' i').mp v'), h3, ⟨dd, fun j hj => h4 j ((hV _ _).mp (tt_v4 hj)), fun i j hi hj => h5 i j ((hV _ _).mp (tt_v4 hi)) ((hV _ _).mp (tt_v4 hj))⟩, fun j e hj he => (hV _ _).mpr (h6 j e ((hV _ _).mp (tt_v4 hj)) he)⟩
  have w := (hV f i).mp v
  exact ⟨(h1 f i w).1, (h1 f i w).2.1, fun k hk => (h1 f i w).2.2 k hk (hF f i k w hk)⟩
/-- the reference fields point to what there is -/
def tt_q (T : tt_T) : Prop := ∀ f i k, tt_v T f i → k < tt_n f → tt_b f k i = true → tt_tv (tt_v T) T f k i
/-- the state by numbers is one in the making, and the numbers of what isn't there may be any -/
theorem tx_R.W (h : tx_R t0 S G T) (hq : tt_q T) {T' : tt_T} (eI : ∀ f k i, tt_v T f i → ti T' f k i = ti T f k i) (eR : ∀ f k i, tt_v T f i → tr T' f k i = tr T f k i) (eL : ∀ j, tl T' j = tl T j) : tx_W (tt_v T) (fun f i _ => tt_v T f i) t0 S G T' := by
  obtain ⟨h1, h2, h3, ⟨dd, h4, h5⟩, h6⟩ := h
  have v4 : ∀ {j}, tt_v T 4 j → j < 22 := by
    intro j v
    rcases v with v | v | v | v | v | v
    · exact absurd v.1 (by decide)
    · exact absurd v.1 (by decide)
    · exact absurd v.1 (by decide)
    · exact absurd v.1 (by decide)
    · exact v.2
    · exact absurd v.1 (by decide)
  have ee : ∀ f k i, tt_v T f i → tt_e G T' f k i = tt_e G T f k i := by
    intro f k i v
    unfold tt_e
    rw [eR f k i v]
  refine ⟨fun f i v => ⟨(h1 f i v).1, (h1 f i v).2.1, fun k hk _ => ?_⟩, h2, h3, ⟨dd, fun j v => ?_, fun i j v v' => h5 i j (v4 v) (v4 v')⟩, fun j e v he => h6 j e (v4 v) (eL j ▸ he), fun f i k v hk _ hb => ?_⟩
  · have z := (h1 f i v).2.2 k hk
    cases hbb : tt_b f k i with
    | true => rw [hbb] at z; exact z.trans (ee f k i v).symm
    | false => rw [hbb] at z; exact z.trans (eI f k i v).symm
  · rw [eL]
    exact h4 j (v4 v)
  · have z := hq f i k v hk hb
    unfold tt_tv at z ⊢
    rw [eR f k i v]
    exact z
end TXW
