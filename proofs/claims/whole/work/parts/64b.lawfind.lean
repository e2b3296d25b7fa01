/-! ===== what the law's helpers find, by numbers ===== -/
section LCH
variable {t0 m9 c x : Nat} {S : qs_S} {G : Nat → Nat → Nat} {T : tt_T} {f : Nat → Int64}
theorem to_berth {p0 : Int32} {p1 : Int32} : tqo (fun e => e = 0 ∨ e = 1 ∨ e = 2 ∨ e = 3) T (tq_berth T p0 p1) := by
  unfold tq_berth
  repeat' split
  all_goals first | exact tqo_0 (by decide) | exact tqo_e (by decide)
theorem tm_berth {p0 : Int32} {p1 : Int32} : (tq_berth T p0 p1).1 ≤ 3 := by
  have w : ((tq_berth T p0 p1).1 = 0 ∨ (tq_berth T p0 p1).1 = 1 ∨ (tq_berth T p0 p1).1 = 2 ∨ (tq_berth T p0 p1).1 = 3) := (to_berth (T := T) (p0 := p0) (p1 := p1)).2
  omega
theorem te_berth (I : iv T c) {p0 : Int32} {p1 : Int32} : iv (tq_berth T p0 p1).2.2 (c + 1) := by
  exact (iw_berthQ I).mono (Nat.le_succ c)
theorem ch_berth (h : tx_R t0 S G T) (ex : G 6 0 = x) (I : iv T c) {p0 : Int32} {p1 : Int32} : wp_X6_berth t0 m9 100 10500 (fun (v : Int32) (S1 : qs_S) => lq t0 S x cA Int32.toInt64 (tq_berth T p0 p1) 0 S1 (vp_updL f (0 : Int32).toNatClampNeg v.toInt64 0)) (fun (E : String) (S1 : qs_S) => (E = "java/lang/IndexOutOfBoundsException" ∧ lq t0 S x cA Int32.toInt64 (tq_berth T p0 p1) 1 S1 (f 0)) ∨ (E = "java/lang/IllegalArgumentException" ∧ lq t0 S x cA Int32.toInt64 (tq_berth T p0 p1) 2 S1 (f 0)) ∨ (E = "java/lang/IllegalStateException" ∧ lq t0 S x cA Int32.toInt64 (tq_berth T p0 p1) 3 S1 (f 0))) S x p0 p1 := by
  subst ex
  refine cq_berth h I (Nat.le_refl _) (Nat.le_refl _) ⟨fun e S1 G1 a b k => ?_, fun e => Or.inl ⟨rfl, lq_er h rfl to_berth.1 e (by decide)⟩, fun e => Or.inr (Or.inl ⟨rfl, lq_er h rfl to_berth.1 e (by decide)⟩), fun e => Or.inr (Or.inr ⟨rfl, lq_er h rfl to_berth.1 e (by decide)⟩)⟩
  exact lq_ok rfl e a b k up0
theorem to_box {p0 : Int32} {p1 : Int32} : tqo (fun e => e = 0 ∨ e = 1 ∨ e = 2 ∨ e = 3) T (tq_box T p0 p1) := by
  unfold tq_box
  repeat' split
  all_goals first | exact tqo_0 (by decide) | exact tqo_e (by decide)
theorem tm_box {p0 : Int32} {p1 : Int32} : (tq_box T p0 p1).1 ≤ 3 := by
  have w : ((tq_box T p0 p1).1 = 0 ∨ (tq_box T p0 p1).1 = 1 ∨ (tq_box T p0 p1).1 = 2 ∨ (tq_box T p0 p1).1 = 3) := (to_box (T := T) (p0 := p0) (p1 := p1)).2
  omega
theorem te_box (I : iv T c) {p0 : Int32} {p1 : Int32} : iv (tq_box T p0 p1).2.2 (c + 1) := by
  exact (iw_boxQ I).mono (Nat.le_succ c)
theorem ch_box (h : tx_R t0 S G T) (ex : G 6 0 = x) (I : iv T c) {p0 : Int32} {p1 : Int32} : wp_X6_box t0 m9 100 10500 (fun (v : Int32) (S1 : qs_S) => lq t0 S x cA Int32.toInt64 (tq_box T p0 p1) 0 S1 (vp_updL f (0 : Int32).toNatClampNeg v.toInt64 0)) (fun (E : String) (S1 : qs_S) => (E = "java/lang/IndexOutOfBoundsException" ∧ lq t0 S x cA Int32.toInt64 (tq_box T p0 p1) 1 S1 (f 0)) ∨ (E = "java/lang/IllegalArgumentException" ∧ lq t0 S x cA Int32.toInt64 (tq_box T p0 p1) 2 S1 (f 0)) ∨ (E = "java/lang/IllegalStateException" ∧ lq t0 S x cA Int32.toInt64 (tq_box T p0 p1) 3 S1 (f 0))) S x p0 p1 := by
  subst ex
  refine cq_box h I (Nat.le_refl _) (Nat.le_refl _) ⟨fun e S1 G1 a b k => ?_, fun e => Or.inl ⟨rfl, lq_er h rfl to_box.1 e (by decide)⟩, fun e => Or.inr (Or.inl ⟨rfl, lq_er h rfl to_box.1 e (by decide)⟩), fun e => Or.inr (Or.inr ⟨rfl, lq_er h rfl to_box.1 e (by decide)⟩)⟩
  exact lq_ok rfl e a b k up0
theorem to_leave {p0 : Int32} : tqo (fun e => e = 0 ∨ e = 1 ∨ e = 3) T (tq_leave T p0) := by
  unfold tq_leave
  repeat' split
  all_goals first | exact tqo_0 (by decide) | exact tqo_e (by decide)
theorem tm_leave {p0 : Int32} : (tq_leave T p0).1 ≤ 3 := by
  have w : ((tq_leave T p0).1 = 0 ∨ (tq_leave T p0).1 = 1 ∨ (tq_leave T p0).1 = 3) := (to_leave (T := T) (p0 := p0)).2
  omega
theorem te_leave (I : iv T c) {p0 : Int32} : iv (tq_leave T p0).2.2 (c + 1) := by
  exact (iw_leaveQ I).mono (Nat.le_succ c)
theorem ch_leave (h : tx_R t0 S G T) (ex : G 6 0 = x) (I : iv T c) {p0 : Int32} : wp_X6_leave t0 m9 100 10500 (fun (v : Int32) (S1 : qs_S) => lq t0 S x cB Int32.toInt64 (tq_leave T p0) 0 S1 (vp_updL f (0 : Int32).toNatClampNeg v.toInt64 0)) (fun (E : String) (S1 : qs_S) => (E = "java/lang/IndexOutOfBoundsException" ∧ lq t0 S x cB Int32.toInt64 (tq_leave T p0) 1 S1 (f 0)) ∨ (E = "java/lang/IllegalStateException" ∧ lq t0 S x cB Int32.toInt64 (tq_leave T p0) 2 S1 (f 0))) S x p0 := by
  subst ex
  refine cq_leave h I (Nat.le_refl _) (Nat.le_refl _) ⟨fun e S1 G1 a b k => ?_, fun e => Or.inl ⟨rfl, lq_er h rfl to_leave.1 e (by decide)⟩, fun e => by have w := (to_leave (T := T) (p0 := p0)).2; rw [e] at w; exact absurd w (by decide), fun e => Or.inr ⟨rfl, lq_er h rfl to_leave.1 e (by decide)⟩⟩
  exact lq_ok rfl e a b k up0
theorem to_send {p0 : Int32} {p1 : Int32} {p2 : Int32} {p3 : Int32} : tqo (fun e => e = 0 ∨ e = 1 ∨ e = 2 ∨ e = 3) T (tq_send T p0 p1 p2 p3) := by
  unfold tq_send
  repeat' split
  all_goals first | exact tqo_0 (by decide) | exact tqo_e (by decide)
theorem tm_send {p0 : Int32} {p1 : Int32} {p2 : Int32} {p3 : Int32} : (tq_send T p0 p1 p2 p3).1 ≤ 3 := by
  have w : ((tq_send T p0 p1 p2 p3).1 = 0 ∨ (tq_send T p0 p1 p2 p3).1 = 1 ∨ (tq_send T p0 p1 p2 p3).1 = 2 ∨ (tq_send T p0 p1 p2 p3).1 = 3) := (to_send (T := T) (p0 := p0) (p1 := p1) (p2 := p2) (p3 := p3)).2
  omega
theorem te_send (I : iv T c) {p0 : Int32} {p1 : Int32} {p2 : Int32} {p3 : Int32} : iv (tq_send T p0 p1 p2 p3).2.2 (c + 1) := by
  exact (iw_send I).mono (Nat.le_succ c)
theorem ch_send (h : tx_R t0 S G T) (ex : G 6 0 = x) (I : iv T c) {p0 : Int32} {p1 : Int32} {p2 : Int32} {p3 : Int32} : wp_X6_send t0 m9 100 10500 (fun (v : Int32) (S1 : qs_S) => lq t0 S x cS Int32.toInt64 (tq_send T p0 p1 p2 p3) 0 S1 (vp_updL f (0 : Int32).toNatClampNeg v.toInt64 0)) (fun (E : String) (S1 : qs_S) => (E = "java/lang/IllegalArgumentException" ∧ lq t0 S x cS Int32.toInt64 (tq_send T p0 p1 p2 p3) 1 S1 (f 0)) ∨ (E = "java/lang/IndexOutOfBoundsException" ∧ lq t0 S x cS Int32.toInt64 (tq_send T p0 p1 p2 p3) 2 S1 (f 0)) ∨ (E = "java/lang/IllegalStateException" ∧ lq t0 S x cS Int32.toInt64 (tq_send T p0 p1 p2 p3) 3 S1 (f 0))) S x p0 p1 p2 p3 := by
  subst ex
  refine cq_send h I (Nat.le_refl _) (Nat.le_refl _) ⟨fun e S1 G1 a b k => ?_, fun e => Or.inr (Or.inl ⟨rfl, lq_er h rfl to_send.1 e (by decide)⟩), fun e => Or.inl ⟨rfl, lq_er h rfl to_send.1 e (by decide)⟩, fun e => Or.inr (Or.inr ⟨rfl, lq_er h rfl to_send.1 e (by decide)⟩)⟩
  exact lq_ok rfl e a b k up0
theorem to_deliver {p0 : Int32} : tqo (fun e => e = 0 ∨ e = 1) T (tq_deliver T p0) := by
  unfold tq_deliver
  repeat' split
  all_goals first | exact tqo_0 (by decide) | exact tqo_e (by decide)
theorem tm_deliver {p0 : Int32} : (tq_deliver T p0).1 ≤ 3 := by
  have w : ((tq_deliver T p0).1 = 0 ∨ (tq_deliver T p0).1 = 1) := (to_deliver (T := T) (p0 := p0)).2
  omega
theorem te_deliver (I : iv T c) {p0 : Int32} : iv (tq_deliver T p0).2.2 (c + 1) := by
  exact iw_deliver I
theorem ch_deliver (h : tx_R t0 S G T) (ex : G 6 0 = x) (I : iv T c) {p0 : Int32} : wp_X6_deliver t0 m9 100 10500 (fun (v : Int32) (S1 : qs_S) => lq t0 S x cA Int32.toInt64 (tq_deliver T p0) 0 S1 (vp_updL f (0 : Int32).toNatClampNeg v.toInt64 0)) (fun (E : String) (S1 : qs_S) => (E = "java/lang/IndexOutOfBoundsException" ∧ lq t0 S x cA Int32.toInt64 (tq_deliver T p0) 1 S1 (f 0))) S x p0 := by
  subst ex
  refine cq_deliver h I (Nat.le_refl _) (Nat.le_refl _) ⟨fun e S1 G1 a b k => ?_, fun e => ⟨rfl, lq_er h rfl to_deliver.1 e (by decide)⟩, fun e => by have w := (to_deliver (T := T) (p0 := p0)).2; rw [e] at w; exact absurd w (by decide), fun e => by have w := (to_deliver (T := T) (p0 := p0)).2; rw [e] at w; exact absurd w (by decide)⟩
  exact lq_ok rfl e a b k up0
theorem to_act {p0 : Int32} : tqo (fun e => e = 0 ∨ e = 1) T (tq_act T p0) := by
  unfold tq_act
  repeat' split
  all_goals first | exact tqo_0 (by decide) | exact tqo_e (by decide)
theorem tm_act {p0 : Int32} : (tq_act T p0).1 ≤ 3 := by
  have w : ((tq_act T p0).1 = 0 ∨ (tq_act T p0).1 = 1) := (to_act (T := T) (p0 := p0)).2
  omega
theorem te_act (I : iv T c) {p0 : Int32} : iv (tq_act T p0).2.2 (c + 1) := by
  exact iw_act I
theorem ch_act (h : tx_R t0 S G T) (ex : G 6 0 = x) (I : iv T c) {p0 : Int32} : wp_X6_act t0 m9 100 10500 (fun (v : Int32) (S1 : qs_S) => lq t0 S x cA Int32.toInt64 (tq_act T p0) 0 S1 (vp_updL f (0 : Int32).toNatClampNeg v.toInt64 0)) (fun (E : String) (S1 : qs_S) => (E = "java/lang/IndexOutOfBoundsException" ∧ lq t0 S x cA Int32.toInt64 (tq_act T p0) 1 S1 (f 0))) S x p0 := by
  subst ex
  refine cq_act h I (Nat.le_refl _) (Nat.le_refl _) ⟨fun e S1 G1 a b k => ?_, fun e => ⟨rfl, lq_er h rfl to_act.1 e (by decide)⟩, fun e => by have w := (to_act (T := T) (p0 := p0)).2; rw [e] at w; exact absurd w (by decide), fun e => by have w := (to_act (T := T) (p0 := p0)).2; rw [e] at w; exact absurd w (by decide)⟩
  exact lq_ok rfl e a b k up0
theorem to_lose {p0 : Int32} {p1 : Int32} {p2 : Int32} : tqo (fun e => e = 0 ∨ e = 1 ∨ e = 2) T (tq_lose T p0 p1 p2) := by
  unfold tq_lose
  repeat' split
  all_goals first | exact tqo_0 (by decide) | exact tqo_e (by decide)
theorem tm_lose {p0 : Int32} {p1 : Int32} {p2 : Int32} : (tq_lose T p0 p1 p2).1 ≤ 3 := by
  have w : ((tq_lose T p0 p1 p2).1 = 0 ∨ (tq_lose T p0 p1 p2).1 = 1 ∨ (tq_lose T p0 p1 p2).1 = 2) := (to_lose (T := T) (p0 := p0) (p1 := p1) (p2 := p2)).2
  omega
theorem te_lose (I : iv T c) {p0 : Int32} {p1 : Int32} {p2 : Int32} : iv (tq_lose T p0 p1 p2).2.2 (c + 1) := by
  exact (iw_loseQ I).mono (Nat.le_succ c)
theorem ch_lose (h : tx_R t0 S G T) (ex : G 6 0 = x) (I : iv T c) {p0 : Int32} {p1 : Int32} {p2 : Int32} : wp_X6_lose t0 m9 100 10500 (fun (v : Int32) (S1 : qs_S) => lq t0 S x cA Int32.toInt64 (tq_lose T p0 p1 p2) 0 S1 (vp_updL f (0 : Int32).toNatClampNeg v.toInt64 0)) (fun (E : String) (S1 : qs_S) => (E = "java/lang/IndexOutOfBoundsException" ∧ lq t0 S x cA Int32.toInt64 (tq_lose T p0 p1 p2) 1 S1 (f 0)) ∨ (E = "java/lang/IllegalArgumentException" ∧ lq t0 S x cA Int32.toInt64 (tq_lose T p0 p1 p2) 2 S1 (f 0))) S x p0 p1 p2 := by
  subst ex
  refine cq_lose h I (Nat.le_refl _) (Nat.le_refl _) ⟨fun e S1 G1 a b k => ?_, fun e => Or.inl ⟨rfl, lq_er h rfl to_lose.1 e (by decide)⟩, fun e => Or.inr ⟨rfl, lq_er h rfl to_lose.1 e (by decide)⟩, fun e => by have w := (to_lose (T := T) (p0 := p0) (p1 := p1) (p2 := p2)).2; rw [e] at w; exact absurd w (by decide)⟩
  exact lq_ok rfl e a b k up0
theorem to_repeat {p0 : Int32} : tqo (fun e => e = 0 ∨ e = 1 ∨ e = 3) T (tq_repeat T p0) := by
  unfold tq_repeat
  repeat' split
  all_goals first | exact tqo_0 (by decide) | exact tqo_e (by decide)
theorem tm_repeat {p0 : Int32} : (tq_repeat T p0).1 ≤ 3 := by
  have w : ((tq_repeat T p0).1 = 0 ∨ (tq_repeat T p0).1 = 1 ∨ (tq_repeat T p0).1 = 3) := (to_repeat (T := T) (p0 := p0)).2
  omega
theorem te_repeat (I : iv T c) {p0 : Int32} : iv (tq_repeat T p0).2.2 (c + 1) := by
  exact (iw_repeat I).mono (Nat.le_succ c)
theorem ch_repeat (h : tx_R t0 S G T) (ex : G 6 0 = x) (I : iv T c) {p0 : Int32} : wp_X6_repeat t0 m9 100 10500 (fun (v : Int32) (S1 : qs_S) => lq t0 S x cB Int32.toInt64 (tq_repeat T p0) 0 S1 (vp_updL f (0 : Int32).toNatClampNeg v.toInt64 0)) (fun (E : String) (S1 : qs_S) => (E = "java/lang/IndexOutOfBoundsException" ∧ lq t0 S x cB Int32.toInt64 (tq_repeat T p0) 1 S1 (f 0)) ∨ (E = "java/lang/IllegalStateException" ∧ lq t0 S x cB Int32.toInt64 (tq_repeat T p0) 2 S1 (f 0))) S x p0 := by
  subst ex
  refine cq_repeat h I (Nat.le_refl _) (Nat.le_refl _) ⟨fun e S1 G1 a b k => ?_, fun e => Or.inl ⟨rfl, lq_er h rfl to_repeat.1 e (by decide)⟩, fun e => by have w := (to_repeat (T := T) (p0 := p0)).2; rw [e] at w; exact absurd w (by decide), fun e => Or.inr ⟨rfl, lq_er h rfl to_repeat.1 e (by decide)⟩⟩
  exact lq_ok rfl e a b k up0
theorem to_silence {p0 : Int32} {p1 : Int32} : tqo (fun e => e = 0 ∨ e = 1) T (tq_silence T p0 p1) := by
  unfold tq_silence
  repeat' split
  all_goals first | exact tqo_0 (by decide) | exact tqo_e (by decide)
theorem tm_silence {p0 : Int32} {p1 : Int32} : (tq_silence T p0 p1).1 ≤ 3 := by
  have w : ((tq_silence T p0 p1).1 = 0 ∨ (tq_silence T p0 p1).1 = 1) := (to_silence (T := T) (p0 := p0) (p1 := p1)).2
  omega
theorem te_silence (I : iv T c) {p0 : Int32} {p1 : Int32} (ha : p1 = 0 ∨ p1 = 1) : iv (tq_silence T p0 p1).2.2 (c + 1) := by
  exact (iw_silenceQ I ha).mono (Nat.le_succ c)
theorem ch_silence (h : tx_R t0 S G T) (ex : G 6 0 = x) (I : iv T c) {p0 : Int32} {p1 : Int32} (ha : p1 = 0 ∨ p1 = 1) : wp_X6_silence t0 m9 100 10500 (fun (v : Int32) (S1 : qs_S) => lq t0 S x cA lb (tq_silence T p0 p1) 0 S1 (vp_updL f (0 : Int32).toNatClampNeg (if v = 0 then 0 else 1) 0)) (fun (E : String) (S1 : qs_S) => (E = "java/lang/IndexOutOfBoundsException" ∧ lq t0 S x cA lb (tq_silence T p0 p1) 1 S1 (f 0))) S x p0 p1 := by
  subst ex
  refine cq_silence h I (Nat.le_refl _) (Nat.le_refl _) ha ⟨fun e S1 G1 a b k => ?_, fun e => ⟨rfl, lq_er h rfl to_silence.1 e (by decide)⟩, fun e => by have w := (to_silence (T := T) (p0 := p0) (p1 := p1)).2; rw [e] at w; exact absurd w (by decide), fun e => by have w := (to_silence (T := T) (p0 := p0) (p1 := p1)).2; rw [e] at w; exact absurd w (by decide)⟩
  exact lq_ok rfl e a b k up0
theorem to_giveAway {p0 : Int32} {p1 : Int32} : tqo (fun e => e = 0 ∨ e = 1 ∨ e = 3) T (tq_giveAway T p0 p1) := by
  unfold tq_giveAway
  repeat' split
  all_goals first | exact tqo_0 (by decide) | exact tqo_e (by decide)
theorem tm_giveAway {p0 : Int32} {p1 : Int32} : (tq_giveAway T p0 p1).1 ≤ 3 := by
  have w : ((tq_giveAway T p0 p1).1 = 0 ∨ (tq_giveAway T p0 p1).1 = 1 ∨ (tq_giveAway T p0 p1).1 = 3) := (to_giveAway (T := T) (p0 := p0) (p1 := p1)).2
  omega
theorem te_giveAway (I : iv T c) {p0 : Int32} {p1 : Int32} : iv (tq_giveAway T p0 p1).2.2 (c + 1) := by
  exact (iw_giveAway I).mono (Nat.le_succ c)
theorem ch_giveAway (h : tx_R t0 S G T) (ex : G 6 0 = x) (I : iv T c) {p0 : Int32} {p1 : Int32} : wp_X6_giveAway t0 m9 100 10500 (fun (v : Int32) (S1 : qs_S) => lq t0 S x cB Int32.toInt64 (tq_giveAway T p0 p1) 0 S1 (vp_updL f (0 : Int32).toNatClampNeg v.toInt64 0)) (fun (E : String) (S1 : qs_S) => (E = "java/lang/IndexOutOfBoundsException" ∧ lq t0 S x cB Int32.toInt64 (tq_giveAway T p0 p1) 1 S1 (f 0)) ∨ (E = "java/lang/IllegalStateException" ∧ lq t0 S x cB Int32.toInt64 (tq_giveAway T p0 p1) 2 S1 (f 0))) S x p0 p1 := by
  subst ex
  refine cq_giveAway h I (Nat.le_refl _) (Nat.le_refl _) ⟨fun e S1 G1 a b k => ?_, fun e => Or.inl ⟨rfl, lq_er h rfl to_giveAway.1 e (by decide)⟩, fun e => by have w := (to_giveAway (T := T) (p0 := p0) (p1 := p1)).2; rw [e] at w; exact absurd w (by decide), fun e => Or.inr ⟨rfl, lq_er h rfl to_giveAway.1 e (by decide)⟩⟩
  exact lq_ok rfl e a b k up0
theorem to_park {p0 : Int32} {p1 : Int32} : tqo (fun e => e = 0 ∨ e = 1 ∨ e = 3) T (tq_park T p0 p1) := by
  unfold tq_park
  repeat' split
  all_goals first | exact tqo_0 (by decide) | exact tqo_e (by decide)
theorem tm_park {p0 : Int32} {p1 : Int32} : (tq_park T p0 p1).1 ≤ 3 := by
  have w : ((tq_park T p0 p1).1 = 0 ∨ (tq_park T p0 p1).1 = 1 ∨ (tq_park T p0 p1).1 = 3) := (to_park (T := T) (p0 := p0) (p1 := p1)).2
  omega
theorem te_park (I : iv T c) {p0 : Int32} {p1 : Int32} : iv (tq_park T p0 p1).2.2 (c + 1) := by
  exact (iw_parkQ I).mono (Nat.le_succ c)
theorem ch_park (h : tx_R t0 S G T) (ex : G 6 0 = x) (I : iv T c) {p0 : Int32} {p1 : Int32} : wp_X6_park t0 m9 100 10500 (fun (v : Int32) (S1 : qs_S) => lq t0 S x cB Int32.toInt64 (tq_park T p0 p1) 0 S1 (vp_updL f (0 : Int32).toNatClampNeg v.toInt64 0)) (fun (E : String) (S1 : qs_S) => (E = "java/lang/IndexOutOfBoundsException" ∧ lq t0 S x cB Int32.toInt64 (tq_park T p0 p1) 1 S1 (f 0)) ∨ (E = "java/lang/IllegalStateException" ∧ lq t0 S x cB Int32.toInt64 (tq_park T p0 p1) 2 S1 (f 0))) S x p0 p1 := by
  subst ex
  refine cq_park h I (Nat.le_refl _) (Nat.le_refl _) ⟨fun e S1 G1 a b k => ?_, fun e => Or.inl ⟨rfl, lq_er h rfl to_park.1 e (by decide)⟩, fun e => by have w := (to_park (T := T) (p0 := p0) (p1 := p1)).2; rw [e] at w; exact absurd w (by decide), fun e => Or.inr ⟨rfl, lq_er h rfl to_park.1 e (by decide)⟩⟩
  exact lq_ok rfl e a b k up0
theorem to_book {p0 : Int32} {p1 : Int32} {p2 : Int32} : tqo (fun e => e = 0 ∨ e = 1 ∨ e = 2 ∨ e = 3) T (tq_book T p0 p1 p2) := by
  unfold tq_book
  repeat' split
  all_goals first | exact tqo_0 (by decide) | exact tqo_e (by decide)
theorem tm_book {p0 : Int32} {p1 : Int32} {p2 : Int32} : (tq_book T p0 p1 p2).1 ≤ 3 := by
  have w : ((tq_book T p0 p1 p2).1 = 0 ∨ (tq_book T p0 p1 p2).1 = 1 ∨ (tq_book T p0 p1 p2).1 = 2 ∨ (tq_book T p0 p1 p2).1 = 3) := (to_book (T := T) (p0 := p0) (p1 := p1) (p2 := p2)).2
  omega
theorem te_book (I : iv T c) {p0 : Int32} {p1 : Int32} {p2 : Int32} : iv (tq_book T p0 p1 p2).2.2 (c + 1) := by
  exact (iw_bookQ I).mono (Nat.le_succ c)
theorem ch_book (h : tx_R t0 S G T) (ex : G 6 0 = x) (I : iv T c) {p0 : Int32} {p1 : Int32} {p2 : Int32} : wp_X6_book t0 m9 100 10500 (fun (v : Int32) (S1 : qs_S) => lq t0 S x cA Int32.toInt64 (tq_book T p0 p1 p2) 0 S1 (vp_updL f (0 : Int32).toNatClampNeg v.toInt64 0)) (fun (E : String) (S1 : qs_S) => (E = "java/lang/IndexOutOfBoundsException" ∧ lq t0 S x cA Int32.toInt64 (tq_book T p0 p1 p2) 1 S1 (f 0)) ∨ (E = "java/lang/IllegalArgumentException" ∧ lq t0 S x cA Int32.toInt64 (tq_book T p0 p1 p2) 2 S1 (f 0)) ∨ (E = "java/lang/IllegalStateException" ∧ lq t0 S x cA Int32.toInt64 (tq_book T p0 p1 p2) 3 S1 (f 0))) S x p0 p1 p2 := by
  subst ex
  refine cq_book h I (Nat.le_refl _) (Nat.le_refl _) ⟨fun e S1 G1 a b k => ?_, fun e => Or.inl ⟨rfl, lq_er h rfl to_book.1 e (by decide)⟩, fun e => Or.inr (Or.inl ⟨rfl, lq_er h rfl to_book.1 e (by decide)⟩), fun e => Or.inr (Or.inr ⟨rfl, lq_er h rfl to_book.1 e (by decide)⟩)⟩
  exact lq_ok rfl e a b k up0
theorem to_unbook {p0 : Int32} : tqo (fun e => e = 0 ∨ e = 1 ∨ e = 3) T (tq_unbook T p0) := by
  unfold tq_unbook
  repeat' split
  all_goals first | exact tqo_0 (by decide) | exact tqo_e (by decide)
theorem tm_unbook {p0 : Int32} : (tq_unbook T p0).1 ≤ 3 := by
  have w : ((tq_unbook T p0).1 = 0 ∨ (tq_unbook T p0).1 = 1 ∨ (tq_unbook T p0).1 = 3) := (to_unbook (T := T) (p0 := p0)).2
  omega
theorem te_unbook (I : iv T c) {p0 : Int32} : iv (tq_unbook T p0).2.2 (c + 1) := by
  exact (iw_unbookQ I).mono (Nat.le_succ c)
theorem ch_unbook (h : tx_R t0 S G T) (ex : G 6 0 = x) (I : iv T c) {p0 : Int32} : wp_X6_unbook t0 m9 100 10500 (fun (v : Int32) (S1 : qs_S) => lq t0 S x cB Int32.toInt64 (tq_unbook T p0) 0 S1 (vp_updL f (0 : Int32).toNatClampNeg v.toInt64 0)) (fun (E : String) (S1 : qs_S) => (E = "java/lang/IndexOutOfBoundsException" ∧ lq t0 S x cB Int32.toInt64 (tq_unbook T p0) 1 S1 (f 0)) ∨ (E = "java/lang/IllegalStateException" ∧ lq t0 S x cB Int32.toInt64 (tq_unbook T p0) 2 S1 (f 0))) S x p0 := by
  subst ex
  refine cq_unbook h I (Nat.le_refl _) (Nat.le_refl _) ⟨fun e S1 G1 a b k => ?_, fun e => Or.inl ⟨rfl, lq_er h rfl to_unbook.1 e (by decide)⟩, fun e => by have w := (to_unbook (T := T) (p0 := p0)).2; rw [e] at w; exact absurd w (by decide), fun e => Or.inr ⟨rfl, lq_er h rfl to_unbook.1 e (by decide)⟩⟩
  exact lq_ok rfl e a b k up0
theorem to_advance {p0 : Int32} : tqo (fun e => e = 0 ∨ e = 2 ∨ e = 3) T (tq_advance T p0) := by
  unfold tq_advance
  repeat' split
  all_goals first | exact tqo_0 (by decide) | exact tqo_e (by decide)
theorem tm_advance {p0 : Int32} : (tq_advance T p0).1 ≤ 3 := by
  have w : ((tq_advance T p0).1 = 0 ∨ (tq_advance T p0).1 = 2 ∨ (tq_advance T p0).1 = 3) := (to_advance (T := T) (p0 := p0)).2
  omega
theorem te_advance (I : iv T c) {p0 : Int32} : iv (tq_advance T p0).2.2 (c + 1) := by
  exact (iw_advanceQ I).mono (Nat.le_succ c)
theorem ch_advance (h : tx_R t0 S G T) (ex : G 6 0 = x) (I : iv T c) {p0 : Int32} : wp_X6_advance t0 m9 100 10500 (fun (v : Int32) (S1 : qs_S) => lq t0 S x cV Int32.toInt64 (tq_advance T p0) 0 S1 (vp_updL f (0 : Int32).toNatClampNeg v.toInt64 0)) (fun (E : String) (S1 : qs_S) => (E = "java/lang/IllegalArgumentException" ∧ lq t0 S x cV Int32.toInt64 (tq_advance T p0) 1 S1 (f 0)) ∨ (E = "java/lang/IllegalStateException" ∧ lq t0 S x cV Int32.toInt64 (tq_advance T p0) 2 S1 (f 0))) S x p0 := by
  subst ex
  refine cq_advance h I (Nat.le_refl _) (Nat.le_refl _) ⟨fun e S1 G1 a b k => ?_, fun e => by have w := (to_advance (T := T) (p0 := p0)).2; rw [e] at w; exact absurd w (by decide), fun e => Or.inl ⟨rfl, lq_er h rfl to_advance.1 e (by decide)⟩, fun e => Or.inr ⟨rfl, lq_er h rfl to_advance.1 e (by decide)⟩⟩
  exact lq_ok rfl e a b k up0
theorem to_whereIs {p0 : Int32} : tqo (fun e => e = 0 ∨ e = 1) T (tq_whereIs T p0) := by
  unfold tq_whereIs
  repeat' split
  all_goals first | exact tqo_0 (by decide) | exact tqo_e (by decide)
theorem tm_whereIs {p0 : Int32} : (tq_whereIs T p0).1 ≤ 3 := by
  have w : ((tq_whereIs T p0).1 = 0 ∨ (tq_whereIs T p0).1 = 1) := (to_whereIs (T := T) (p0 := p0)).2
  omega
theorem te_whereIs (I : iv T c) {p0 : Int32} : iv (tq_whereIs T p0).2.2 (c + 1) := by
  unfold tq_whereIs
  repeat' split
  all_goals exact I.mono (Nat.le_succ c)
theorem ch_whereIs (h : tx_R t0 S G T) (ex : G 6 0 = x) (I : iv T c) {p0 : Int32} : wp_X6_whereIs t0 m9 100 10500 (fun (v : Int32) (S1 : qs_S) => lq t0 S x cA Int32.toInt64 (tq_whereIs T p0) 0 S1 (vp_updL f (0 : Int32).toNatClampNeg v.toInt64 0)) (fun (E : String) (S1 : qs_S) => (E = "java/lang/IndexOutOfBoundsException" ∧ lq t0 S x cA Int32.toInt64 (tq_whereIs T p0) 1 S1 (f 0))) S x p0 := by
  subst ex
  refine cq_whereIs h I (Nat.le_refl _) (Nat.le_refl _) ⟨fun e S1 G1 a b k => ?_, fun e => ⟨rfl, lq_er h rfl to_whereIs.1 e (by decide)⟩, fun e => by have w := (to_whereIs (T := T) (p0 := p0)).2; rw [e] at w; exact absurd w (by decide), fun e => by have w := (to_whereIs (T := T) (p0 := p0)).2; rw [e] at w; exact absurd w (by decide)⟩
  exact lq_ok rfl e a b k up0
theorem to_whereByLog {p0 : Int32} : tqo (fun e => e = 0 ∨ e = 1) T (tq_whereByLog T p0) := by
  unfold tq_whereByLog
  repeat' split
  all_goals first | exact tqo_0 (by decide) | exact tqo_e (by decide)
theorem tm_whereByLog {p0 : Int32} : (tq_whereByLog T p0).1 ≤ 3 := by
  have w : ((tq_whereByLog T p0).1 = 0 ∨ (tq_whereByLog T p0).1 = 1) := (to_whereByLog (T := T) (p0 := p0)).2
  omega
theorem te_whereByLog (I : iv T c) {p0 : Int32} : iv (tq_whereByLog T p0).2.2 (c + 1) := by
  unfold tq_whereByLog
  repeat' split
  all_goals exact I.mono (Nat.le_succ c)
theorem ch_whereByLog (h : tx_R t0 S G T) (ex : G 6 0 = x) (I : iv T c) {p0 : Int32} : wp_X6_whereByLog t0 m9 100 10500 (fun (v : Int32) (S1 : qs_S) => lq t0 S x cA Int32.toInt64 (tq_whereByLog T p0) 0 S1 (vp_updL f (0 : Int32).toNatClampNeg v.toInt64 0)) (fun (E : String) (S1 : qs_S) => (E = "java/lang/IndexOutOfBoundsException" ∧ lq t0 S x cA Int32.toInt64 (tq_whereByLog T p0) 1 S1 (f 0))) S x p0 := by
  subst ex
  refine cq_whereByLog h I (Nat.le_refl _) (Nat.le_refl _) ⟨fun e S1 G1 a b k => ?_, fun e => ⟨rfl, lq_er h rfl to_whereByLog.1 e (by decide)⟩, fun e => by have w := (to_whereByLog (T := T) (p0 := p0)).2; rw [e] at w; exact absurd w (by decide), fun e => by have w := (to_whereByLog (T := T) (p0 := p0)).2; rw [e] at w; exact absurd w (by decide)⟩
  exact lq_ok rfl e a b k up0
theorem to_liftedBy {p0 : Int32} : tqo (fun e => e = 0 ∨ e = 1) T (tq_boxI 5 T p0) := by
  unfold tq_boxI
  repeat' split
  all_goals first | exact tqo_0 (by decide) | exact tqo_e (by decide)
theorem tm_liftedBy {p0 : Int32} : (tq_boxI 5 T p0).1 ≤ 3 := by
  have w : ((tq_boxI 5 T p0).1 = 0 ∨ (tq_boxI 5 T p0).1 = 1) := (to_liftedBy (T := T) (p0 := p0)).2
  omega
theorem te_liftedBy (I : iv T c) {p0 : Int32} : iv (tq_boxI 5 T p0).2.2 (c + 1) := by
  unfold tq_boxI
  repeat' split
  all_goals exact I.mono (Nat.le_succ c)
theorem ch_liftedBy (h : tx_R t0 S G T) (ex : G 6 0 = x) (I : iv T c) {p0 : Int32} : wp_X6_liftedBy t0 m9 100 10500 (fun (v : Int32) (S1 : qs_S) => lq t0 S x cA Int32.toInt64 (tq_boxI 5 T p0) 0 S1 (vp_updL f (0 : Int32).toNatClampNeg v.toInt64 0)) (fun (E : String) (S1 : qs_S) => (E = "java/lang/IndexOutOfBoundsException" ∧ lq t0 S x cA Int32.toInt64 (tq_boxI 5 T p0) 1 S1 (f 0))) S x p0 := by
  subst ex
  refine cq_liftedBy h I (Nat.le_refl _) (Nat.le_refl _) ⟨fun e S1 G1 a b k => ?_, fun e => ⟨rfl, lq_er h rfl to_liftedBy.1 e (by decide)⟩, fun e => by have w := (to_liftedBy (T := T) (p0 := p0)).2; rw [e] at w; exact absurd w (by decide), fun e => by have w := (to_liftedBy (T := T) (p0 := p0)).2; rw [e] at w; exact absurd w (by decide)⟩
  exact lq_ok rfl e a b k up0
theorem to_bookedFor {p0 : Int32} : tqo (fun e => e = 0 ∨ e = 1) T (tq_boxI 7 T p0) := by
  unfold tq_boxI
  repeat' split
  all_goals first | exact tqo_0 (by decide) | exact tqo_e (by decide)
theorem tm_bookedFor {p0 : Int32} : (tq_boxI 7 T p0).1 ≤ 3 := by
  have w : ((tq_boxI 7 T p0).1 = 0 ∨ (tq_boxI 7 T p0).1 = 1) := (to_bookedFor (T := T) (p0 := p0)).2
  omega
theorem te_bookedFor (I : iv T c) {p0 : Int32} : iv (tq_boxI 7 T p0).2.2 (c + 1) := by
  unfold tq_boxI
  repeat' split
  all_goals exact I.mono (Nat.le_succ c)
theorem ch_bookedFor (h : tx_R t0 S G T) (ex : G 6 0 = x) (I : iv T c) {p0 : Int32} : wp_X6_bookedFor t0 m9 100 10500 (fun (v : Int32) (S1 : qs_S) => lq t0 S x cA Int32.toInt64 (tq_boxI 7 T p0) 0 S1 (vp_updL f (0 : Int32).toNatClampNeg v.toInt64 0)) (fun (E : String) (S1 : qs_S) => (E = "java/lang/IndexOutOfBoundsException" ∧ lq t0 S x cA Int32.toInt64 (tq_boxI 7 T p0) 1 S1 (f 0))) S x p0 := by
  subst ex
  refine cq_bookedFor h I (Nat.le_refl _) (Nat.le_refl _) ⟨fun e S1 G1 a b k => ?_, fun e => ⟨rfl, lq_er h rfl to_bookedFor.1 e (by decide)⟩, fun e => by have w := (to_bookedFor (T := T) (p0 := p0)).2; rw [e] at w; exact absurd w (by decide), fun e => by have w := (to_bookedFor (T := T) (p0 := p0)).2; rw [e] at w; exact absurd w (by decide)⟩
  exact lq_ok rfl e a b k up0
theorem to_placeOf {p0 : Int32} : tqo (fun e => e = 0 ∨ e = 1) T (tq_placeOf T p0) := by
  unfold tq_placeOf
  repeat' split
  all_goals first | exact tqo_0 (by decide) | exact tqo_e (by decide)
theorem tm_placeOf {p0 : Int32} : (tq_placeOf T p0).1 ≤ 3 := by
  have w : ((tq_placeOf T p0).1 = 0 ∨ (tq_placeOf T p0).1 = 1) := (to_placeOf (T := T) (p0 := p0)).2
  omega
theorem te_placeOf (I : iv T c) {p0 : Int32} : iv (tq_placeOf T p0).2.2 (c + 1) := by
  unfold tq_placeOf
  repeat' split
  all_goals exact I.mono (Nat.le_succ c)
theorem ch_placeOf (h : tx_R t0 S G T) (ex : G 6 0 = x) (I : iv T c) {p0 : Int32} : wp_X6_placeOf t0 m9 100 10500 (fun (v : Int32) (S1 : qs_S) => lq t0 S x cA Int32.toInt64 (tq_placeOf T p0) 0 S1 (vp_updL f (0 : Int32).toNatClampNeg v.toInt64 0)) (fun (E : String) (S1 : qs_S) => (E = "java/lang/IndexOutOfBoundsException" ∧ lq t0 S x cA Int32.toInt64 (tq_placeOf T p0) 1 S1 (f 0))) S x p0 := by
  subst ex
  refine cq_placeOf h I (Nat.le_refl _) (Nat.le_refl _) ⟨fun e S1 G1 a b k => ?_, fun e => ⟨rfl, lq_er h rfl to_placeOf.1 e (by decide)⟩, fun e => by have w := (to_placeOf (T := T) (p0 := p0)).2; rw [e] at w; exact absurd w (by decide), fun e => by have w := (to_placeOf (T := T) (p0 := p0)).2; rw [e] at w; exact absurd w (by decide)⟩
  exact lq_ok rfl e a b k up0
theorem to_height {p0 : Int32} : tqo (fun e => e = 0 ∨ e = 1) T (tq_height T p0) := by
  unfold tq_height
  repeat' split
  all_goals first | exact tqo_0 (by decide) | exact tqo_e (by decide)
theorem tm_height {p0 : Int32} : (tq_height T p0).1 ≤ 3 := by
  have w : ((tq_height T p0).1 = 0 ∨ (tq_height T p0).1 = 1) := (to_height (T := T) (p0 := p0)).2
  omega
theorem te_height (I : iv T c) {p0 : Int32} : iv (tq_height T p0).2.2 (c + 1) := by
  unfold tq_height
  repeat' split
  all_goals exact I.mono (Nat.le_succ c)
theorem ch_height (h : tx_R t0 S G T) (ex : G 6 0 = x) (I : iv T c) {p0 : Int32} : wp_X6_height t0 m9 100 10500 (fun (v : Int32) (S1 : qs_S) => lq t0 S x cA Int32.toInt64 (tq_height T p0) 0 S1 (vp_updL f (0 : Int32).toNatClampNeg v.toInt64 0)) (fun (E : String) (S1 : qs_S) => (E = "java/lang/IndexOutOfBoundsException" ∧ lq t0 S x cA Int32.toInt64 (tq_height T p0) 1 S1 (f 0))) S x p0 := by
  subst ex
  refine cq_height h I (Nat.le_refl _) (Nat.le_refl _) ⟨fun e S1 G1 a b k => ?_, fun e => ⟨rfl, lq_er h rfl to_height.1 e (by decide)⟩, fun e => by have w := (to_height (T := T) (p0 := p0)).2; rw [e] at w; exact absurd w (by decide), fun e => by have w := (to_height (T := T) (p0 := p0)).2; rw [e] at w; exact absurd w (by decide)⟩
  exact lq_ok rfl e a b k up0
theorem to_queue {p0 : Int32} : tqo (fun e => e = 0 ∨ e = 1) T (tq_queue T p0) := by
  unfold tq_queue
  repeat' split
  all_goals first | exact tqo_0 (by decide) | exact tqo_e (by decide)
theorem tm_queue {p0 : Int32} : (tq_queue T p0).1 ≤ 3 := by
  have w : ((tq_queue T p0).1 = 0 ∨ (tq_queue T p0).1 = 1) := (to_queue (T := T) (p0 := p0)).2
  omega
theorem te_queue (I : iv T c) {p0 : Int32} : iv (tq_queue T p0).2.2 (c + 1) := by
  unfold tq_queue
  repeat' split
  all_goals exact I.mono (Nat.le_succ c)
theorem ch_queue (h : tx_R t0 S G T) (ex : G 6 0 = x) (I : iv T c) {p0 : Int32} : wp_X6_queue t0 m9 100 10500 (fun (v : Int32) (S1 : qs_S) => lq t0 S x cA Int32.toInt64 (tq_queue T p0) 0 S1 (vp_updL f (0 : Int32).toNatClampNeg v.toInt64 0)) (fun (E : String) (S1 : qs_S) => (E = "java/lang/IndexOutOfBoundsException" ∧ lq t0 S x cA Int32.toInt64 (tq_queue T p0) 1 S1 (f 0))) S x p0 := by
  subst ex
  refine cq_queue h I (Nat.le_refl _) (Nat.le_refl _) ⟨fun e S1 G1 a b k => ?_, fun e => ⟨rfl, lq_er h rfl to_queue.1 e (by decide)⟩, fun e => by have w := (to_queue (T := T) (p0 := p0)).2; rw [e] at w; exact absurd w (by decide), fun e => by have w := (to_queue (T := T) (p0 := p0)).2; rw [e] at w; exact absurd w (by decide)⟩
  exact lq_ok rfl e a b k up0
theorem to_queued {p0 : Int32} {p1 : Int32} : tqo (fun e => e = 0 ∨ e = 1) T (tq_queued T p0 p1) := by
  unfold tq_queued
  repeat' split
  all_goals first | exact tqo_0 (by decide) | exact tqo_e (by decide)
theorem tm_queued {p0 : Int32} {p1 : Int32} : (tq_queued T p0 p1).1 ≤ 3 := by
  have w : ((tq_queued T p0 p1).1 = 0 ∨ (tq_queued T p0 p1).1 = 1) := (to_queued (T := T) (p0 := p0) (p1 := p1)).2
  omega
theorem te_queued (I : iv T c) {p0 : Int32} {p1 : Int32} : iv (tq_queued T p0 p1).2.2 (c + 1) := by
  unfold tq_queued
  repeat' split
  all_goals exact I.mono (Nat.le_succ c)
theorem ch_queued (h : tx_R t0 S G T) (ex : G 6 0 = x) (I : iv T c) {p0 : Int32} {p1 : Int32} : wp_X6_queued t0 m9 100 10500 (fun (v : Int32) (S1 : qs_S) => lq t0 S x cA Int32.toInt64 (tq_queued T p0 p1) 0 S1 (vp_updL f (0 : Int32).toNatClampNeg v.toInt64 0)) (fun (E : String) (S1 : qs_S) => (E = "java/lang/IndexOutOfBoundsException" ∧ lq t0 S x cA Int32.toInt64 (tq_queued T p0 p1) 1 S1 (f 0))) S x p0 p1 := by
  subst ex
  refine cq_queued h I (Nat.le_refl _) (Nat.le_refl _) ⟨fun e S1 G1 a b k => ?_, fun e => ⟨rfl, lq_er h rfl to_queued.1 e (by decide)⟩, fun e => by have w := (to_queued (T := T) (p0 := p0) (p1 := p1)).2; rw [e] at w; exact absurd w (by decide), fun e => by have w := (to_queued (T := T) (p0 := p0) (p1 := p1)).2; rw [e] at w; exact absurd w (by decide)⟩
  exact lq_ok rfl e a b k up0
theorem to_seen {p0 : Int32} : tqo (fun e => e = 0 ∨ e = 1) T (tq_seen T p0) := by
  unfold tq_seen
  repeat' split
  all_goals first | exact tqo_0 (by decide) | exact tqo_e (by decide)
theorem tm_seen {p0 : Int32} : (tq_seen T p0).1 ≤ 3 := by
  have w : ((tq_seen T p0).1 = 0 ∨ (tq_seen T p0).1 = 1) := (to_seen (T := T) (p0 := p0)).2
  omega
theorem te_seen (I : iv T c) {p0 : Int32} : iv (tq_seen T p0).2.2 (c + 1) := by
  unfold tq_seen
  repeat' split
  all_goals exact I.mono (Nat.le_succ c)
theorem ch_seen (h : tx_R t0 S G T) (ex : G 6 0 = x) (I : iv T c) {p0 : Int32} : wp_X6_seen t0 m9 100 10500 (fun (v : Int32) (S1 : qs_S) => lq t0 S x cA Int32.toInt64 (tq_seen T p0) 0 S1 (vp_updL f (0 : Int32).toNatClampNeg v.toInt64 0)) (fun (E : String) (S1 : qs_S) => (E = "java/lang/IndexOutOfBoundsException" ∧ lq t0 S x cA Int32.toInt64 (tq_seen T p0) 1 S1 (f 0))) S x p0 := by
  subst ex
  refine cq_seen h I (Nat.le_refl _) (Nat.le_refl _) ⟨fun e S1 G1 a b k => ?_, fun e => ⟨rfl, lq_er h rfl to_seen.1 e (by decide)⟩, fun e => by have w := (to_seen (T := T) (p0 := p0)).2; rw [e] at w; exact absurd w (by decide), fun e => by have w := (to_seen (T := T) (p0 := p0)).2; rw [e] at w; exact absurd w (by decide)⟩
  exact lq_ok rfl e a b k up0
theorem to_handed {p0 : Int32} : tqo (fun e => e = 0 ∨ e = 1) T (tq_handed T p0) := by
  unfold tq_handed
  repeat' split
  all_goals first | exact tqo_0 (by decide) | exact tqo_e (by decide)
theorem tm_handed {p0 : Int32} : (tq_handed T p0).1 ≤ 3 := by
  have w : ((tq_handed T p0).1 = 0 ∨ (tq_handed T p0).1 = 1) := (to_handed (T := T) (p0 := p0)).2
  omega
theorem te_handed (I : iv T c) {p0 : Int32} : iv (tq_handed T p0).2.2 (c + 1) := by
  unfold tq_handed
  repeat' split
  all_goals exact I.mono (Nat.le_succ c)
theorem ch_handed (h : tx_R t0 S G T) (ex : G 6 0 = x) (I : iv T c) {p0 : Int32} : wp_X6_handed t0 m9 100 10500 (fun (v : Int32) (S1 : qs_S) => lq t0 S x cA Int32.toInt64 (tq_handed T p0) 0 S1 (vp_updL f (0 : Int32).toNatClampNeg v.toInt64 0)) (fun (E : String) (S1 : qs_S) => (E = "java/lang/IndexOutOfBoundsException" ∧ lq t0 S x cA Int32.toInt64 (tq_handed T p0) 1 S1 (f 0))) S x p0 := by
  subst ex
  refine cq_handed h I (Nat.le_refl _) (Nat.le_refl _) ⟨fun e S1 G1 a b k => ?_, fun e => ⟨rfl, lq_er h rfl to_handed.1 e (by decide)⟩, fun e => by have w := (to_handed (T := T) (p0 := p0)).2; rw [e] at w; exact absurd w (by decide), fun e => by have w := (to_handed (T := T) (p0 := p0)).2; rw [e] at w; exact absurd w (by decide)⟩
  exact lq_ok rfl e a b k up0
theorem to_isDone {p0 : Int32} : tqo (fun e => e = 0 ∨ e = 1) T (tq_isDone T p0) := by
  unfold tq_isDone
  repeat' split
  all_goals first | exact tqo_0 (by decide) | exact tqo_e (by decide)
theorem tm_isDone {p0 : Int32} : (tq_isDone T p0).1 ≤ 3 := by
  have w : ((tq_isDone T p0).1 = 0 ∨ (tq_isDone T p0).1 = 1) := (to_isDone (T := T) (p0 := p0)).2
  omega
theorem te_isDone (I : iv T c) {p0 : Int32} : iv (tq_isDone T p0).2.2 (c + 1) := by
  unfold tq_isDone
  repeat' split
  all_goals exact I.mono (Nat.le_succ c)
theorem ch_isDone (h : tx_R t0 S G T) (ex : G 6 0 = x) (I : iv T c) {p0 : Int32} : wp_X6_isDone t0 m9 100 10500 (fun (v : Int32) (S1 : qs_S) => lq t0 S x cA lb (tq_isDone T p0) 0 S1 (vp_updL f (0 : Int32).toNatClampNeg (if v = 0 then 0 else 1) 0)) (fun (E : String) (S1 : qs_S) => (E = "java/lang/IndexOutOfBoundsException" ∧ lq t0 S x cA lb (tq_isDone T p0) 1 S1 (f 0))) S x p0 := by
  subst ex
  refine cq_isDone h I (Nat.le_refl _) (Nat.le_refl _) ⟨fun e S1 G1 a b k => ?_, fun e => ⟨rfl, lq_er h rfl to_isDone.1 e (by decide)⟩, fun e => by have w := (to_isDone (T := T) (p0 := p0)).2; rw [e] at w; exact absurd w (by decide), fun e => by have w := (to_isDone (T := T) (p0 := p0)).2; rw [e] at w; exact absurd w (by decide)⟩
  exact lq_ok rfl e a b k up0
theorem to_moveAt {p0 : Int32} : tqo (fun e => e = 0 ∨ e = 1) T (tq_moveAt T p0) := by
  unfold tq_moveAt
  repeat' split
  all_goals first | exact tqo_0 (by decide) | exact tqo_e (by decide)
theorem tm_moveAt {p0 : Int32} : (tq_moveAt T p0).1 ≤ 3 := by
  have w : ((tq_moveAt T p0).1 = 0 ∨ (tq_moveAt T p0).1 = 1) := (to_moveAt (T := T) (p0 := p0)).2
  omega
theorem te_moveAt (I : iv T c) {p0 : Int32} : iv (tq_moveAt T p0).2.2 (c + 1) := by
  unfold tq_moveAt
  repeat' split
  all_goals exact I.mono (Nat.le_succ c)
theorem ch_moveAt (h : tx_R t0 S G T) (ex : G 6 0 = x) (I : iv T c) {p0 : Int32} : wp_X6_moveAt t0 m9 100 10500 (fun (v : Int32) (S1 : qs_S) => lq t0 S x cA Int32.toInt64 (tq_moveAt T p0) 0 S1 (vp_updL f (0 : Int32).toNatClampNeg v.toInt64 0)) (fun (E : String) (S1 : qs_S) => (E = "java/lang/IndexOutOfBoundsException" ∧ lq t0 S x cA Int32.toInt64 (tq_moveAt T p0) 1 S1 (f 0))) S x p0 := by
  subst ex
  refine cq_moveAt h I (Nat.le_refl _) (Nat.le_refl _) ⟨fun e S1 G1 a b k => ?_, fun e => ⟨rfl, lq_er h rfl to_moveAt.1 e (by decide)⟩, fun e => by have w := (to_moveAt (T := T) (p0 := p0)).2; rw [e] at w; exact absurd w (by decide), fun e => by have w := (to_moveAt (T := T) (p0 := p0)).2; rw [e] at w; exact absurd w (by decide)⟩
  exact lq_ok rfl e a b k up0
end LCH
