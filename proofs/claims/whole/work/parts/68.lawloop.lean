/-! ===== the law's loop ===== -/
section LWL
variable {p : Program} {l : Launch} {e : Env} {s : State} {m : MethodId} {below : List Frame} {meth : Method} {c : Code} {b L : Nat} {xs : Nat → Int32} {g : qs_G} {o x y cn i k n : Nat}
set_option maxRecDepth 100000 in
theorem lw_disp (hl9 : l.stackTraces = false) (C0 : lw_At p s m meth c b L xs) (hL : L ≤ 2560) (hi : i + 5 ≤ L) (hcn : cn ≤ 1000) (hkr : k + 100 ≤ 601024) (hnr : n + 10500 ≤ 7293034) (K : lw_K p l e s m below meth c b g o x y (cn + 1) i (k + 100) (n + 10500) 1882) {S : qs_S} {G : Nat → Nat → Nat} {T : tt_T} {Hm : Nat → Nat} {M : mm_M} {f : Nat → Int64} {H : Heap} {locs : List Loc} {ls : Array Slot} (st : lw_St g o s S G T Hm M f H locs x y cn) (hl : lv_has ls 7 [(0, .ref b), (1, .ref x), (2, .ref y), (3, .ref o), (4, .int (nI i))]) (j : Nat) (hj : j < 32) : W p l e room_1 s m #[Value.ref b] below meth c H locs k n (lw_Z below #[Value.ref b] s) (F0 m 39 ls [.int (nI j)]) := by
  obtain ⟨hx, hb, hr, hml, hown, hts0, hX, hbl, hlocks, hgv⟩ := id C0
  by_cases e0 : j = 0
  · subst e0
    exact lv_tableIn hx hb dL_law_39 (off := 133) (tgt := 172) (by decide) (by decide) (by decide) (by decide) (lw_c0 hl9 C0 hL hi hcn hkr hnr K st hl)
  by_cases e1 : j = 1
  · subst e1
    exact lv_tableIn hx hb dL_law_39 (off := 201) (tgt := 240) (by decide) (by decide) (by decide) (by decide) (lw_c1 hl9 C0 hL hi hcn hkr hnr K st hl)
  by_cases e2 : j = 2
  · subst e2
    exact lv_tableIn hx hb dL_law_39 (off := 269) (tgt := 308) (by decide) (by decide) (by decide) (by decide) (lw_c2 hl9 C0 hL hi hcn hkr hnr K st hl)
  by_cases e3 : j = 3
  · subst e3
    exact lv_tableIn hx hb dL_law_39 (off := 325) (tgt := 364) (by decide) (by decide) (by decide) (by decide) (lw_c3 hl9 C0 hL hi hcn hkr hnr K st hl)
  by_cases e4 : j = 4
  · subst e4
    exact lv_tableIn hx hb dL_law_39 (off := 417) (tgt := 456) (by decide) (by decide) (by decide) (by decide) (lw_c4 hl9 C0 hL hi hcn hkr hnr K st hl)
  by_cases e5 : j = 5
  · subst e5
    exact lv_tableIn hx hb dL_law_39 (off := 473) (tgt := 512) (by decide) (by decide) (by decide) (by decide) (lw_c5 hl9 C0 hL hi hcn hkr hnr K st hl)
  by_cases e6 : j = 6
  · subst e6
    exact lv_tableIn hx hb dL_law_39 (off := 529) (tgt := 568) (by decide) (by decide) (by decide) (by decide) (lw_c6 hl9 C0 hL hi hcn hkr hnr K st hl)
  by_cases e7 : j = 7
  · subst e7
    exact lv_tableIn hx hb dL_law_39 (off := 625) (tgt := 664) (by decide) (by decide) (by decide) (by decide) (lw_c7 hl9 C0 hL hi hcn hkr hnr K st hl)
  by_cases e8 : j = 8
  · subst e8
    exact lv_tableIn hx hb dL_law_39 (off := 681) (tgt := 720) (by decide) (by decide) (by decide) (by decide) (lw_c8 hl9 C0 hL hi hcn hkr hnr K st hl)
  by_cases e9 : j = 9
  · subst e9
    exact lv_tableIn hx hb dL_law_39 (off := 772) (tgt := 811) (by decide) (by decide) (by decide) (by decide) (lw_c9 hl9 C0 hL hi hcn hkr hnr K st hl)
  by_cases e10 : j = 10
  · subst e10
    exact lv_tableIn hx hb dL_law_39 (off := 840) (tgt := 879) (by decide) (by decide) (by decide) (by decide) (lw_c10 hl9 C0 hL hi hcn hkr hnr K st hl)
  by_cases e11 : j = 11
  · subst e11
    exact lv_tableIn hx hb dL_law_39 (off := 908) (tgt := 947) (by decide) (by decide) (by decide) (by decide) (lw_c11 hl9 C0 hL hi hcn hkr hnr K st hl)
  by_cases e12 : j = 12
  · subst e12
    exact lv_tableIn hx hb dL_law_39 (off := 988) (tgt := 1027) (by decide) (by decide) (by decide) (by decide) (lw_c12 hl9 C0 hL hi hcn hkr hnr K st hl)
  by_cases e13 : j = 13
  · subst e13
    exact lv_tableIn hx hb dL_law_39 (off := 1044) (tgt := 1083) (by decide) (by decide) (by decide) (by decide) (lw_c13 hl9 C0 hL hi hcn hkr hnr K st hl)
  by_cases e14 : j = 14
  · subst e14
    exact lv_tableIn hx hb dL_law_39 (off := 1100) (tgt := 1139) (by decide) (by decide) (by decide) (by decide) (lw_c14 hl9 C0 hL hi hcn hkr hnr K st hl)
  by_cases e15 : j = 15
  · subst e15
    exact lv_tableIn hx hb dL_law_39 (off := 1113) (tgt := 1152) (by decide) (by decide) (by decide) (by decide) (lw_c15 hl9 C0 hL hi hcn hkr hnr K st hl)
  by_cases e16 : j = 16
  · subst e16
    exact lv_tableIn hx hb dL_law_39 (off := 1126) (tgt := 1165) (by decide) (by decide) (by decide) (by decide) (lw_c16 hl9 C0 hL hi hcn hkr hnr K st hl)
  by_cases e17 : j = 17
  · subst e17
    exact lv_tableIn hx hb dL_law_39 (off := 1182) (tgt := 1221) (by decide) (by decide) (by decide) (by decide) (lw_c17 hl9 C0 hL hi hcn hkr hnr K st hl)
  by_cases e18 : j = 18
  · subst e18
    exact lv_tableIn hx hb dL_law_39 (off := 1238) (tgt := 1277) (by decide) (by decide) (by decide) (by decide) (lw_c18 hl9 C0 hL hi hcn hkr hnr K st hl)
  by_cases e19 : j = 19
  · subst e19
    exact lv_tableIn hx hb dL_law_39 (off := 1294) (tgt := 1333) (by decide) (by decide) (by decide) (by decide) (lw_c19 hl9 C0 hL hi hcn hkr hnr K st hl)
  by_cases e20 : j = 20
  · subst e20
    exact lv_tableIn hx hb dL_law_39 (off := 1350) (tgt := 1389) (by decide) (by decide) (by decide) (by decide) (lw_c20 hl9 C0 hL hi hcn hkr hnr K st hl)
  by_cases e21 : j = 21
  · subst e21
    exact lv_tableIn hx hb dL_law_39 (off := 1406) (tgt := 1445) (by decide) (by decide) (by decide) (by decide) (lw_c21 hl9 C0 hL hi hcn hkr hnr K st hl)
  by_cases e22 : j = 22
  · subst e22
    exact lv_tableIn hx hb dL_law_39 (off := 1462) (tgt := 1501) (by decide) (by decide) (by decide) (by decide) (lw_c22 hl9 C0 hL hi hcn hkr hnr K st hl)
  by_cases e23 : j = 23
  · subst e23
    exact lv_tableIn hx hb dL_law_39 (off := 1518) (tgt := 1557) (by decide) (by decide) (by decide) (by decide) (lw_c23 hl9 C0 hL hi hcn hkr hnr K st hl)
  by_cases e24 : j = 24
  · subst e24
    exact lv_tableIn hx hb dL_law_39 (off := 1586) (tgt := 1625) (by decide) (by decide) (by decide) (by decide) (lw_c24 hl9 C0 hL hi hcn hkr hnr K st hl)
  by_cases e25 : j = 25
  · subst e25
    exact lv_tableIn hx hb dL_law_39 (off := 1642) (tgt := 1681) (by decide) (by decide) (by decide) (by decide) (lw_c25 hl9 C0 hL hi hcn hkr hnr K st hl)
  by_cases e26 : j = 26
  · subst e26
    exact lv_tableIn hx hb dL_law_39 (off := 1698) (tgt := 1737) (by decide) (by decide) (by decide) (by decide) (lw_c26 hl9 C0 hL hi hcn hkr hnr K st hl)
  by_cases e27 : j = 27
  · subst e27
    exact lv_tableIn hx hb dL_law_39 (off := 1761) (tgt := 1800) (by decide) (by decide) (by decide) (by decide) (lw_c27 hl9 C0 hL hi hcn hkr hnr K st hl)
  by_cases e28 : j = 28
  · subst e28
    exact lv_tableIn hx hb dL_law_39 (off := 1774) (tgt := 1813) (by decide) (by decide) (by decide) (by decide) (lw_c28 hl9 C0 hL hi hcn hkr hnr K st hl)
  by_cases e29 : j = 29
  · subst e29
    exact lv_tableIn hx hb dL_law_39 (off := 1830) (tgt := 1869) (by decide) (by decide) (by decide) (by decide) (lw_c29 hl9 C0 hL hi hcn hkr hnr K st hl)
  have h30 : 30 ≤ j := by omega
  refine lv_tableOut hx hb dL_law_39 (tgt := 1882) (Or.inr ?_) (by decide) ?_
  · rw [nI_toInt (by omega)]
    omega
  · obtain ⟨hG, hR, ex, hM, hS, hI⟩ := st
    exact W.widen (k := k + 100) (n := n + 10500) (Nat.le_add_right k 100) (Nat.le_add_right n 10500) (K S G T Hm M f H locs ls ⟨hG, hR, ex, hM, hS, hI.mono (Nat.le_succ cn)⟩ hl)
theorem lw_len {L i : Nat} (hL : L ≤ 2560) (hi : i ≤ 3000) : (nI L - 5 < nI i ↔ L < i + 5) := by
  have e : (nI L - nI 5).toInt = (L : Int) - (5 : Nat) := pk_sub_toInt (by omega) (by omega)
  have e5 : (nI 5 : Int32) = 5 := by decide
  rw [e5] at e
  rw [Int32.lt_iff_toInt_lt, e, nI_toInt (by omega)]
  omega
theorem lw_loop (hl9 : l.stackTraces = false) (C0 : lw_At p s m meth c b L xs) (hL : L ≤ 2560) {k0 n0 : Nat} (hk0 : k0 ≤ 100) (hn0 : n0 ≤ 10000) : ∀ (r cn i k n : Nat), L < 5 * (cn + r) + 5 → cn ≤ 512 → i = 5 * cn → k = k0 + 100 * cn → n = n0 + 10500 * cn → lw_K p l e s m below meth c b g o x y cn i k n 23 := by
  have hC := C0
  obtain ⟨hx, hb, hr, hml, hown, hts0, hX, hbl, hlocks, hgv⟩ := C0
  have hbA : ¬ (fun q : Nat => s.heap.size ≤ q) b := Nat.not_le.mpr hbl
  intro r
  induction r with
  | zero =>
    intro cn i k n h1 hcn ei ek en S G T Hm M f H locs ls st hl
    have hS := st.1.2.2.2.1
    refine lv_iload hx hb dL_law_23 (lv_at hl 4 rfl) ?_
    refine lv_aload_n hx hb dL_law_25 rfl (lv_at hl 0 rfl) ?_
    refine va_slen hx hb hX hbl hbA hS dL_law_26 ?_
    refine lv_iconst (v := 5) hx hb dL_law_27 (by decide) ?_
    refine lv_isub hx hb dL_law_28 ?_
    refine lv_icmp_gt (tgt := 1888) hx hb dL_law_29 (by decide) (fun _ => ?_) (fun c1 => absurd ((lw_len hL (by omega)).mpr (by omega)) c1)
    refine lv_iconst (v := 1) hx hb dL_law_1888 (by decide) ?_
    refine va_forget (fun q hq => hS.2.2 q hq) ?_
    refine W.widen (k := 601024) (n := 7293034) (by omega) (by omega) ?_
    exact lw_ret hx hb hr hlocks dL_law_1889
  | succ r ih =>
    intro cn i k n h1 hcn ei ek en S G T Hm M f H locs ls st hl
    have hS := st.1.2.2.2.1
    refine lv_iload hx hb dL_law_23 (lv_at hl 4 rfl) ?_
    refine lv_aload_n hx hb dL_law_25 rfl (lv_at hl 0 rfl) ?_
    refine va_slen hx hb hX hbl hbA hS dL_law_26 ?_
    refine lv_iconst (v := 5) hx hb dL_law_27 (by decide) ?_
    refine lv_isub hx hb dL_law_28 ?_
    refine lv_icmp_gt (tgt := 1888) hx hb dL_law_29 (by decide) (fun _ => ?_) (fun c1 => ?_)
    · refine lv_iconst (v := 1) hx hb dL_law_1888 (by decide) ?_
      refine va_forget (fun q hq => hS.2.2 q hq) ?_
      refine W.widen (k := 601024) (n := 7293034) (by omega) (by omega) ?_
      exact lw_ret hx hb hr hlocks dL_law_1889
    · have hi : i + 5 ≤ L := by
        rcases Nat.lt_or_ge L (i + 5) with q | q
        · exact absurd ((lw_len hL (by omega)).mpr q) c1
        · exact q
      refine lv_aload_n hx hb dL_law_32 rfl (lv_at hl 0 rfl) ?_
      refine lv_iload hx hb dL_law_33 (lv_at hl 4 rfl) ?_
      refine va_sld hx hb hX hbl hbA hS (vp_in_nI (n := i) (by omega) (by omega)) dL_law_35 ?_
      refine lv_bipush (v := (31 : Int32)) hx hb dL_law_36 (by decide +kernel) ?_
      refine lv_iand hx hb dL_law_38 ?_
      obtain ⟨j, hj, ej⟩ := pk_andE (xs (nI i).toNatClampNeg) (m := 31) 5 (by decide)
      rw [ej]
      refine lw_disp hl9 hC hL hi (by omega) (by omega) (by omega) (fun S1 G1 T1 Hm1 M1 f1 H1 locs1 ls1 st1 hl1 => ?_) st hl j hj
      refine lv_iinc (v := nI (i + 5)) (lv' := [(4, .int (nI (i + 5))), (0, .ref b), (1, .ref x), (2, .ref y), (3, .ref o)]) hx hb dL_law_1882 hl1 (k := 4) rfl (nI_add i 5) (by decide) rfl (fun ls2 hl2 => ?_)
      refine lv_goto (tgt := 23) hx hb dL_law_1885 (by decide) ?_
      exact ih (cn + 1) (i + 5) (k + 100) (n + 10500) (by omega) (by omega) (by omega) (by omega) (by omega) S1 G1 T1 Hm1 M1 f1 H1 locs1 ls2 st1 (lv_sub hl2 [1, 2, 3, 4, 0] rfl)
end LWL
