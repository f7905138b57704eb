def g_Sim (Inv : k_St → k_St → Prop) : Prop := g_s0 Inv ∧ g_s1 Inv ∧ g_s2 Inv ∧ g_s3 Inv ∧ g_s4 Inv ∧ g_s5 Inv ∧ g_s6 Inv ∧ g_s7 Inv ∧ g_s8 Inv ∧ g_s9 Inv ∧ g_s10 Inv ∧ g_s11 Inv ∧ g_s12 Inv ∧ g_s13 Inv ∧ g_s14 Inv ∧ g_s15 Inv ∧ g_s16 Inv ∧ g_s17 Inv ∧ g_s18 Inv ∧ g_s19 Inv ∧ g_s20 Inv ∧ g_s21 Inv ∧ g_s22 Inv ∧ g_s23 Inv ∧ g_s24 Inv ∧ g_s25 Inv ∧ g_s26 Inv ∧ g_s27 Inv ∧ g_s28 Inv ∧ g_s29 Inv ∧ g_s30 Inv ∧ g_s31 Inv ∧ g_s32 Inv ∧ g_s33 Inv ∧ g_s34 Inv ∧ g_s35 Inv ∧ g_s36 Inv ∧ g_s37 Inv ∧ g_s38 Inv ∧ g_s39 Inv ∧ g_s40 Inv ∧ g_s41 Inv ∧ g_s42 Inv ∧ g_s43 Inv ∧ g_s44 Inv ∧ g_s45 Inv ∧ g_s46 Inv ∧ g_s47 Inv
set_option maxHeartbeats 8000000 in
set_option maxRecDepth 100000 in
theorem g_loop {Inv : k_St → k_St → Prop} (sim : g_Sim Inv) {p : Program} {l : Launch} {e : Env} {s : State} {m : MethodId} {below : List Frame} {meth : Method} {c : Code} {b L : Nat} {xs : Nat → Int32} {wX wM : k_WC} {ao : Nat} (hs : g_St p l s m meth c b L xs wX wM ao) : ∀ (n j : Nat), j + n = 513 → 6 * j ≤ L → ∀ (σX σM : k_St) (fo : Nat → Int64) (H : Heap) (locs : List Loc) (ls : Array Slot), Inv σX σM → g_Dy s wX wM ao σX σM fo H → va_S (g_A s) s.heap H locs → lv_has ls 7 (g_L b (6 * j) ao wX wM) → W p l e room_1 s m #[Value.ref b] below meth c H locs (1000 + j) (20000 + 6 * j) (lw_Z below #[Value.ref b] s) (F0 m 23 ls []) := by
  obtain ⟨q0, q1, q2, q3, q4, q5, q6, q7, q8, q9, q10, q11, q12, q13, q14, q15, q16, q17, q18, q19, q20, q21, q22, q23, q24, q25, q26, q27, q28, q29, q30, q31, q32, q33, q34, q35, q36, q37, q38, q39, q40, q41, q42, q43, q44, q45, q46, q47⟩ := sim
  obtain ⟨⟨hx, hb, hr, hml, hown⟩, hT, ⟨hX, hbl, hlocks, hfl, hL⟩, -, -, -⟩ := id hs
  intro n
  induction n with
  | zero => intro j h1 h2; omega
  | succ n ih =>
    intro j hj hjl σX σM fo H locs ls hI hD hS hl
    refine lv_iload hx hb dL_law_23 (lv_at hl 4 rfl) ?_
    refine lv_aload_n hx hb dL_law_25 rfl (lv_at hl 0 rfl) ?_
    refine va_slen hx hb hX hbl (Nat.not_le.mpr hbl) hS dL_law_26 ?_
    refine lv_bipush (v := 6) hx hb dL_law_27 rfl ?_
    refine lv_isub hx hb dL_law_29 ?_
    have hsub : (nI L - nI 6).toInt = (L : Int) - (6 : Nat) := pk_sub_toInt (by omega) (by omega)
    have hti : (nI (6 * j)).toInt = ((6 * j : Nat) : Int) := nI_toInt (by omega)
    have e1 : (Int32.ofNat L - 6).toInt = (L : Int) - (6 : Nat) := hsub
    have hcmp : Int32.ofNat L - 6 < nI (6 * j) ↔ L < 6 * j + 6 := by
      constructor
      · intro h
        have h2 := Int32.lt_iff_toInt_lt.mp h
        rw [e1, hti] at h2
        omega
      · intro h
        refine Int32.lt_iff_toInt_lt.mpr ?_
        rw [e1, hti]
        omega
    refine lv_icmp_gt (tgt := 1969) hx hb dL_law_30 (by decide) (fun c30 => ?_) (fun c30 => ?_)
    · refine lv_iconst (v := 1) hx hb dL_law_1969 rfl ?_
      refine va_forget (fun q hq => hS.2.2 q hq) ?_
      refine W.widen (k := 601024) (n := 7293034) (by omega) (by omega) ?_
      exact lw_ret hx hb hr hlocks dL_law_1970
    · have hi : 6 * j + 6 ≤ L := Nat.le_of_not_lt (fun h => c30 (hcmp.mpr h))
      refine lv_aload_n hx hb dL_law_33 rfl (lv_at hl 0 rfl) ?_
      refine lv_iload hx hb dL_law_34 (lv_at hl 4 rfl) ?_
      refine va_sld hx hb hX hbl (Nat.not_le.mpr hbl) hS (vp_in_nI (show 6 * j < L by omega) (by omega)) dL_law_36 ?_
      refine lv_bipush (v := 63) hx hb dL_law_37 rfl ?_
      refine lv_iand hx hb dL_law_39 ?_
      refine lv_topi (fun z ez => ?_)
      clear ez
      have K : g_Nx Inv p l e s m below meth c b (6 * j) wX wM ao (1000 + j + 1) (20000 + 6 * j + 6) (lw_Z below #[Value.ref b] s) := fun σX σM fo H locs ls hI hD hS hl => by
        refine lv_iinc (v := nI (6 * (j + 1))) (lv' := [(4, .int (nI (6 * (j + 1)))), (0, .ref b), (1, .ref (wX.2.1 0)), (2, .ref (wM.2.1 0)), (3, .ref ao)]) hx hb dL_law_1963 hl (k := 4) rfl (show nI (6 * j) + nI 6 = nI (6 * (j + 1)) from (by rw [nI_add]; rfl)) (by decide) rfl (fun ls hl => ?_)
        refine lv_goto (tgt := 23) hx hb dL_law_1966 (by decide) ?_
        exact ih (j + 1) (by omega) (by omega) σX σM fo H locs ls hI hD hS (lv_sub hl [1, 2, 3, 4, 0] rfl)
      by_cases c40_0 : z = 0
      · subst c40_0
        refine lv_tableIn (tgt := 248) (off := 208) hx hb dL_law_40 (by decide) (by decide) (by decide) (by decide) ?_
        exact g_case0 q0 hs (by omega) (by omega) hi hI hD hS hl K
      by_cases c40_1 : z = 1
      · subst c40_1
        refine lv_tableIn (tgt := 321) (off := 281) hx hb dL_law_40 (by decide) (by decide) (by decide) (by decide) ?_
        exact g_case1 q1 hs (by omega) (by omega) hi hI hD hS hl K
      by_cases c40_2 : z = 2
      · subst c40_2
        refine lv_tableIn (tgt := 346) (off := 306) hx hb dL_law_40 (by decide) (by decide) (by decide) (by decide) ?_
        exact g_case2 q2 hs (by omega) (by omega) hi hI hD hS hl K
      by_cases c40_3 : z = 3
      · subst c40_3
        refine lv_tableIn (tgt := 371) (off := 331) hx hb dL_law_40 (by decide) (by decide) (by decide) (by decide) ?_
        exact g_case3 q3 hs (by omega) (by omega) hi hI hD hS hl K
      by_cases c40_4 : z = 4
      · subst c40_4
        refine lv_tableIn (tgt := 396) (off := 356) hx hb dL_law_40 (by decide) (by decide) (by decide) (by decide) ?_
        exact g_case4 q4 hs (by omega) (by omega) hi hI hD hS hl K
      by_cases c40_5 : z = 5
      · subst c40_5
        refine lv_tableIn (tgt := 464) (off := 424) hx hb dL_law_40 (by decide) (by decide) (by decide) (by decide) ?_
        exact g_case5 q5 hs (by omega) (by omega) hi hI hD hS hl K
      by_cases c40_6 : z = 6
      · subst c40_6
        refine lv_tableIn (tgt := 489) (off := 449) hx hb dL_law_40 (by decide) (by decide) (by decide) (by decide) ?_
        exact g_case6 q6 hs (by omega) (by omega) hi hI hD hS hl K
      by_cases c40_7 : z = 7
      · subst c40_7
        refine lv_tableIn (tgt := 542) (off := 502) hx hb dL_law_40 (by decide) (by decide) (by decide) (by decide) ?_
        exact g_case7 q7 hs (by omega) (by omega) hi hI hD hS hl K
      by_cases c40_8 : z = 8
      · subst c40_8
        refine lv_tableIn (tgt := 567) (off := 527) hx hb dL_law_40 (by decide) (by decide) (by decide) (by decide) ?_
        exact g_case8 q8 hs (by omega) (by omega) hi hI hD hS hl K
      by_cases c40_9 : z = 9
      · subst c40_9
        refine lv_tableIn (tgt := 616) (off := 576) hx hb dL_law_40 (by decide) (by decide) (by decide) (by decide) ?_
        exact g_case9 q9 hs (by omega) (by omega) hi hI hD hS hl K
      by_cases c40_10 : z = 10
      · subst c40_10
        refine lv_tableIn (tgt := 653) (off := 613) hx hb dL_law_40 (by decide) (by decide) (by decide) (by decide) ?_
        exact g_case10 q10 hs (by omega) (by omega) hi hI hD hS hl K
      by_cases c40_11 : z = 11
      · subst c40_11
        refine lv_tableIn (tgt := 666) (off := 626) hx hb dL_law_40 (by decide) (by decide) (by decide) (by decide) ?_
        exact g_case11 q11 hs (by omega) (by omega) hi hI hD hS hl K
      by_cases c40_12 : z = 12
      · subst c40_12
        refine lv_tableIn (tgt := 703) (off := 663) hx hb dL_law_40 (by decide) (by decide) (by decide) (by decide) ?_
        exact g_case12 q12 hs (by omega) (by omega) hi hI hD hS hl K
      by_cases c40_13 : z = 13
      · subst c40_13
        refine lv_tableIn (tgt := 728) (off := 688) hx hb dL_law_40 (by decide) (by decide) (by decide) (by decide) ?_
        exact g_case13 q13 hs (by omega) (by omega) hi hI hD hS hl K
      by_cases c40_14 : z = 14
      · subst c40_14
        refine lv_tableIn (tgt := 765) (off := 725) hx hb dL_law_40 (by decide) (by decide) (by decide) (by decide) ?_
        exact g_case14 q14 hs (by omega) (by omega) hi hI hD hS hl K
      by_cases c40_15 : z = 15
      · subst c40_15
        refine lv_tableIn (tgt := 846) (off := 806) hx hb dL_law_40 (by decide) (by decide) (by decide) (by decide) ?_
        exact g_case15 q15 hs (by omega) (by omega) hi hI hD hS hl K
      by_cases c40_16 : z = 16
      · subst c40_16
        refine lv_tableIn (tgt := 871) (off := 831) hx hb dL_law_40 (by decide) (by decide) (by decide) (by decide) ?_
        exact g_case16 q16 hs (by omega) (by omega) hi hI hD hS hl K
      by_cases c40_17 : z = 17
      · subst c40_17
        refine lv_tableIn (tgt := 896) (off := 856) hx hb dL_law_40 (by decide) (by decide) (by decide) (by decide) ?_
        exact g_case17 q17 hs (by omega) (by omega) hi hI hD hS hl K
      by_cases c40_18 : z = 18
      · subst c40_18
        refine lv_tableIn (tgt := 945) (off := 905) hx hb dL_law_40 (by decide) (by decide) (by decide) (by decide) ?_
        exact g_case18 q18 hs (by omega) (by omega) hi hI hD hS hl K
      by_cases c40_19 : z = 19
      · subst c40_19
        refine lv_tableIn (tgt := 998) (off := 958) hx hb dL_law_40 (by decide) (by decide) (by decide) (by decide) ?_
        exact g_case19 q19 hs (by omega) (by omega) hi hI hD hS hl K
      by_cases c40_20 : z = 20
      · subst c40_20
        refine lv_tableIn (tgt := 1047) (off := 1007) hx hb dL_law_40 (by decide) (by decide) (by decide) (by decide) ?_
        exact g_case20 q20 hs (by omega) (by omega) hi hI hD hS hl K
      by_cases c40_21 : z = 21
      · subst c40_21
        refine lv_tableIn (tgt := 1072) (off := 1032) hx hb dL_law_40 (by decide) (by decide) (by decide) (by decide) ?_
        exact g_case21 q21 hs (by omega) (by omega) hi hI hD hS hl K
      by_cases c40_22 : z = 22
      · subst c40_22
        refine lv_tableIn (tgt := 1109) (off := 1069) hx hb dL_law_40 (by decide) (by decide) (by decide) (by decide) ?_
        exact g_case22 q22 hs (by omega) (by omega) hi hI hD hS hl K
      by_cases c40_23 : z = 23
      · subst c40_23
        refine lv_tableIn (tgt := 1134) (off := 1094) hx hb dL_law_40 (by decide) (by decide) (by decide) (by decide) ?_
        exact g_case23 q23 hs (by omega) (by omega) hi hI hD hS hl K
      by_cases c40_24 : z = 24
      · subst c40_24
        refine lv_tableIn (tgt := 1191) (off := 1151) hx hb dL_law_40 (by decide) (by decide) (by decide) (by decide) ?_
        exact g_case24 q24 hs (by omega) (by omega) hi hI hD hS hl K
      by_cases c40_25 : z = 25
      · subst c40_25
        refine lv_tableIn (tgt := 1204) (off := 1164) hx hb dL_law_40 (by decide) (by decide) (by decide) (by decide) ?_
        exact g_case25 q25 hs (by omega) (by omega) hi hI hD hS hl K
      by_cases c40_26 : z = 26
      · subst c40_26
        refine lv_tableIn (tgt := 1241) (off := 1201) hx hb dL_law_40 (by decide) (by decide) (by decide) (by decide) ?_
        exact g_case26 q26 hs (by omega) (by omega) hi hI hD hS hl K
      by_cases c40_27 : z = 27
      · subst c40_27
        refine lv_tableIn (tgt := 1254) (off := 1214) hx hb dL_law_40 (by decide) (by decide) (by decide) (by decide) ?_
        exact g_case27 q27 hs (by omega) (by omega) hi hI hD hS hl K
      by_cases c40_28 : z = 28
      · subst c40_28
        refine lv_tableIn (tgt := 1279) (off := 1239) hx hb dL_law_40 (by decide) (by decide) (by decide) (by decide) ?_
        exact g_case28 q28 hs (by omega) (by omega) hi hI hD hS hl K
      by_cases c40_29 : z = 29
      · subst c40_29
        refine lv_tableIn (tgt := 1316) (off := 1276) hx hb dL_law_40 (by decide) (by decide) (by decide) (by decide) ?_
        exact g_case29 q29 hs (by omega) (by omega) hi hI hD hS hl K
      by_cases c40_30 : z = 30
      · subst c40_30
        refine lv_tableIn (tgt := 1365) (off := 1325) hx hb dL_law_40 (by decide) (by decide) (by decide) (by decide) ?_
        exact g_case30 q30 hs (by omega) (by omega) hi hI hD hS hl K
      by_cases c40_31 : z = 31
      · subst c40_31
        refine lv_tableIn (tgt := 1415) (off := 1375) hx hb dL_law_40 (by decide) (by decide) (by decide) (by decide) ?_
        exact g_case31 q31 hs (by omega) (by omega) hi hI hD hS hl K
      by_cases c40_32 : z = 32
      · subst c40_32
        refine lv_tableIn (tgt := 1453) (off := 1413) hx hb dL_law_40 (by decide) (by decide) (by decide) (by decide) ?_
        exact g_case32 q32 hs (by omega) (by omega) hi hI hD hS hl K
      by_cases c40_33 : z = 33
      · subst c40_33
        refine lv_tableIn (tgt := 1503) (off := 1463) hx hb dL_law_40 (by decide) (by decide) (by decide) (by decide) ?_
        exact g_case33 q33 hs (by omega) (by omega) hi hI hD hS hl K
      by_cases c40_34 : z = 34
      · subst c40_34
        refine lv_tableIn (tgt := 1540) (off := 1500) hx hb dL_law_40 (by decide) (by decide) (by decide) (by decide) ?_
        exact g_case34 q34 hs (by omega) (by omega) hi hI hD hS hl K
      by_cases c40_35 : z = 35
      · subst c40_35
        refine lv_tableIn (tgt := 1565) (off := 1525) hx hb dL_law_40 (by decide) (by decide) (by decide) (by decide) ?_
        exact g_case35 q35 hs (by omega) (by omega) hi hI hD hS hl K
      by_cases c40_36 : z = 36
      · subst c40_36
        refine lv_tableIn (tgt := 1590) (off := 1550) hx hb dL_law_40 (by decide) (by decide) (by decide) (by decide) ?_
        exact g_case36 q36 hs (by omega) (by omega) hi hI hD hS hl K
      by_cases c40_37 : z = 37
      · subst c40_37
        refine lv_tableIn (tgt := 1640) (off := 1600) hx hb dL_law_40 (by decide) (by decide) (by decide) (by decide) ?_
        exact g_case37 q37 hs (by omega) (by omega) hi hI hD hS hl K
      by_cases c40_38 : z = 38
      · subst c40_38
        refine lv_tableIn (tgt := 1689) (off := 1649) hx hb dL_law_40 (by decide) (by decide) (by decide) (by decide) ?_
        exact g_case38 q38 hs (by omega) (by omega) hi hI hD hS hl K
      by_cases c40_39 : z = 39
      · subst c40_39
        refine lv_tableIn (tgt := 1726) (off := 1686) hx hb dL_law_40 (by decide) (by decide) (by decide) (by decide) ?_
        exact g_case39 q39 hs (by omega) (by omega) hi hI hD hS hl K
      by_cases c40_40 : z = 40
      · subst c40_40
        refine lv_tableIn (tgt := 1775) (off := 1735) hx hb dL_law_40 (by decide) (by decide) (by decide) (by decide) ?_
        exact g_case40 q40 hs (by omega) (by omega) hi hI hD hS hl K
      by_cases c40_41 : z = 41
      · subst c40_41
        refine lv_tableIn (tgt := 1812) (off := 1772) hx hb dL_law_40 (by decide) (by decide) (by decide) (by decide) ?_
        exact g_case41 q41 hs (by omega) (by omega) hi hI hD hS hl K
      by_cases c40_42 : z = 42
      · subst c40_42
        refine lv_tableIn (tgt := 1849) (off := 1809) hx hb dL_law_40 (by decide) (by decide) (by decide) (by decide) ?_
        exact g_case42 q42 hs (by omega) (by omega) hi hI hD hS hl K
      by_cases c40_43 : z = 43
      · subst c40_43
        refine lv_tableIn (tgt := 1886) (off := 1846) hx hb dL_law_40 (by decide) (by decide) (by decide) (by decide) ?_
        exact g_case43 q43 hs (by omega) (by omega) hi hI hD hS hl K
      by_cases c40_44 : z = 44
      · subst c40_44
        refine lv_tableIn (tgt := 1899) (off := 1859) hx hb dL_law_40 (by decide) (by decide) (by decide) (by decide) ?_
        exact g_case44 q44 hs (by omega) (by omega) hi hI hD hS hl K
      by_cases c40_45 : z = 45
      · subst c40_45
        refine lv_tableIn (tgt := 1912) (off := 1872) hx hb dL_law_40 (by decide) (by decide) (by decide) (by decide) ?_
        exact g_case45 q45 hs (by omega) (by omega) hi hI hD hS hl K
      by_cases c40_46 : z = 46
      · subst c40_46
        refine lv_tableIn (tgt := 1925) (off := 1885) hx hb dL_law_40 (by decide) (by decide) (by decide) (by decide) ?_
        exact g_case46 q46 hs (by omega) (by omega) hi hI hD hS hl K
      by_cases c40_47 : z = 47
      · subst c40_47
        refine lv_tableIn (tgt := 1938) (off := 1898) hx hb dL_law_40 (by decide) (by decide) (by decide) (by decide) ?_
        exact g_case47 q47 hs (by omega) (by omega) hi hI hD hS hl K
      have n0 : ¬ z.toInt = 0 := fun e => c40_0 (Int32.toInt_inj.mp e)
      have n1 : ¬ z.toInt = 1 := fun e => c40_1 (Int32.toInt_inj.mp e)
      have n2 : ¬ z.toInt = 2 := fun e => c40_2 (Int32.toInt_inj.mp e)
      have n3 : ¬ z.toInt = 3 := fun e => c40_3 (Int32.toInt_inj.mp e)
      have n4 : ¬ z.toInt = 4 := fun e => c40_4 (Int32.toInt_inj.mp e)
      have n5 : ¬ z.toInt = 5 := fun e => c40_5 (Int32.toInt_inj.mp e)
      have n6 : ¬ z.toInt = 6 := fun e => c40_6 (Int32.toInt_inj.mp e)
      have n7 : ¬ z.toInt = 7 := fun e => c40_7 (Int32.toInt_inj.mp e)
      have n8 : ¬ z.toInt = 8 := fun e => c40_8 (Int32.toInt_inj.mp e)
      have n9 : ¬ z.toInt = 9 := fun e => c40_9 (Int32.toInt_inj.mp e)
      have n10 : ¬ z.toInt = 10 := fun e => c40_10 (Int32.toInt_inj.mp e)
      have n11 : ¬ z.toInt = 11 := fun e => c40_11 (Int32.toInt_inj.mp e)
      have n12 : ¬ z.toInt = 12 := fun e => c40_12 (Int32.toInt_inj.mp e)
      have n13 : ¬ z.toInt = 13 := fun e => c40_13 (Int32.toInt_inj.mp e)
      have n14 : ¬ z.toInt = 14 := fun e => c40_14 (Int32.toInt_inj.mp e)
      have n15 : ¬ z.toInt = 15 := fun e => c40_15 (Int32.toInt_inj.mp e)
      have n16 : ¬ z.toInt = 16 := fun e => c40_16 (Int32.toInt_inj.mp e)
      have n17 : ¬ z.toInt = 17 := fun e => c40_17 (Int32.toInt_inj.mp e)
      have n18 : ¬ z.toInt = 18 := fun e => c40_18 (Int32.toInt_inj.mp e)
      have n19 : ¬ z.toInt = 19 := fun e => c40_19 (Int32.toInt_inj.mp e)
      have n20 : ¬ z.toInt = 20 := fun e => c40_20 (Int32.toInt_inj.mp e)
      have n21 : ¬ z.toInt = 21 := fun e => c40_21 (Int32.toInt_inj.mp e)
      have n22 : ¬ z.toInt = 22 := fun e => c40_22 (Int32.toInt_inj.mp e)
      have n23 : ¬ z.toInt = 23 := fun e => c40_23 (Int32.toInt_inj.mp e)
      have n24 : ¬ z.toInt = 24 := fun e => c40_24 (Int32.toInt_inj.mp e)
      have n25 : ¬ z.toInt = 25 := fun e => c40_25 (Int32.toInt_inj.mp e)
      have n26 : ¬ z.toInt = 26 := fun e => c40_26 (Int32.toInt_inj.mp e)
      have n27 : ¬ z.toInt = 27 := fun e => c40_27 (Int32.toInt_inj.mp e)
      have n28 : ¬ z.toInt = 28 := fun e => c40_28 (Int32.toInt_inj.mp e)
      have n29 : ¬ z.toInt = 29 := fun e => c40_29 (Int32.toInt_inj.mp e)
      have n30 : ¬ z.toInt = 30 := fun e => c40_30 (Int32.toInt_inj.mp e)
      have n31 : ¬ z.toInt = 31 := fun e => c40_31 (Int32.toInt_inj.mp e)
      have n32 : ¬ z.toInt = 32 := fun e => c40_32 (Int32.toInt_inj.mp e)
      have n33 : ¬ z.toInt = 33 := fun e => c40_33 (Int32.toInt_inj.mp e)
      have n34 : ¬ z.toInt = 34 := fun e => c40_34 (Int32.toInt_inj.mp e)
      have n35 : ¬ z.toInt = 35 := fun e => c40_35 (Int32.toInt_inj.mp e)
      have n36 : ¬ z.toInt = 36 := fun e => c40_36 (Int32.toInt_inj.mp e)
      have n37 : ¬ z.toInt = 37 := fun e => c40_37 (Int32.toInt_inj.mp e)
      have n38 : ¬ z.toInt = 38 := fun e => c40_38 (Int32.toInt_inj.mp e)
      have n39 : ¬ z.toInt = 39 := fun e => c40_39 (Int32.toInt_inj.mp e)
      have n40 : ¬ z.toInt = 40 := fun e => c40_40 (Int32.toInt_inj.mp e)
      have n41 : ¬ z.toInt = 41 := fun e => c40_41 (Int32.toInt_inj.mp e)
      have n42 : ¬ z.toInt = 42 := fun e => c40_42 (Int32.toInt_inj.mp e)
      have n43 : ¬ z.toInt = 43 := fun e => c40_43 (Int32.toInt_inj.mp e)
      have n44 : ¬ z.toInt = 44 := fun e => c40_44 (Int32.toInt_inj.mp e)
      have n45 : ¬ z.toInt = 45 := fun e => c40_45 (Int32.toInt_inj.mp e)
      have n46 : ¬ z.toInt = 46 := fun e => c40_46 (Int32.toInt_inj.mp e)
      have n47 : ¬ z.toInt = 47 := fun e => c40_47 (Int32.toInt_inj.mp e)
      refine lv_tableOut (tgt := 1963) hx hb dL_law_40 (by omega) (by decide) ?_
      exact W.widen (k := 1000 + j + 1) (n := 20000 + 6 * j + 6) (by omega) (by omega) (K _ _ _ _ _ _ hI hD hS hl)
set_option maxHeartbeats 8000000 in
set_option maxRecDepth 100000 in
theorem g_start {Inv : k_St → k_St → Prop} (sim : g_Sim Inv) (h0 : Inv i_X i_M) {p : Program} {e : Env} {s : State} {m : MethodId} {below : List Frame} {meth : Method} {c : Code} (l : Launch) (hflags : l.flags = flags0) {b L : Nat} {xs : Nat → Int32} (hL : L ≤ 3072) (C0 : lw_At p s m meth c b L xs) : W p l e room_1 s m #[Value.ref b] below meth c s.heap [] 0 0 (lw_Z below #[Value.ref b] s) (entryFrame m ([Value.ref b] : List Value).toArray 7) := by
  obtain ⟨hx, hb, hr, hml, hown, hts, hX, hbl, hlocks, hgv⟩ := id C0
  have hT := g_hT hts
  have hN := g_hN hts
  have hDN := g_hD hts
  have hfl : l.stackTraces = false := by
    unfold Launch.stackTraces
    rw [hflags]
    decide +kernel
  have hA : ∀ q : Nat, s.heap.size ≤ q → g_A s q := fun _ h => h
  have hA0 : ∀ a : Nat, a < s.heap.size → ¬ g_A s a := fun a h => Nat.not_le.mpr h
  obtain ⟨su, hfx⟩ := g_fx hgv hts hA0
  have hex := g_ex hgv hts hA0
  obtain ⟨D, ci, cl, cb, hK⟩ := g_K hT
  have hS : va_S (g_A s) s.heap s.heap [] := va_S.rf
  have hP : va_P D vwCl [] s.heap := fun k q h => by simp at h
  have hD : va_D (g_A s) [] := ⟨fun i j p q h => by simp at h, fun k q h => by simp at h⟩
  have hl := lv_entry ([.ref b]) (n := 7) (Nat.le_of_ble_eq_true rfl)
  rw [lg_entry_eq]
  generalize (lg_sl ([.ref b]) ++ List.replicate (7 - (lg_sl ([.ref b])).length) Slot.unset).toArray = ls at hl ⊢
  have hl : lv_has ls 7 [(0, .ref b)] := hl
  refine va_new (ci := 10) (fs := [.null, .null, .null, .null, .null, .null, .null, .null, .null, .null, .null, .null, .null, .int 0, .int 0, .int 0, .int 0]) (C := RX11) (T := TX11) (N := 17) hx hb hT k_inX11 tyX11 tyX11_ok hown (hT _ g_kL_8) (hT _ t_nX11) (hT _ t_zX11) hK hP hD hS hA rfl (fun j hj => by rcases (show j = 0 ∨ j = 1 ∨ j = 2 ∨ j = 3 ∨ j = 4 ∨ j = 5 ∨ j = 6 ∨ j = 7 ∨ j = 8 ∨ j = 9 ∨ j = 10 ∨ j = 11 ∨ j = 12 ∨ j = 13 ∨ j = 14 ∨ j = 15 ∨ j = 16 by omega) with rfl | rfl | rfl | rfl | rfl | rfl | rfl | rfl | rfl | rfl | rfl | rfl | rfl | rfl | rfl | rfl | rfl <;> rfl) (Nat.le_of_ble_eq_true rfl) (Nat.le_of_ble_eq_true rfl) dL_law_0 (fun x0 H hP hD hS => ?_)
  have hP : va_P D vwCl [(x0, .inr (10, [.null, .null, .null, .null, .null, .null, .null, .null, .null, .null, .null, .null, .null, .int 0, .int 0, .int 0, .int 0]))] H := hP
  have hD : va_D (g_A s) [(x0, .inr (10, [.null, .null, .null, .null, .null, .null, .null, .null, .null, .null, .null, .null, .null, .int 0, .int 0, .int 0, .int 0]))] := hD
  refine W.widen (k := 1) (n := 17) (Nat.le_of_ble_eq_true rfl) (Nat.le_of_ble_eq_true rfl) ?_
  refine lv_dup hx hb dL_law_3 rfl ?_
  have hFc := va_free (wc := [(x0, .inr (10, [.null, .null, .null, .null, .null, .null, .null, .null, .null, .null, .null, .null, .null, .int 0, .int 0, .int 0, .int 0]))]) hD hS hA [0] rfl
  refine va_callv (va_runI (As := []) (rest := [.ref x0]) ⟨hx, hb, hml, hown, hT⟩ (t_X11 l D ci cl cb x0 H.size) (cwI 0 hT (k_goodIn t_cX11) rfl rfl rfl (hT _ t_zX11) (hT _ g_lL_15) (hT _ t_iX11) rfl (by decide +kernel) ⟨Nat.le_of_ble_eq_true rfl, Nat.le_of_ble_eq_true rfl⟩) ⟨t_blind, fun U hU hW => ⟨rfl, by rw [hU], by rw [hU]; exact hP, va_K.moved hW.alike hK, hD.weaken (fun _ _ _ _ => trivial), fun w h => k_nw h hW (hN w h)⟩⟩ rfl rfl hl.1 rfl (lv_room (Nat.le_of_ble_eq_true rfl)) dL_law_4 ⟨Nat.le_of_ble_eq_true rfl, Nat.le_of_ble_eq_true rfl⟩) hS (fun q _ h => hFc q h) hFc (fun uX t H1 locs ht hvm hw hB hz1 hk1 hS => ?_)
  obtain ⟨hP1, hD1⟩ := hB
  rw [ht] at hP1
  obtain ⟨hP, hD⟩ := va_join (wr := []) (w1 := t_wX11 ci cl cb x0 uX) hP hD [0] [] rfl rfl (by decide) (by decide) hk1 hFc hP1 hD1
  generalize H1 = H at hP hS ⊢
  rw [g_iX D ci cl cb x0 uX su] at hP hD
  generalize hwX : ((D, g_U x0 uX, ci, cl, cb, su) : k_WC) = wX at hP hD
  have hP : va_P D vwCl (k_wX wX i_X) H := hP
  have hD : va_D (g_A s) (k_wX wX i_X) := hD
  refine W.widen (k := 100) (n := 3000) (Nat.le_of_ble_eq_true rfl) (Nat.le_of_ble_eq_true rfl) ?_
  refine lv_astore_n (lv' := [(1, .ref x0), (0, .ref b)]) hx hb dL_law_7 rfl hl (by decide) rfl (fun ls hl => ?_)
  refine va_new (ci := 11) (fs := [.int 0, .null, .int 0, .int 0, .int 0, .int 0, .null, .null, .null, .null, .null, .null, .null, .int 0, .int 0, .null, .null, .null, .null, .int 0, .null, .int 0, .int 0, .int 0, .null, .null, .int 0, .int 0, .int 0, .int 0, .int 0, .null, .null, .null, .int 0, .int 0, .null, .null, .null, .null, .null, .null, .null, .null, .null, .null, .null, .null, .null, .null, .null, .null, .int 0, .null, .null, .null, .null, .null, .null, .int 0, .long 0, .null, .null, .null, .null, .null, .null, .int 0, .int 0, .int 0, .int 0, .int 0, .long 0]) (C := RX12) (T := TX12) (N := 73) hx hb hT k_inX12 tyX12 tyX12_ok hown (hT _ g_kL_16) (hT _ t_nX12) (hT _ t_zX12) hK hP hD hS hA rfl (fun j hj => by rcases (show j = 0 ∨ j = 1 ∨ j = 2 ∨ j = 3 ∨ j = 4 ∨ j = 5 ∨ j = 6 ∨ j = 7 ∨ j = 8 ∨ j = 9 ∨ j = 10 ∨ j = 11 ∨ j = 12 ∨ j = 13 ∨ j = 14 ∨ j = 15 ∨ j = 16 ∨ j = 17 ∨ j = 18 ∨ j = 19 ∨ j = 20 ∨ j = 21 ∨ j = 22 ∨ j = 23 ∨ j = 24 ∨ j = 25 ∨ j = 26 ∨ j = 27 ∨ j = 28 ∨ j = 29 ∨ j = 30 ∨ j = 31 ∨ j = 32 ∨ j = 33 ∨ j = 34 ∨ j = 35 ∨ j = 36 ∨ j = 37 ∨ j = 38 ∨ j = 39 ∨ j = 40 ∨ j = 41 ∨ j = 42 ∨ j = 43 ∨ j = 44 ∨ j = 45 ∨ j = 46 ∨ j = 47 ∨ j = 48 ∨ j = 49 ∨ j = 50 ∨ j = 51 ∨ j = 52 ∨ j = 53 ∨ j = 54 ∨ j = 55 ∨ j = 56 ∨ j = 57 ∨ j = 58 ∨ j = 59 ∨ j = 60 ∨ j = 61 ∨ j = 62 ∨ j = 63 ∨ j = 64 ∨ j = 65 ∨ j = 66 ∨ j = 67 ∨ j = 68 ∨ j = 69 ∨ j = 70 ∨ j = 71 ∨ j = 72 by omega) with rfl | rfl | rfl | rfl | rfl | rfl | rfl | rfl | rfl | rfl | rfl | rfl | rfl | rfl | rfl | rfl | rfl | rfl | rfl | rfl | rfl | rfl | rfl | rfl | rfl | rfl | rfl | rfl | rfl | rfl | rfl | rfl | rfl | rfl | rfl | rfl | rfl | rfl | rfl | rfl | rfl | rfl | rfl | rfl | rfl | rfl | rfl | rfl | rfl | rfl | rfl | rfl | rfl | rfl | rfl | rfl | rfl | rfl | rfl | rfl | rfl | rfl | rfl | rfl | rfl | rfl | rfl | rfl | rfl | rfl | rfl | rfl | rfl <;> rfl) (Nat.le_of_ble_eq_true rfl) (Nat.le_of_ble_eq_true rfl) dL_law_8 (fun m0 H hP hD hS => ?_)
  refine W.widen (k := 101) (n := 3100) (Nat.le_of_ble_eq_true rfl) (Nat.le_of_ble_eq_true rfl) ?_
  refine lv_dup hx hb dL_law_11 rfl ?_
  have hPc := (g_appP hP).2
  have hDc := (g_appD hD).2.1
  have hFc : ∀ q, va_A [(m0, .inr (11, [.int 0, .null, .int 0, .int 0, .int 0, .int 0, .null, .null, .null, .null, .null, .null, .null, .int 0, .int 0, .null, .null, .null, .null, .int 0, .null, .int 0, .int 0, .int 0, .null, .null, .int 0, .int 0, .int 0, .int 0, .int 0, .null, .null, .null, .int 0, .int 0, .null, .null, .null, .null, .null, .null, .null, .null, .null, .null, .null, .null, .null, .null, .null, .null, .int 0, .null, .null, .null, .null, .null, .null, .int 0, .long 0, .null, .null, .null, .null, .null, .null, .int 0, .int 0, .int 0, .int 0, .int 0, .long 0]))] H.size q → g_A s q := fun q h => by
    rcases h with ⟨k, e, h⟩ | h
    · exact hDc.2 k (q, e) h
    · exact hA q (Nat.le_trans hS.1 h)
  refine va_callv (va_runI (As := []) (rest := [.ref m0]) ⟨hx, hb, hml, hown, hT⟩ (t_X12 l D ci cl cb m0 H.size) (cwI 0 hT (k_goodIn t_cX12) rfl rfl rfl (hT _ t_zX12) (hT _ g_lL_18) (hT _ t_iX12) rfl (by decide +kernel) ⟨Nat.le_of_ble_eq_true rfl, Nat.le_of_ble_eq_true rfl⟩) ⟨t_blind, fun U hU hW => ⟨rfl, by rw [hU], by rw [hU]; exact hPc, va_K.moved hW.alike hK, hDc.weaken (fun _ _ _ _ => trivial), fun w h => k_nw h hW (hN w h)⟩⟩ rfl rfl hl.1 rfl (lv_room (Nat.le_of_ble_eq_true rfl)) dL_law_12 ⟨Nat.le_of_ble_eq_true rfl, Nat.le_of_ble_eq_true rfl⟩) hS (fun q _ h => hFc q h) hFc (fun uM t H1 locs ht hvm hw hB hz1 hk1 hS => ?_)
  obtain ⟨hP1, hD1⟩ := hB
  rw [ht] at hP1
  obtain ⟨hP, hD⟩ := va_join (wr := k_wX wX i_X) (w1 := t_wX12 ci cl cb m0 uM) hP hD [50] (List.range 50) rfl rfl (by decide) (by decide) hk1 hFc hP1 hD1
  generalize H1 = H at hP hS ⊢
  rw [g_iM D ci cl cb m0 uM su] at hP hD
  generalize hwM : ((D, g_U m0 uM, ci, cl, cb, su) : k_WC) = wM at hP hD
  refine W.widen (k := 200) (n := 12000) (Nat.le_of_ble_eq_true rfl) (Nat.le_of_ble_eq_true rfl) ?_
  refine lv_astore_n (lv' := [(2, .ref m0), (1, .ref x0), (0, .ref b)]) hx hb dL_law_15 rfl hl (by decide) rfl (fun ls hl => ?_)
  refine lv_iconst (v := 1) hx hb dL_law_16 rfl ?_
  refine t_newa (atype := .long) (N' := 1) (a0 := (1, .inr (.inl (fun _ => 0)))) (t0 := 1) (cy := cl) hx hb (hT _ t_aJ) rfl rfl t_rJ hK hP hD hS hA (fun cA => rfl) (by decide) (by decide) (Nat.le_of_ble_eq_true rfl) (Nat.le_of_ble_eq_true rfl) (Nat.le_of_ble_eq_true rfl) dL_law_17 (fun ao H hP hD hS => ?_)
  refine lv_astore_n (lv' := [(3, .ref ao), (2, .ref m0), (1, .ref x0), (0, .ref b)]) hx hb dL_law_19 rfl hl (by decide) rfl (fun ls hl => ?_)
  refine lv_iconst (v := 0) hx hb dL_law_20 rfl ?_
  refine lv_istore (lv' := [(4, .int 0), (3, .ref ao), (2, .ref m0), (1, .ref x0), (0, .ref b)]) hx hb dL_law_21 hl (by decide) rfl (fun ls hl => ?_)
  obtain ⟨hP2, hPo⟩ := g_appP hP
  obtain ⟨hPX, hPM⟩ := g_appP hP2
  obtain ⟨hD2, hDo, hdo⟩ := g_appD hD
  obtain ⟨hDX, hDM, hdm⟩ := g_appD hD2
  have eX : wX.1 = D := by rw [← hwX]
  have eM : wM.1 = D := by rw [← hwM]
  have tX : (k_PX wX).2.2.2.1 = t_ty ci cl cb := by rw [← hwX]; rfl
  have tM : (k_PM wM).2.2.2.1 = t_ty ci cl cb := by rw [← hwM]; rfl
  have aX : ∀ c, c < 50 → g_A s (wX.2.1 c) := fun c hc => by
    obtain ⟨q, q1, q2⟩ := g_adr' (g_wXf wX i_X) c hc
    rw [← q2]
    exact hDX.2 c q q1
  have aM : ∀ c, c < 47 → g_A s (wM.2.1 c) := fun c hc => by
    obtain ⟨q, q1, q2⟩ := g_adr' (g_wMf wM i_M) c hc
    rw [← q2]
    exact hDM.2 c q q1
  have hao : s.heap.size ≤ ao := hDo.2 0 _ rfl
  have apX : ∀ q, (k_PX wX).2.2.1 q → ¬ (k_PM wM).2.2.1 q ∧ q ≠ ao ∧ s.heap.size ≤ q := fun q hq => by
    obtain ⟨c1, hc1, e1⟩ := hq
    obtain ⟨q1, r1, r2⟩ := g_adr' (g_wXf wX i_X) c1 hc1
    refine ⟨fun h2 => ?_, fun h3 => ?_, by rw [e1]; exact aX c1 hc1⟩
    · obtain ⟨c2, hc2, e2⟩ := h2
      obtain ⟨q2, s1, s2⟩ := g_adr' (g_wMf wM i_M) c2 hc2
      exact hdm c1 c2 q1 q2 r1 s1 (by rw [r2, s2, ← e1, ← e2])
    · exact hdo c1 0 q1 _ (by rw [List.getElem?_append_left (List.getElem?_eq_some_iff.mp r1).1]; exact r1) rfl (by rw [r2, ← e1]; exact h3)
  have apM : ∀ q, (k_PM wM).2.2.1 q → ¬ (k_PX wX).2.2.1 q ∧ q ≠ ao ∧ s.heap.size ≤ q := fun q hq => by
    have hq0 := hq
    obtain ⟨c1, hc1, e1⟩ := hq
    obtain ⟨q1, r1, r2⟩ := g_adr' (g_wMf wM i_M) c1 hc1
    refine ⟨fun h2 => (apX q h2).1 hq0, fun h3 => ?_, by rw [e1]; exact aM c1 hc1⟩
    exact hdo ((k_wX wX i_X).length + c1) 0 q1 _ (by rw [List.getElem?_append_right (Nat.le_add_right _ _), Nat.add_sub_cancel_left]; exact r1) rfl (by rw [r2, ← e1]; exact h3)
  have hfX : k_FX wX s s.heap := by
    rw [← hwX] at aX ⊢
    exact hfx D _ ci cl cb aX
  have hHX : g_H (k_PX wX) i_X s H := ⟨by show va_P wX.1 vwCl (k_wX wX i_X) H; rw [eX]; exact hPX, by show va_K wX.1 vwCl (k_PX wX).2.2.2.1 s; rw [eX, tX]; exact hK, fun ρ => g_allD (g_wXf wX i_X) (g_wXf wX ρ) hDX, hN, k_FX.ok wX, hfX, fun q hq _ => hS.2.1 q hq (Nat.not_le.mpr hq)⟩
  have hHM : g_H (k_PM wM) i_M s H := ⟨by show va_P wM.1 vwCl (k_wM wM i_M) H; rw [eM]; exact hPM, by show va_K wM.1 vwCl (k_PM wM).2.2.2.1 s; rw [eM, tM]; exact hK, fun ρ => g_allD (g_wMf wM i_M) (g_wMf wM ρ) hDM, hN, k_FM.ok wM, trivial, fun q hq _ => hS.2.1 q hq (Nat.not_le.mpr hq)⟩
  have hO : g_O wX ao (fun _ => 0) H := by
    have e9 : wX.2.2.2.1 = cl := by rw [← hwX]
    show va_P wX.1 vwCl [(ao, .inl (wX.2.2.2.1, 1, .inr (.inl (fun _ => 0))))] H
    rw [eX, e9]
    exact hPo
  have hst : g_St p l s m meth c b L xs wX wM ao := ⟨⟨hx, hb, hr, hml, hown⟩, hT, ⟨hX, hbl, hlocks, hfl, hL⟩, ⟨apX, apM, hao⟩, hDN, hex.go (State.WarmedH.refl s) (fun _ _ _ => rfl) (fun q hq => (apX q hq).2.2)⟩
  have x0e : wX.2.1 0 = x0 := by rw [← hwX]; rfl
  have m0e : wM.2.1 0 = m0 := by rw [← hwM]; rfl
  refine W.widen (k := 1000 + 0) (n := 20000 + 6 * 0) (Nat.le_of_ble_eq_true rfl) (Nat.le_of_ble_eq_true rfl) ?_
  refine g_loop sim hst 513 0 rfl (Nat.zero_le _) i_X i_M (fun _ => 0) H _ ls h0 ⟨hHX, hHM, hO⟩ hS ?_
  show lv_has ls 7 [(0, .ref b), (1, .ref (wX.2.1 0)), (2, .ref (wM.2.1 0)), (3, .ref ao), (4, .int (nI (6 * 0)))]
  rw [x0e, m0e]
  exact lv_sub hl [4, 3, 2, 1, 0] rfl
