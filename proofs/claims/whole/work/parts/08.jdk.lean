theorem dJ6_bitCount_0f7a4_0 : decode cJ6_bitCount_0f7a4 0 = .ok (.iload_n 0, 1) := by decide +kernel
theorem dJ6_bitCount_0f7a4_1 : decode cJ6_bitCount_0f7a4 1 = .ok (.iload_n 0, 1) := by decide +kernel
theorem dJ6_bitCount_0f7a4_2 : decode cJ6_bitCount_0f7a4 2 = .ok (.iconst 1, 1) := by decide +kernel
theorem dJ6_bitCount_0f7a4_3 : decode cJ6_bitCount_0f7a4 3 = .ok (.iushr, 1) := by decide +kernel
theorem dJ6_bitCount_0f7a4_4 : decode cJ6_bitCount_0f7a4 4 = .ok (.ldc_w 265, 3) := by decide +kernel
theorem dJ6_bitCount_0f7a4_7 : decode cJ6_bitCount_0f7a4 7 = .ok (.iand, 1) := by decide +kernel
theorem dJ6_bitCount_0f7a4_8 : decode cJ6_bitCount_0f7a4 8 = .ok (.isub, 1) := by decide +kernel
theorem dJ6_bitCount_0f7a4_9 : decode cJ6_bitCount_0f7a4 9 = .ok (.istore_n 0, 1) := by decide +kernel
theorem dJ6_bitCount_0f7a4_10 : decode cJ6_bitCount_0f7a4 10 = .ok (.iload_n 0, 1) := by decide +kernel
theorem dJ6_bitCount_0f7a4_11 : decode cJ6_bitCount_0f7a4 11 = .ok (.ldc_w 266, 3) := by decide +kernel
theorem dJ6_bitCount_0f7a4_14 : decode cJ6_bitCount_0f7a4 14 = .ok (.iand, 1) := by decide +kernel
theorem dJ6_bitCount_0f7a4_15 : decode cJ6_bitCount_0f7a4 15 = .ok (.iload_n 0, 1) := by decide +kernel
theorem dJ6_bitCount_0f7a4_16 : decode cJ6_bitCount_0f7a4 16 = .ok (.iconst 2, 1) := by decide +kernel
theorem dJ6_bitCount_0f7a4_17 : decode cJ6_bitCount_0f7a4 17 = .ok (.iushr, 1) := by decide +kernel
theorem dJ6_bitCount_0f7a4_18 : decode cJ6_bitCount_0f7a4 18 = .ok (.ldc_w 266, 3) := by decide +kernel
theorem dJ6_bitCount_0f7a4_21 : decode cJ6_bitCount_0f7a4 21 = .ok (.iand, 1) := by decide +kernel
theorem dJ6_bitCount_0f7a4_22 : decode cJ6_bitCount_0f7a4 22 = .ok (.iadd, 1) := by decide +kernel
theorem dJ6_bitCount_0f7a4_23 : decode cJ6_bitCount_0f7a4 23 = .ok (.istore_n 0, 1) := by decide +kernel
theorem dJ6_bitCount_0f7a4_24 : decode cJ6_bitCount_0f7a4 24 = .ok (.iload_n 0, 1) := by decide +kernel
theorem dJ6_bitCount_0f7a4_25 : decode cJ6_bitCount_0f7a4 25 = .ok (.iload_n 0, 1) := by decide +kernel
theorem dJ6_bitCount_0f7a4_26 : decode cJ6_bitCount_0f7a4 26 = .ok (.iconst 4, 1) := by decide +kernel
theorem dJ6_bitCount_0f7a4_27 : decode cJ6_bitCount_0f7a4 27 = .ok (.iushr, 1) := by decide +kernel
theorem dJ6_bitCount_0f7a4_28 : decode cJ6_bitCount_0f7a4 28 = .ok (.iadd, 1) := by decide +kernel
theorem dJ6_bitCount_0f7a4_29 : decode cJ6_bitCount_0f7a4 29 = .ok (.ldc_w 267, 3) := by decide +kernel
theorem dJ6_bitCount_0f7a4_32 : decode cJ6_bitCount_0f7a4 32 = .ok (.iand, 1) := by decide +kernel
theorem dJ6_bitCount_0f7a4_33 : decode cJ6_bitCount_0f7a4 33 = .ok (.istore_n 0, 1) := by decide +kernel
theorem dJ6_bitCount_0f7a4_34 : decode cJ6_bitCount_0f7a4 34 = .ok (.iload_n 0, 1) := by decide +kernel
theorem dJ6_bitCount_0f7a4_35 : decode cJ6_bitCount_0f7a4 35 = .ok (.iload_n 0, 1) := by decide +kernel
theorem dJ6_bitCount_0f7a4_36 : decode cJ6_bitCount_0f7a4 36 = .ok (.bipush 8, 2) := by decide +kernel
theorem dJ6_bitCount_0f7a4_38 : decode cJ6_bitCount_0f7a4 38 = .ok (.iushr, 1) := by decide +kernel
theorem dJ6_bitCount_0f7a4_39 : decode cJ6_bitCount_0f7a4 39 = .ok (.iadd, 1) := by decide +kernel
theorem dJ6_bitCount_0f7a4_40 : decode cJ6_bitCount_0f7a4 40 = .ok (.istore_n 0, 1) := by decide +kernel
theorem dJ6_bitCount_0f7a4_41 : decode cJ6_bitCount_0f7a4 41 = .ok (.iload_n 0, 1) := by decide +kernel
theorem dJ6_bitCount_0f7a4_42 : decode cJ6_bitCount_0f7a4 42 = .ok (.iload_n 0, 1) := by decide +kernel
theorem dJ6_bitCount_0f7a4_43 : decode cJ6_bitCount_0f7a4 43 = .ok (.bipush 16, 2) := by decide +kernel
theorem dJ6_bitCount_0f7a4_45 : decode cJ6_bitCount_0f7a4 45 = .ok (.iushr, 1) := by decide +kernel
theorem dJ6_bitCount_0f7a4_46 : decode cJ6_bitCount_0f7a4 46 = .ok (.iadd, 1) := by decide +kernel
theorem dJ6_bitCount_0f7a4_47 : decode cJ6_bitCount_0f7a4 47 = .ok (.istore_n 0, 1) := by decide +kernel
theorem dJ6_bitCount_0f7a4_48 : decode cJ6_bitCount_0f7a4 48 = .ok (.iload_n 0, 1) := by decide +kernel
theorem dJ6_bitCount_0f7a4_49 : decode cJ6_bitCount_0f7a4 49 = .ok (.bipush 63, 2) := by decide +kernel
theorem dJ6_bitCount_0f7a4_51 : decode cJ6_bitCount_0f7a4 51 = .ok (.iand, 1) := by decide +kernel
theorem dJ6_bitCount_0f7a4_52 : decode cJ6_bitCount_0f7a4 52 = .ok (.ireturn, 1) := by decide +kernel
theorem k_yJ6_bitCount_0f7a4 : k_Ly yJ6_bitCount_0f7a4 cJ6_bitCount_0f7a4 1 (some .int) 1 := ⟨k_tt (k_s1 26 (by decide +kernel)) rfl, k_tt (k_s5 58 (by rfl)) rfl, by decide +kernel, by decide⟩
theorem dJ7_fill_d0a16_0 : decode cJ7_fill_d0a16 0 = .ok (.iconst 0, 1) := by decide +kernel
theorem dJ7_fill_d0a16_1 : decode cJ7_fill_d0a16 1 = .ok (.istore_n 3, 1) := by decide +kernel
theorem dJ7_fill_d0a16_2 : decode cJ7_fill_d0a16 2 = .ok (.aload_n 0, 1) := by decide +kernel
theorem dJ7_fill_d0a16_3 : decode cJ7_fill_d0a16 3 = .ok (.arraylength, 1) := by decide +kernel
theorem dJ7_fill_d0a16_4 : decode cJ7_fill_d0a16 4 = .ok (.istore 4, 2) := by decide +kernel
theorem dJ7_fill_d0a16_6 : decode cJ7_fill_d0a16 6 = .ok (.iload_n 3, 1) := by decide +kernel
theorem dJ7_fill_d0a16_7 : decode cJ7_fill_d0a16 7 = .ok (.iload 4, 2) := by decide +kernel
theorem dJ7_fill_d0a16_9 : decode cJ7_fill_d0a16 9 = .ok (.if_icmp .ge 13, 3) := by decide +kernel
theorem dJ7_fill_d0a16_12 : decode cJ7_fill_d0a16 12 = .ok (.aload_n 0, 1) := by decide +kernel
theorem dJ7_fill_d0a16_13 : decode cJ7_fill_d0a16 13 = .ok (.iload_n 3, 1) := by decide +kernel
theorem dJ7_fill_d0a16_14 : decode cJ7_fill_d0a16 14 = .ok (.lload_n 1, 1) := by decide +kernel
theorem dJ7_fill_d0a16_15 : decode cJ7_fill_d0a16 15 = .ok (.lastore, 1) := by decide +kernel
theorem dJ7_fill_d0a16_16 : decode cJ7_fill_d0a16 16 = .ok (.iinc 3 1, 3) := by decide +kernel
theorem dJ7_fill_d0a16_19 : decode cJ7_fill_d0a16 19 = .ok (.goto (-13), 3) := by decide +kernel
theorem dJ7_fill_d0a16_22 : decode cJ7_fill_d0a16 22 = .ok (.return_, 1) := by decide +kernel
theorem k_yJ7_fill_d0a16 : k_Ly yJ7_fill_d0a16 cJ7_fill_d0a16 5 none 2 := ⟨k_tt (k_s1 13 (by decide +kernel)) rfl, k_tt (k_s2 88 (by rfl)) rfl, by decide +kernel, by decide⟩
theorem dJ7_fill_53178_0 : decode cJ7_fill_53178 0 = .ok (.iconst 0, 1) := by decide +kernel
theorem dJ7_fill_53178_1 : decode cJ7_fill_53178 1 = .ok (.istore_n 2, 1) := by decide +kernel
theorem dJ7_fill_53178_2 : decode cJ7_fill_53178 2 = .ok (.aload_n 0, 1) := by decide +kernel
theorem dJ7_fill_53178_3 : decode cJ7_fill_53178 3 = .ok (.arraylength, 1) := by decide +kernel
theorem dJ7_fill_53178_4 : decode cJ7_fill_53178 4 = .ok (.istore_n 3, 1) := by decide +kernel
theorem dJ7_fill_53178_5 : decode cJ7_fill_53178 5 = .ok (.iload_n 2, 1) := by decide +kernel
theorem dJ7_fill_53178_6 : decode cJ7_fill_53178 6 = .ok (.iload_n 3, 1) := by decide +kernel
theorem dJ7_fill_53178_7 : decode cJ7_fill_53178 7 = .ok (.if_icmp .ge 13, 3) := by decide +kernel
theorem dJ7_fill_53178_10 : decode cJ7_fill_53178 10 = .ok (.aload_n 0, 1) := by decide +kernel
theorem dJ7_fill_53178_11 : decode cJ7_fill_53178 11 = .ok (.iload_n 2, 1) := by decide +kernel
theorem dJ7_fill_53178_12 : decode cJ7_fill_53178 12 = .ok (.iload_n 1, 1) := by decide +kernel
theorem dJ7_fill_53178_13 : decode cJ7_fill_53178 13 = .ok (.iastore, 1) := by decide +kernel
theorem dJ7_fill_53178_14 : decode cJ7_fill_53178 14 = .ok (.iinc 2 1, 3) := by decide +kernel
theorem dJ7_fill_53178_17 : decode cJ7_fill_53178 17 = .ok (.goto (-12), 3) := by decide +kernel
theorem dJ7_fill_53178_20 : decode cJ7_fill_53178 20 = .ok (.return_, 1) := by decide +kernel
theorem k_yJ7_fill_53178 : k_Ly yJ7_fill_53178 cJ7_fill_53178 4 none 2 := ⟨k_tt (k_s1 13 (by decide +kernel)) rfl, k_tt (k_s2 84 (by rfl)) rfl, by decide +kernel, by decide⟩
theorem k_cJ6_265 : Cond.constant RJ6 265 (1431655765) ∈ k_TT := k_tt (k_s5 59 (by decide +kernel)) rfl
theorem k_cJ6_266 : Cond.constant RJ6 266 (858993459) ∈ k_TT := k_tt (k_s5 60 (by decide +kernel)) rfl
theorem k_cJ6_267 : Cond.constant RJ6 267 (252645135) ∈ k_TT := k_tt (k_s5 61 (by decide +kernel)) rfl
def f_J6_bitCount_0f7a4 (x0 : Int32) : Option (Int32) :=
  k_nm ((x0 - ((o_ushr x0 (1 : Int32)) &&& (1431655765 : Int32)))) fun y9 =>
  k_nm (((y9 &&& (858993459 : Int32)) + ((o_ushr y9 (2 : Int32)) &&& (858993459 : Int32)))) fun y23 =>
  k_nm (((y23 + (o_ushr y23 (4 : Int32))) &&& (252645135 : Int32))) fun y33 =>
  k_nm ((y33 + (o_ushr y33 (8 : Int32)))) fun y40 =>
  k_nm ((y40 + (o_ushr y40 (16 : Int32)))) fun y47 =>
  some (y47 &&& (63 : Int32))
set_option maxHeartbeats 4000000 in
set_option maxRecDepth 100000 in
theorem e_J6_bitCount_0f7a4 {l : Launch} {w : k_WC} {d : Nat} (hd : 2 ≤ d) {x0 : Int32}  {σ : k_St} {r : Int32} (h : f_J6_bitCount_0f7a4 x0 = some r) : k_EI l (k_PX w) yJ6_bitCount_0f7a4 cJ6_bitCount_0f7a4 1 (some .int) d [.int x0] σ r σ := by
  refine k_of (own := RJ6) rfl (by decide) (Nat.le_of_ble_eq_true rfl) (fun X hX C hr => ?_)
  show k_K (k_PX w) X (k_MQ X (k_Qi (k_PX w) r σ) (k_PX w).2.2.1) 0 [(0, .int x0)] [] σ
  unfold f_J6_bitCount_0f7a4 at h
  refine k_iload_n C dJ6_bitCount_0f7a4_0 0 rfl ?_
  refine k_iload_n C dJ6_bitCount_0f7a4_1 0 rfl ?_
  refine k_iconst C dJ6_bitCount_0f7a4_2 (v := 1) rfl ?_
  refine k_iushr C dJ6_bitCount_0f7a4_3 ?_
  refine k_ldcw C dJ6_bitCount_0f7a4_4 k_cJ6_265 ?_
  refine k_iand C dJ6_bitCount_0f7a4_7 ?_
  refine k_isub C dJ6_bitCount_0f7a4_8 ?_
  refine k_topi (fun y9 ey9 => ?_)
  replace h := k_nm_e h y9 ey9
  refine k_istore_n C dJ6_bitCount_0f7a4_9 (by decide) [0] (L' := [(0, .int y9)]) rfl ?_
  refine k_iload_n C dJ6_bitCount_0f7a4_10 0 rfl ?_
  refine k_ldcw C dJ6_bitCount_0f7a4_11 k_cJ6_266 ?_
  refine k_iand C dJ6_bitCount_0f7a4_14 ?_
  refine k_iload_n C dJ6_bitCount_0f7a4_15 0 rfl ?_
  refine k_iconst C dJ6_bitCount_0f7a4_16 (v := 2) rfl ?_
  refine k_iushr C dJ6_bitCount_0f7a4_17 ?_
  refine k_ldcw C dJ6_bitCount_0f7a4_18 k_cJ6_266 ?_
  refine k_iand C dJ6_bitCount_0f7a4_21 ?_
  refine k_iadd C dJ6_bitCount_0f7a4_22 ?_
  refine k_topi (fun y23 ey23 => ?_)
  replace h := k_nm_e h y23 ey23
  refine k_istore_n C dJ6_bitCount_0f7a4_23 (by decide) [0] (L' := [(0, .int y23)]) rfl ?_
  refine k_iload_n C dJ6_bitCount_0f7a4_24 0 rfl ?_
  refine k_iload_n C dJ6_bitCount_0f7a4_25 0 rfl ?_
  refine k_iconst C dJ6_bitCount_0f7a4_26 (v := 4) rfl ?_
  refine k_iushr C dJ6_bitCount_0f7a4_27 ?_
  refine k_iadd C dJ6_bitCount_0f7a4_28 ?_
  refine k_ldcw C dJ6_bitCount_0f7a4_29 k_cJ6_267 ?_
  refine k_iand C dJ6_bitCount_0f7a4_32 ?_
  refine k_topi (fun y33 ey33 => ?_)
  replace h := k_nm_e h y33 ey33
  refine k_istore_n C dJ6_bitCount_0f7a4_33 (by decide) [0] (L' := [(0, .int y33)]) rfl ?_
  refine k_iload_n C dJ6_bitCount_0f7a4_34 0 rfl ?_
  refine k_iload_n C dJ6_bitCount_0f7a4_35 0 rfl ?_
  refine k_bipush C dJ6_bitCount_0f7a4_36 (v := 8) rfl ?_
  refine k_iushr C dJ6_bitCount_0f7a4_38 ?_
  refine k_iadd C dJ6_bitCount_0f7a4_39 ?_
  refine k_topi (fun y40 ey40 => ?_)
  replace h := k_nm_e h y40 ey40
  refine k_istore_n C dJ6_bitCount_0f7a4_40 (by decide) [0] (L' := [(0, .int y40)]) rfl ?_
  refine k_iload_n C dJ6_bitCount_0f7a4_41 0 rfl ?_
  refine k_iload_n C dJ6_bitCount_0f7a4_42 0 rfl ?_
  refine k_bipush C dJ6_bitCount_0f7a4_43 (v := 16) rfl ?_
  refine k_iushr C dJ6_bitCount_0f7a4_45 ?_
  refine k_iadd C dJ6_bitCount_0f7a4_46 ?_
  refine k_topi (fun y47 ey47 => ?_)
  replace h := k_nm_e h y47 ey47
  refine k_istore_n C dJ6_bitCount_0f7a4_47 (by decide) [0] (L' := [(0, .int y47)]) rfl ?_
  refine k_iload_n C dJ6_bitCount_0f7a4_48 0 rfl ?_
  refine k_bipush C dJ6_bitCount_0f7a4_49 (v := 63) rfl ?_
  refine k_iand C dJ6_bitCount_0f7a4_51 ?_
  exact k_iret C dJ6_bitCount_0f7a4_52 hr (k_p1 h)
set_option maxHeartbeats 4000000 in
set_option maxRecDepth 100000 in
theorem e_J6_bitCount_0f7a4_M {l : Launch} {w : k_WC} {d : Nat} (hd : 2 ≤ d) {x0 : Int32}  {σ : k_St} {r : Int32} (h : f_J6_bitCount_0f7a4 x0 = some r) : k_EI l (k_PM w) yJ6_bitCount_0f7a4 cJ6_bitCount_0f7a4 1 (some .int) d [.int x0] σ r σ := by
  refine k_of (own := RJ6) rfl (by decide) (Nat.le_of_ble_eq_true rfl) (fun X hX C hr => ?_)
  show k_K (k_PM w) X (k_MQ X (k_Qi (k_PM w) r σ) (k_PM w).2.2.1) 0 [(0, .int x0)] [] σ
  unfold f_J6_bitCount_0f7a4 at h
  refine k_iload_n C dJ6_bitCount_0f7a4_0 0 rfl ?_
  refine k_iload_n C dJ6_bitCount_0f7a4_1 0 rfl ?_
  refine k_iconst C dJ6_bitCount_0f7a4_2 (v := 1) rfl ?_
  refine k_iushr C dJ6_bitCount_0f7a4_3 ?_
  refine k_ldcw C dJ6_bitCount_0f7a4_4 k_cJ6_265 ?_
  refine k_iand C dJ6_bitCount_0f7a4_7 ?_
  refine k_isub C dJ6_bitCount_0f7a4_8 ?_
  refine k_topi (fun y9 ey9 => ?_)
  replace h := k_nm_e h y9 ey9
  refine k_istore_n C dJ6_bitCount_0f7a4_9 (by decide) [0] (L' := [(0, .int y9)]) rfl ?_
  refine k_iload_n C dJ6_bitCount_0f7a4_10 0 rfl ?_
  refine k_ldcw C dJ6_bitCount_0f7a4_11 k_cJ6_266 ?_
  refine k_iand C dJ6_bitCount_0f7a4_14 ?_
  refine k_iload_n C dJ6_bitCount_0f7a4_15 0 rfl ?_
  refine k_iconst C dJ6_bitCount_0f7a4_16 (v := 2) rfl ?_
  refine k_iushr C dJ6_bitCount_0f7a4_17 ?_
  refine k_ldcw C dJ6_bitCount_0f7a4_18 k_cJ6_266 ?_
  refine k_iand C dJ6_bitCount_0f7a4_21 ?_
  refine k_iadd C dJ6_bitCount_0f7a4_22 ?_
  refine k_topi (fun y23 ey23 => ?_)
  replace h := k_nm_e h y23 ey23
  refine k_istore_n C dJ6_bitCount_0f7a4_23 (by decide) [0] (L' := [(0, .int y23)]) rfl ?_
  refine k_iload_n C dJ6_bitCount_0f7a4_24 0 rfl ?_
  refine k_iload_n C dJ6_bitCount_0f7a4_25 0 rfl ?_
  refine k_iconst C dJ6_bitCount_0f7a4_26 (v := 4) rfl ?_
  refine k_iushr C dJ6_bitCount_0f7a4_27 ?_
  refine k_iadd C dJ6_bitCount_0f7a4_28 ?_
  refine k_ldcw C dJ6_bitCount_0f7a4_29 k_cJ6_267 ?_
  refine k_iand C dJ6_bitCount_0f7a4_32 ?_
  refine k_topi (fun y33 ey33 => ?_)
  replace h := k_nm_e h y33 ey33
  refine k_istore_n C dJ6_bitCount_0f7a4_33 (by decide) [0] (L' := [(0, .int y33)]) rfl ?_
  refine k_iload_n C dJ6_bitCount_0f7a4_34 0 rfl ?_
  refine k_iload_n C dJ6_bitCount_0f7a4_35 0 rfl ?_
  refine k_bipush C dJ6_bitCount_0f7a4_36 (v := 8) rfl ?_
  refine k_iushr C dJ6_bitCount_0f7a4_38 ?_
  refine k_iadd C dJ6_bitCount_0f7a4_39 ?_
  refine k_topi (fun y40 ey40 => ?_)
  replace h := k_nm_e h y40 ey40
  refine k_istore_n C dJ6_bitCount_0f7a4_40 (by decide) [0] (L' := [(0, .int y40)]) rfl ?_
  refine k_iload_n C dJ6_bitCount_0f7a4_41 0 rfl ?_
  refine k_iload_n C dJ6_bitCount_0f7a4_42 0 rfl ?_
  refine k_bipush C dJ6_bitCount_0f7a4_43 (v := 16) rfl ?_
  refine k_iushr C dJ6_bitCount_0f7a4_45 ?_
  refine k_iadd C dJ6_bitCount_0f7a4_46 ?_
  refine k_topi (fun y47 ey47 => ?_)
  replace h := k_nm_e h y47 ey47
  refine k_istore_n C dJ6_bitCount_0f7a4_47 (by decide) [0] (L' := [(0, .int y47)]) rfl ?_
  refine k_iload_n C dJ6_bitCount_0f7a4_48 0 rfl ?_
  refine k_bipush C dJ6_bitCount_0f7a4_49 (v := 63) rfl ?_
  refine k_iand C dJ6_bitCount_0f7a4_51 ?_
  exact k_iret C dJ6_bitCount_0f7a4_52 hr (k_p1 h)
def f_J7_fill_d0a16 (a0 : Nat) (x1 : Int64) (σ : k_St) : Option (k_St) :=
  k_nm ((Int32.ofNat (k_nX a0))) fun y4 =>
  k_loop (fun (g6 : Int32 × k_St → Option (k_St)) (z6 : Int32 × k_St) => match z6 with
    | (v3_6, s_6) =>
      k_if (y4 ≤ v3_6)
        (some s_6)
        (k_gd (k_ix v3_6 (k_nX a0) = true) <|
        k_nm (k_wl s_6 a0 v3_6.toNatClampNeg x1) fun s15 =>
        k_nm (v3_6 + (1 : Int32)) fun y16 =>
        g6 (y16, s15))) 100000 ((0 : Int32), σ)
set_option maxHeartbeats 4000000 in
set_option maxRecDepth 100000 in
theorem e_J7_fill_d0a16 {l : Launch} {w : k_WC} {d : Nat} (hd : 2 ≤ d) {a0 : Nat} {x1 : Int64} (ha0 : k_AL (k_PX w) a0 (w.2.1 a0) (k_nX a0)) {σ σ' : k_St} (h : f_J7_fill_d0a16 a0 x1 σ = some σ') : k_EV l (k_PX w) yJ7_fill_d0a16 cJ7_fill_d0a16 5 d [.ref (w.2.1 a0), .long x1] σ σ' := by
  refine k_of (own := RJ7) rfl (by decide) (Nat.le_of_ble_eq_true rfl) (fun X hX C hr => ?_)
  show k_K (k_PX w) X (k_MQ X (k_Qv (k_PX w) σ') (k_PX w).2.2.1) 0 [(0, .ref (w.2.1 a0)), (1, .long x1)] [] σ
  unfold f_J7_fill_d0a16 at h
  refine k_iconst C dJ7_fill_d0a16_0 (v := 0) rfl ?_
  refine k_istore_n C dJ7_fill_d0a16_1 (by decide) [1, 2, 0] (L' := [(0, .ref (w.2.1 a0)), (1, .long x1), (3, .int (0 : Int32))]) rfl ?_
  refine k_aload_n C dJ7_fill_d0a16_2 0 rfl ?_
  refine k_alenL C dJ7_fill_d0a16_3 ha0 rfl ?_
  refine k_topi (fun y4 ey4 => ?_)
  replace h := k_nm_e h y4 ey4
  refine k_istore C dJ7_fill_d0a16_4 (by decide) [1, 2, 3, 0] (L' := [(0, .ref (w.2.1 a0)), (1, .long x1), (3, .int (0 : Int32)), (4, .int y4)]) rfl ?_
  obtain ⟨b6, eb6, h⟩ := k_lp_e h
  have K6 : ∀ (n : Nat) (v3_6 : Int32) (s_6 : k_St), k_loop b6 n (v3_6, s_6) = some σ' → k_K (k_PX w) X (k_MQ X (k_Qv (k_PX w) σ') (k_PX w).2.2.1) 6 [(0, .ref (w.2.1 a0)), (1, .long x1), (3, .int v3_6), (4, .int y4)] [] s_6 := by
    intro n
    induction n with
    | zero => intro v3_6 s_6 h; cases h
    | succ n ih6 =>
      intro v3_6 s_6 h
      obtain ⟨g6, eg6, h⟩ := k_lp_s h
      rw [← eg6] at ih6
      rw [eb6] at h
      refine k_iload_n C dJ7_fill_d0a16_6 2 rfl ?_
      refine k_iload C dJ7_fill_d0a16_7 3 rfl ?_
      refine k_icmp_ge C dJ7_fill_d0a16_9 (tgt := 22) (by decide) (fun c9 => ?_) (fun c9 => ?_)
      · replace h := k_if_t h c9
        exact k_vret C dJ7_fill_d0a16_22 hr (Option.some.inj h)
      · replace h := k_if_f h c9
        refine k_aload_n C dJ7_fill_d0a16_12 0 rfl ?_
        refine k_iload_n C dJ7_fill_d0a16_13 2 rfl ?_
        refine k_lload_n C dJ7_fill_d0a16_14 1 rfl ?_
        obtain ⟨q15, h⟩ := k_gd_e h
        refine k_last C dJ7_fill_d0a16_15 ha0 q15 ?_
        refine k_st (fun s15 es15 => ?_)
        replace h := k_nm_e h s15 es15
        refine k_iinc C dJ7_fill_d0a16_16 2 rfl (v := 1) rfl (by decide) [1, 2, 0, 3] (L' := fun z9 => [(0, .ref (w.2.1 a0)), (1, .long x1), (3, .int z9), (4, .int y4)]) (fun z9 => rfl) (fun y16 ey16 => ?_)
        replace h := k_nm_e h y16 ey16
        refine k_goto C dJ7_fill_d0a16_19 (tgt := 6) (by decide) ?_
        exact ih6 _ _ h
  exact K6 _ _ _ h
def f_J7_fill_53178 (a0 : Nat) (x1 : Int32) (σ : k_St) : Option (k_St) :=
  k_nm ((Int32.ofNat (k_nX a0))) fun y4 =>
  k_loop (fun (g5 : Int32 × k_St → Option (k_St)) (z5 : Int32 × k_St) => match z5 with
    | (v2_5, s_5) =>
      k_if (y4 ≤ v2_5)
        (some s_5)
        (k_gd (k_ix v2_5 (k_nX a0) = true) <|
        k_nm (k_wr s_5 a0 v2_5.toNatClampNeg x1) fun s13 =>
        k_nm (v2_5 + (1 : Int32)) fun y14 =>
        g5 (y14, s13))) 100000 ((0 : Int32), σ)
set_option maxHeartbeats 4000000 in
set_option maxRecDepth 100000 in
theorem e_J7_fill_53178 {l : Launch} {w : k_WC} {d : Nat} (hd : 2 ≤ d) {a0 : Nat} {x1 : Int32} (ha0 : k_AI (k_PX w) .int a0 (w.2.1 a0) (k_nX a0)) {σ σ' : k_St} (h : f_J7_fill_53178 a0 x1 σ = some σ') : k_EV l (k_PX w) yJ7_fill_53178 cJ7_fill_53178 4 d [.ref (w.2.1 a0), .int x1] σ σ' := by
  refine k_of (own := RJ7) rfl (by decide) (Nat.le_of_ble_eq_true rfl) (fun X hX C hr => ?_)
  show k_K (k_PX w) X (k_MQ X (k_Qv (k_PX w) σ') (k_PX w).2.2.1) 0 [(0, .ref (w.2.1 a0)), (1, .int x1)] [] σ
  unfold f_J7_fill_53178 at h
  refine k_iconst C dJ7_fill_53178_0 (v := 0) rfl ?_
  refine k_istore_n C dJ7_fill_53178_1 (by decide) [1, 2, 0] (L' := [(0, .ref (w.2.1 a0)), (1, .int x1), (2, .int (0 : Int32))]) rfl ?_
  refine k_aload_n C dJ7_fill_53178_2 0 rfl ?_
  refine k_alen C dJ7_fill_53178_3 ha0 rfl ?_
  refine k_topi (fun y4 ey4 => ?_)
  replace h := k_nm_e h y4 ey4
  refine k_istore_n C dJ7_fill_53178_4 (by decide) [1, 2, 3, 0] (L' := [(0, .ref (w.2.1 a0)), (1, .int x1), (2, .int (0 : Int32)), (3, .int y4)]) rfl ?_
  obtain ⟨b5, eb5, h⟩ := k_lp_e h
  have K5 : ∀ (n : Nat) (v2_5 : Int32) (s_5 : k_St), k_loop b5 n (v2_5, s_5) = some σ' → k_K (k_PX w) X (k_MQ X (k_Qv (k_PX w) σ') (k_PX w).2.2.1) 5 [(0, .ref (w.2.1 a0)), (1, .int x1), (2, .int v2_5), (3, .int y4)] [] s_5 := by
    intro n
    induction n with
    | zero => intro v2_5 s_5 h; cases h
    | succ n ih5 =>
      intro v2_5 s_5 h
      obtain ⟨g5, eg5, h⟩ := k_lp_s h
      rw [← eg5] at ih5
      rw [eb5] at h
      refine k_iload_n C dJ7_fill_53178_5 2 rfl ?_
      refine k_iload_n C dJ7_fill_53178_6 3 rfl ?_
      refine k_icmp_ge C dJ7_fill_53178_7 (tgt := 20) (by decide) (fun c7 => ?_) (fun c7 => ?_)
      · replace h := k_if_t h c7
        exact k_vret C dJ7_fill_53178_20 hr (Option.some.inj h)
      · replace h := k_if_f h c7
        refine k_aload_n C dJ7_fill_53178_10 0 rfl ?_
        refine k_iload_n C dJ7_fill_53178_11 2 rfl ?_
        refine k_iload_n C dJ7_fill_53178_12 1 rfl ?_
        obtain ⟨q13, h⟩ := k_gd_e h
        refine k_iast C dJ7_fill_53178_13 ha0 q13 ?_
        refine k_st (fun s13 es13 => ?_)
        replace h := k_nm_e h s13 es13
        refine k_iinc C dJ7_fill_53178_14 2 rfl (v := 1) rfl (by decide) [1, 2, 0, 3] (L' := fun z9 => [(0, .ref (w.2.1 a0)), (1, .int x1), (2, .int z9), (3, .int y4)]) (fun z9 => rfl) (fun y14 ey14 => ?_)
        replace h := k_nm_e h y14 ey14
        refine k_goto C dJ7_fill_53178_17 (tgt := 5) (by decide) ?_
        exact ih5 _ _ h
  exact K5 _ _ _ h
