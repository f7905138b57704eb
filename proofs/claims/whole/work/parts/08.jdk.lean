section KM
variable {P : k_WP} {X : k_CT} {cc : ByteArray} {own : String} {d nL pc : Nat} {Q : State → Prop} {L : List (Nat × Value)} {st rest : List Value} {σ σ' : k_St}
def o_i2b (x : Int32) : Int32 := x.toInt8.toInt32
theorem k_i2b (C : k_C P X cc own d nL) {x : Int32} (hd : decode cc pc = .ok (.i2b, 1)) (k : k_K P X Q (pc + 1) L (.int (o_i2b x) :: st) σ) : k_K P X Q pc L (.int x :: st) σ := fun H locs ls hP hS hl => lv_i2b C.1 C.2.1 hd rfl (k H locs ls hP hS hl)
theorem k_bret {r v : Int32} (C : k_C P X cc own d nL) (hd : decode cc pc = .ok (.ireturn, 1)) (hr : X.2.2.2.2.2.2.2.2.1.sig.returnType = some .byte) (hn : narrow .byte (.int v) = .int v) (h : (v, σ) = (r, σ')) : k_K P X (k_MQ X (k_Qi P r σ') P.2.2.1) pc L [.int v] σ := by
  cases h
  exact fun H locs ls hP hS hl => W.zret C.1 C.2.1 hr hn (fun t ht hW => ⟨⟨_, _, rfl, ⟨rfl, rfl⟩, by subst ht; exact hP⟩, hS.F ht⟩) hS.2.2 hd C.2.2.2.2.2.2.2.2.2.1
theorem k_tabIn (C : k_C P X cc own d nL) {x v : Int32} {dflt lo hi off : Int} {offs : Array Int} {len tgt : Nat} (hd : decode cc pc = .ok (.tableswitch dflt lo hi offs, len)) (e : x = v) (h1 : ¬ v.toInt < lo) (h2 : ¬ hi < v.toInt) (ho : offs[(v.toInt - lo).toNat]? = some off) (ht : (pc : Int) + off = (tgt : Int)) (k : k_K P X Q tgt L st σ) : k_K P X Q pc L (.int x :: st) σ := fun H locs ls hP hS hl => by
  subst e
  exact lv_tableIn C.1 C.2.1 hd h1 h2 ho ht (k H locs ls hP hS hl)
theorem k_tabOut (C : k_C P X cc own d nL) {x : Int32} {dflt lo hi : Int} {offs : Array Int} {len tgt : Nat} (hd : decode cc pc = .ok (.tableswitch dflt lo hi offs, len)) (h : x.toInt < lo ∨ hi < x.toInt) (ht : (pc : Int) + dflt = (tgt : Int)) (k : k_K P X Q tgt L st σ) : k_K P X Q pc L (.int x :: st) σ := fun H locs ls hP hS hl => lv_tableOut C.1 C.2.1 hd h ht (k H locs ls hP hS hl)
end KM
theorem dJ6_bitCount_0f7a4_0 : decode cJ6_bitCount_0f7a4 0 = .ok (.iload_n 0, 1) := by decide +kernel
theorem dJ6_bitCount_0f7a4_1 : decode cJ6_bitCount_0f7a4 1 = .ok (.iload_n 0, 1) := by decide +kernel
theorem dJ6_bitCount_0f7a4_2 : decode cJ6_bitCount_0f7a4 2 = .ok (.iconst 1, 1) := by decide +kernel
theorem dJ6_bitCount_0f7a4_3 : decode cJ6_bitCount_0f7a4 3 = .ok (.iushr, 1) := by decide +kernel
theorem dJ6_bitCount_0f7a4_4 : decode cJ6_bitCount_0f7a4 4 = .ok (.ldc_w 265, 3) := by decide +kernel
theorem dJ6_bitCount_0f7a4_7 : decode cJ6_bitCount_0f7a4 7 = .ok (.iand, 1) := by decide +kernel
theorem dJ6_bitCount_0f7a4_8 : decode cJ6_bitCount_0f7a4 8 = .ok (.isub, 1) := by decide +kernel
theorem dJ6_bitCount_0f7a4_9 : decode cJ6_bitCount_0f7a4 9 = .ok (.istore_n 0, 1) := by decide +kernel
theorem dJ6_bitCount_0f7a4_10 : decode cJ6_bitCount_0f7a4 10 = .ok (.iload_n 0, 1) := by decide +kernel
theorem dJ6_bitCount_0f7a4_11 : decode cJ6_bitCount_0f7a4 11 = .ok (.ldc_w 266, 3) := by decide +kernel
theorem dJ6_bitCount_0f7a4_14 : decode cJ6_bitCount_0f7a4 14 = .ok (.iand, 1) := by decide +kernel
theorem dJ6_bitCount_0f7a4_15 : decode cJ6_bitCount_0f7a4 15 = .ok (.iload_n 0, 1) := by decide +kernel
theorem dJ6_bitCount_0f7a4_16 : decode cJ6_bitCount_0f7a4 16 = .ok (.iconst 2, 1) := by decide +kernel
theorem dJ6_bitCount_0f7a4_17 : decode cJ6_bitCount_0f7a4 17 = .ok (.iushr, 1) := by decide +kernel
theorem dJ6_bitCount_0f7a4_18 : decode cJ6_bitCount_0f7a4 18 = .ok (.ldc_w 266, 3) := by decide +kernel
theorem dJ6_bitCount_0f7a4_21 : decode cJ6_bitCount_0f7a4 21 = .ok (.iand, 1) := by decide +kernel
theorem dJ6_bitCount_0f7a4_22 : decode cJ6_bitCount_0f7a4 22 = .ok (.iadd, 1) := by decide +kernel
theorem dJ6_bitCount_0f7a4_23 : decode cJ6_bitCount_0f7a4 23 = .ok (.istore_n 0, 1) := by decide +kernel
theorem dJ6_bitCount_0f7a4_24 : decode cJ6_bitCount_0f7a4 24 = .ok (.iload_n 0, 1) := by decide +kernel
theorem dJ6_bitCount_0f7a4_25 : decode cJ6_bitCount_0f7a4 25 = .ok (.iload_n 0, 1) := by decide +kernel
theorem dJ6_bitCount_0f7a4_26 : decode cJ6_bitCount_0f7a4 26 = .ok (.iconst 4, 1) := by decide +kernel
theorem dJ6_bitCount_0f7a4_27 : decode cJ6_bitCount_0f7a4 27 = .ok (.iushr, 1) := by decide +kernel
theorem dJ6_bitCount_0f7a4_28 : decode cJ6_bitCount_0f7a4 28 = .ok (.iadd, 1) := by decide +kernel
theorem dJ6_bitCount_0f7a4_29 : decode cJ6_bitCount_0f7a4 29 = .ok (.ldc_w 267, 3) := by decide +kernel
theorem dJ6_bitCount_0f7a4_32 : decode cJ6_bitCount_0f7a4 32 = .ok (.iand, 1) := by decide +kernel
theorem dJ6_bitCount_0f7a4_33 : decode cJ6_bitCount_0f7a4 33 = .ok (.istore_n 0, 1) := by decide +kernel
theorem dJ6_bitCount_0f7a4_34 : decode cJ6_bitCount_0f7a4 34 = .ok (.iload_n 0, 1) := by decide +kernel
theorem dJ6_bitCount_0f7a4_35 : decode cJ6_bitCount_0f7a4 35 = .ok (.iload_n 0, 1) := by decide +kernel
theorem dJ6_bitCount_0f7a4_36 : decode cJ6_bitCount_0f7a4 36 = .ok (.bipush 8, 2) := by decide +kernel
theorem dJ6_bitCount_0f7a4_38 : decode cJ6_bitCount_0f7a4 38 = .ok (.iushr, 1) := by decide +kernel
theorem dJ6_bitCount_0f7a4_39 : decode cJ6_bitCount_0f7a4 39 = .ok (.iadd, 1) := by decide +kernel
theorem dJ6_bitCount_0f7a4_40 : decode cJ6_bitCount_0f7a4 40 = .ok (.istore_n 0, 1) := by decide +kernel
theorem dJ6_bitCount_0f7a4_41 : decode cJ6_bitCount_0f7a4 41 = .ok (.iload_n 0, 1) := by decide +kernel
theorem dJ6_bitCount_0f7a4_42 : decode cJ6_bitCount_0f7a4 42 = .ok (.iload_n 0, 1) := by decide +kernel
theorem dJ6_bitCount_0f7a4_43 : decode cJ6_bitCount_0f7a4 43 = .ok (.bipush 16, 2) := by decide +kernel
theorem dJ6_bitCount_0f7a4_45 : decode cJ6_bitCount_0f7a4 45 = .ok (.iushr, 1) := by decide +kernel
theorem dJ6_bitCount_0f7a4_46 : decode cJ6_bitCount_0f7a4 46 = .ok (.iadd, 1) := by decide +kernel
theorem dJ6_bitCount_0f7a4_47 : decode cJ6_bitCount_0f7a4 47 = .ok (.istore_n 0, 1) := by decide +kernel
theorem dJ6_bitCount_0f7a4_48 : decode cJ6_bitCount_0f7a4 48 = .ok (.iload_n 0, 1) := by decide +kernel
theorem dJ6_bitCount_0f7a4_49 : decode cJ6_bitCount_0f7a4 49 = .ok (.bipush 63, 2) := by decide +kernel
theorem dJ6_bitCount_0f7a4_51 : decode cJ6_bitCount_0f7a4 51 = .ok (.iand, 1) := by decide +kernel
theorem dJ6_bitCount_0f7a4_52 : decode cJ6_bitCount_0f7a4 52 = .ok (.ireturn, 1) := by decide +kernel
theorem k_yJ6_bitCount_0f7a4 : k_Ly yJ6_bitCount_0f7a4 cJ6_bitCount_0f7a4 1 (some .int) 1 := ⟨k_tt (k_s1 26 (by decide +kernel)) rfl, k_tt (k_s5 55 (by rfl)) rfl, by decide +kernel, by decide⟩
theorem dJ7_fill_d0a16_0 : decode cJ7_fill_d0a16 0 = .ok (.iconst 0, 1) := by decide +kernel
theorem dJ7_fill_d0a16_1 : decode cJ7_fill_d0a16 1 = .ok (.istore_n 3, 1) := by decide +kernel
theorem dJ7_fill_d0a16_2 : decode cJ7_fill_d0a16 2 = .ok (.aload_n 0, 1) := by decide +kernel
theorem dJ7_fill_d0a16_3 : decode cJ7_fill_d0a16 3 = .ok (.arraylength, 1) := by decide +kernel
theorem dJ7_fill_d0a16_4 : decode cJ7_fill_d0a16 4 = .ok (.istore 4, 2) := by decide +kernel
theorem dJ7_fill_d0a16_6 : decode cJ7_fill_d0a16 6 = .ok (.iload_n 3, 1) := by decide +kernel
theorem dJ7_fill_d0a16_7 : decode cJ7_fill_d0a16 7 = .ok (.iload 4, 2) := by decide +kernel
theorem dJ7_fill_d0a16_9 : decode cJ7_fill_d0a16 9 = .ok (.if_icmp .ge 13, 3) := by decide +kernel
theorem dJ7_fill_d0a16_12 : decode cJ7_fill_d0a16 12 = .ok (.aload_n 0, 1) := by decide +kernel
theorem dJ7_fill_d0a16_13 : decode cJ7_fill_d0a16 13 = .ok (.iload_n 3, 1) := by decide +kernel
theorem dJ7_fill_d0a16_14 : decode cJ7_fill_d0a16 14 = .ok (.lload_n 1, 1) := by decide +kernel
theorem dJ7_fill_d0a16_15 : decode cJ7_fill_d0a16 15 = .ok (.lastore, 1) := by decide +kernel
theorem dJ7_fill_d0a16_16 : decode cJ7_fill_d0a16 16 = .ok (.iinc 3 1, 3) := by decide +kernel
theorem dJ7_fill_d0a16_19 : decode cJ7_fill_d0a16 19 = .ok (.goto (-13), 3) := by decide +kernel
theorem dJ7_fill_d0a16_22 : decode cJ7_fill_d0a16 22 = .ok (.return_, 1) := by decide +kernel
theorem k_yJ7_fill_d0a16 : k_Ly yJ7_fill_d0a16 cJ7_fill_d0a16 5 none 2 := ⟨k_tt (k_s1 13 (by decide +kernel)) rfl, k_tt (k_s2 85 (by rfl)) rfl, by decide +kernel, by decide⟩
theorem dJ7_fill_53178_0 : decode cJ7_fill_53178 0 = .ok (.iconst 0, 1) := by decide +kernel
theorem dJ7_fill_53178_1 : decode cJ7_fill_53178 1 = .ok (.istore_n 2, 1) := by decide +kernel
theorem dJ7_fill_53178_2 : decode cJ7_fill_53178 2 = .ok (.aload_n 0, 1) := by decide +kernel
theorem dJ7_fill_53178_3 : decode cJ7_fill_53178 3 = .ok (.arraylength, 1) := by decide +kernel
theorem dJ7_fill_53178_4 : decode cJ7_fill_53178 4 = .ok (.istore_n 3, 1) := by decide +kernel
theorem dJ7_fill_53178_5 : decode cJ7_fill_53178 5 = .ok (.iload_n 2, 1) := by decide +kernel
theorem dJ7_fill_53178_6 : decode cJ7_fill_53178 6 = .ok (.iload_n 3, 1) := by decide +kernel
theorem dJ7_fill_53178_7 : decode cJ7_fill_53178 7 = .ok (.if_icmp .ge 13, 3) := by decide +kernel
theorem dJ7_fill_53178_10 : decode cJ7_fill_53178 10 = .ok (.aload_n 0, 1) := by decide +kernel
theorem dJ7_fill_53178_11 : decode cJ7_fill_53178 11 = .ok (.iload_n 2, 1) := by decide +kernel
theorem dJ7_fill_53178_12 : decode cJ7_fill_53178 12 = .ok (.iload_n 1, 1) := by decide +kernel
theorem dJ7_fill_53178_13 : decode cJ7_fill_53178 13 = .ok (.iastore, 1) := by decide +kernel
theorem dJ7_fill_53178_14 : decode cJ7_fill_53178 14 = .ok (.iinc 2 1, 3) := by decide +kernel
theorem dJ7_fill_53178_17 : decode cJ7_fill_53178 17 = .ok (.goto (-12), 3) := by decide +kernel
theorem dJ7_fill_53178_20 : decode cJ7_fill_53178 20 = .ok (.return_, 1) := by decide +kernel
theorem k_yJ7_fill_53178 : k_Ly yJ7_fill_53178 cJ7_fill_53178 4 none 2 := ⟨k_tt (k_s1 13 (by decide +kernel)) rfl, k_tt (k_s2 81 (by rfl)) rfl, by decide +kernel, by decide⟩
theorem dJ0_coder_7d493_0 : decode cJ0_coder_7d493 0 = .ok (.getstatic 38, 3) := by decide +kernel
theorem dJ0_coder_7d493_3 : decode cJ0_coder_7d493 3 = .ok (.ifCond .eq 10, 3) := by decide +kernel
theorem dJ0_coder_7d493_6 : decode cJ0_coder_7d493 6 = .ok (.aload_n 0, 1) := by decide +kernel
theorem dJ0_coder_7d493_7 : decode cJ0_coder_7d493 7 = .ok (.getfield 15, 3) := by decide +kernel
theorem dJ0_coder_7d493_10 : decode cJ0_coder_7d493 10 = .ok (.goto 4, 3) := by decide +kernel
theorem dJ0_coder_7d493_13 : decode cJ0_coder_7d493 13 = .ok (.iconst 1, 1) := by decide +kernel
theorem dJ0_coder_7d493_14 : decode cJ0_coder_7d493 14 = .ok (.ireturn, 1) := by decide +kernel
theorem k_yJ0_coder_7d493 : k_Ly yJ0_coder_7d493 cJ0_coder_7d493 1 (some .byte) 0 := ⟨k_tt (k_s1 16 (by decide +kernel)) rfl, k_tt (k_s3 36 (by rfl)) rfl, by decide +kernel, by decide⟩
theorem dJ0_isLatin1_aae02_0 : decode cJ0_isLatin1_aae02 0 = .ok (.getstatic 38, 3) := by decide +kernel
theorem dJ0_isLatin1_aae02_3 : decode cJ0_isLatin1_aae02 3 = .ok (.ifCond .eq 14, 3) := by decide +kernel
theorem dJ0_isLatin1_aae02_6 : decode cJ0_isLatin1_aae02 6 = .ok (.aload_n 0, 1) := by decide +kernel
theorem dJ0_isLatin1_aae02_7 : decode cJ0_isLatin1_aae02 7 = .ok (.getfield 15, 3) := by decide +kernel
theorem dJ0_isLatin1_aae02_10 : decode cJ0_isLatin1_aae02 10 = .ok (.ifCond .ne 7, 3) := by decide +kernel
theorem dJ0_isLatin1_aae02_13 : decode cJ0_isLatin1_aae02 13 = .ok (.iconst 1, 1) := by decide +kernel
theorem dJ0_isLatin1_aae02_14 : decode cJ0_isLatin1_aae02 14 = .ok (.goto 4, 3) := by decide +kernel
theorem dJ0_isLatin1_aae02_17 : decode cJ0_isLatin1_aae02 17 = .ok (.iconst 0, 1) := by decide +kernel
theorem dJ0_isLatin1_aae02_18 : decode cJ0_isLatin1_aae02 18 = .ok (.ireturn, 1) := by decide +kernel
theorem k_yJ0_isLatin1_aae02 : k_Ly yJ0_isLatin1_aae02 cJ0_isLatin1_aae02 1 (some .boolean) 0 := ⟨k_tt (k_s1 16 (by decide +kernel)) rfl, k_tt (k_s3 26 (by rfl)) rfl, by decide +kernel, by decide⟩
theorem dJ0_length_8abf5_0 : decode cJ0_length_8abf5 0 = .ok (.aload_n 0, 1) := by decide +kernel
theorem dJ0_length_8abf5_1 : decode cJ0_length_8abf5 1 = .ok (.getfield 9, 3) := by decide +kernel
theorem dJ0_length_8abf5_4 : decode cJ0_length_8abf5 4 = .ok (.arraylength, 1) := by decide +kernel
theorem dJ0_length_8abf5_5 : decode cJ0_length_8abf5 5 = .ok (.aload_n 0, 1) := by decide +kernel
theorem dJ0_length_8abf5_6 : decode cJ0_length_8abf5 6 = .ok (.invokevirtual 335, 3) := by decide +kernel
theorem dJ0_length_8abf5_9 : decode cJ0_length_8abf5 9 = .ok (.ishr, 1) := by decide +kernel
theorem dJ0_length_8abf5_10 : decode cJ0_length_8abf5 10 = .ok (.ireturn, 1) := by decide +kernel
theorem k_yJ0_length_8abf5 : k_Ly yJ0_length_8abf5 cJ0_length_8abf5 1 (some .int) 0 := ⟨k_tt (k_s1 16 (by decide +kernel)) rfl, k_tt (k_s3 32 (by rfl)) rfl, by decide +kernel, by decide⟩
theorem dJ1_canEncode_9a6ad_0 : decode cJ1_canEncode_9a6ad 0 = .ok (.iload_n 0, 1) := by decide +kernel
theorem dJ1_canEncode_9a6ad_1 : decode cJ1_canEncode_9a6ad 1 = .ok (.ifCond .lt 14, 3) := by decide +kernel
theorem dJ1_canEncode_9a6ad_4 : decode cJ1_canEncode_9a6ad 4 = .ok (.iload_n 0, 1) := by decide +kernel
theorem dJ1_canEncode_9a6ad_5 : decode cJ1_canEncode_9a6ad 5 = .ok (.sipush 255, 3) := by decide +kernel
theorem dJ1_canEncode_9a6ad_8 : decode cJ1_canEncode_9a6ad 8 = .ok (.if_icmp .gt 7, 3) := by decide +kernel
theorem dJ1_canEncode_9a6ad_11 : decode cJ1_canEncode_9a6ad 11 = .ok (.iconst 1, 1) := by decide +kernel
theorem dJ1_canEncode_9a6ad_12 : decode cJ1_canEncode_9a6ad 12 = .ok (.goto 4, 3) := by decide +kernel
theorem dJ1_canEncode_9a6ad_15 : decode cJ1_canEncode_9a6ad 15 = .ok (.iconst 0, 1) := by decide +kernel
theorem dJ1_canEncode_9a6ad_16 : decode cJ1_canEncode_9a6ad 16 = .ok (.ireturn, 1) := by decide +kernel
theorem k_yJ1_canEncode_9a6ad : k_Ly yJ1_canEncode_9a6ad cJ1_canEncode_9a6ad 1 (some .boolean) 1 := ⟨k_tt (k_s1 17 (by decide +kernel)) rfl, k_tt (k_s3 42 (by rfl)) rfl, by decide +kernel, by decide⟩
theorem dJ1_indexOfChar_4cfef_0 : decode cJ1_indexOfChar_4cfef 0 = .ok (.iload_n 1, 1) := by decide +kernel
theorem dJ1_indexOfChar_4cfef_1 : decode cJ1_indexOfChar_4cfef 1 = .ok (.i2b, 1) := by decide +kernel
theorem dJ1_indexOfChar_4cfef_2 : decode cJ1_indexOfChar_4cfef 2 = .ok (.istore 4, 2) := by decide +kernel
theorem dJ1_indexOfChar_4cfef_4 : decode cJ1_indexOfChar_4cfef 4 = .ok (.iload_n 2, 1) := by decide +kernel
theorem dJ1_indexOfChar_4cfef_5 : decode cJ1_indexOfChar_4cfef 5 = .ok (.istore 5, 2) := by decide +kernel
theorem dJ1_indexOfChar_4cfef_7 : decode cJ1_indexOfChar_4cfef 7 = .ok (.iload 5, 2) := by decide +kernel
theorem dJ1_indexOfChar_4cfef_9 : decode cJ1_indexOfChar_4cfef 9 = .ok (.iload_n 3, 1) := by decide +kernel
theorem dJ1_indexOfChar_4cfef_10 : decode cJ1_indexOfChar_4cfef 10 = .ok (.if_icmp .ge 21, 3) := by decide +kernel
theorem dJ1_indexOfChar_4cfef_13 : decode cJ1_indexOfChar_4cfef 13 = .ok (.aload_n 0, 1) := by decide +kernel
theorem dJ1_indexOfChar_4cfef_14 : decode cJ1_indexOfChar_4cfef 14 = .ok (.iload 5, 2) := by decide +kernel
theorem dJ1_indexOfChar_4cfef_16 : decode cJ1_indexOfChar_4cfef 16 = .ok (.baload, 1) := by decide +kernel
theorem dJ1_indexOfChar_4cfef_17 : decode cJ1_indexOfChar_4cfef 17 = .ok (.iload 4, 2) := by decide +kernel
theorem dJ1_indexOfChar_4cfef_19 : decode cJ1_indexOfChar_4cfef 19 = .ok (.if_icmp .ne 6, 3) := by decide +kernel
theorem dJ1_indexOfChar_4cfef_22 : decode cJ1_indexOfChar_4cfef 22 = .ok (.iload 5, 2) := by decide +kernel
theorem dJ1_indexOfChar_4cfef_24 : decode cJ1_indexOfChar_4cfef 24 = .ok (.ireturn, 1) := by decide +kernel
theorem dJ1_indexOfChar_4cfef_25 : decode cJ1_indexOfChar_4cfef 25 = .ok (.iinc 5 1, 3) := by decide +kernel
theorem dJ1_indexOfChar_4cfef_28 : decode cJ1_indexOfChar_4cfef 28 = .ok (.goto (-21), 3) := by decide +kernel
theorem dJ1_indexOfChar_4cfef_31 : decode cJ1_indexOfChar_4cfef 31 = .ok (.iconst (-1), 1) := by decide +kernel
theorem dJ1_indexOfChar_4cfef_32 : decode cJ1_indexOfChar_4cfef 32 = .ok (.ireturn, 1) := by decide +kernel
theorem k_yJ1_indexOfChar_4cfef : k_Ly yJ1_indexOfChar_4cfef cJ1_indexOfChar_4cfef 6 (some .int) 4 := ⟨k_tt (k_s1 17 (by decide +kernel)) rfl, k_tt (k_s3 51 (by rfl)) rfl, by decide +kernel, by decide⟩
theorem dJ1_indexOf_4cfef_0 : decode cJ1_indexOf_4cfef 0 = .ok (.iload_n 1, 1) := by decide +kernel
theorem dJ1_indexOf_4cfef_1 : decode cJ1_indexOf_4cfef 1 = .ok (.invokestatic 88, 3) := by decide +kernel
theorem dJ1_indexOf_4cfef_4 : decode cJ1_indexOf_4cfef 4 = .ok (.ifCond .ne 5, 3) := by decide +kernel
theorem dJ1_indexOf_4cfef_7 : decode cJ1_indexOf_4cfef 7 = .ok (.iconst (-1), 1) := by decide +kernel
theorem dJ1_indexOf_4cfef_8 : decode cJ1_indexOf_4cfef 8 = .ok (.ireturn, 1) := by decide +kernel
theorem dJ1_indexOf_4cfef_9 : decode cJ1_indexOf_4cfef 9 = .ok (.iload_n 2, 1) := by decide +kernel
theorem dJ1_indexOf_4cfef_10 : decode cJ1_indexOf_4cfef 10 = .ok (.iconst 0, 1) := by decide +kernel
theorem dJ1_indexOf_4cfef_11 : decode cJ1_indexOf_4cfef 11 = .ok (.invokestatic 92, 3) := by decide +kernel
theorem dJ1_indexOf_4cfef_14 : decode cJ1_indexOf_4cfef 14 = .ok (.istore_n 2, 1) := by decide +kernel
theorem dJ1_indexOf_4cfef_15 : decode cJ1_indexOf_4cfef 15 = .ok (.iload_n 3, 1) := by decide +kernel
theorem dJ1_indexOf_4cfef_16 : decode cJ1_indexOf_4cfef 16 = .ok (.aload_n 0, 1) := by decide +kernel
theorem dJ1_indexOf_4cfef_17 : decode cJ1_indexOf_4cfef 17 = .ok (.arraylength, 1) := by decide +kernel
theorem dJ1_indexOf_4cfef_18 : decode cJ1_indexOf_4cfef 18 = .ok (.invokestatic 38, 3) := by decide +kernel
theorem dJ1_indexOf_4cfef_21 : decode cJ1_indexOf_4cfef 21 = .ok (.istore_n 3, 1) := by decide +kernel
theorem dJ1_indexOf_4cfef_22 : decode cJ1_indexOf_4cfef 22 = .ok (.iload_n 2, 1) := by decide +kernel
theorem dJ1_indexOf_4cfef_23 : decode cJ1_indexOf_4cfef 23 = .ok (.iload_n 3, 1) := by decide +kernel
theorem dJ1_indexOf_4cfef_24 : decode cJ1_indexOf_4cfef 24 = .ok (.if_icmp .lt 5, 3) := by decide +kernel
theorem dJ1_indexOf_4cfef_27 : decode cJ1_indexOf_4cfef 27 = .ok (.iconst (-1), 1) := by decide +kernel
theorem dJ1_indexOf_4cfef_28 : decode cJ1_indexOf_4cfef 28 = .ok (.ireturn, 1) := by decide +kernel
theorem dJ1_indexOf_4cfef_29 : decode cJ1_indexOf_4cfef 29 = .ok (.aload_n 0, 1) := by decide +kernel
theorem dJ1_indexOf_4cfef_30 : decode cJ1_indexOf_4cfef 30 = .ok (.iload_n 1, 1) := by decide +kernel
theorem dJ1_indexOf_4cfef_31 : decode cJ1_indexOf_4cfef 31 = .ok (.iload_n 2, 1) := by decide +kernel
theorem dJ1_indexOf_4cfef_32 : decode cJ1_indexOf_4cfef 32 = .ok (.iload_n 3, 1) := by decide +kernel
theorem dJ1_indexOf_4cfef_33 : decode cJ1_indexOf_4cfef 33 = .ok (.invokestatic 95, 3) := by decide +kernel
theorem dJ1_indexOf_4cfef_36 : decode cJ1_indexOf_4cfef 36 = .ok (.ireturn, 1) := by decide +kernel
theorem k_yJ1_indexOf_4cfef : k_Ly yJ1_indexOf_4cfef cJ1_indexOf_4cfef 4 (some .int) 4 := ⟨k_tt (k_s1 17 (by decide +kernel)) rfl, k_tt (k_s3 39 (by rfl)) rfl, by decide +kernel, by decide⟩
theorem dJ0_indexOf_7cf53_0 : decode cJ0_indexOf_7cf53 0 = .ok (.aload_n 0, 1) := by decide +kernel
theorem dJ0_indexOf_7cf53_1 : decode cJ0_indexOf_7cf53 1 = .ok (.invokevirtual 492, 3) := by decide +kernel
theorem dJ0_indexOf_7cf53_4 : decode cJ0_indexOf_7cf53 4 = .ok (.ifCond .eq 19, 3) := by decide +kernel
theorem dJ0_indexOf_7cf53_7 : decode cJ0_indexOf_7cf53 7 = .ok (.aload_n 0, 1) := by decide +kernel
theorem dJ0_indexOf_7cf53_8 : decode cJ0_indexOf_7cf53 8 = .ok (.getfield 9, 3) := by decide +kernel
theorem dJ0_indexOf_7cf53_11 : decode cJ0_indexOf_7cf53 11 = .ok (.iload_n 1, 1) := by decide +kernel
theorem dJ0_indexOf_7cf53_12 : decode cJ0_indexOf_7cf53 12 = .ok (.iload_n 2, 1) := by decide +kernel
theorem dJ0_indexOf_7cf53_13 : decode cJ0_indexOf_7cf53 13 = .ok (.aload_n 0, 1) := by decide +kernel
theorem dJ0_indexOf_7cf53_14 : decode cJ0_indexOf_7cf53 14 = .ok (.invokevirtual 505, 3) := by decide +kernel
theorem dJ0_indexOf_7cf53_17 : decode cJ0_indexOf_7cf53 17 = .ok (.invokestatic 637, 3) := by decide +kernel
theorem dJ0_indexOf_7cf53_20 : decode cJ0_indexOf_7cf53 20 = .ok (.goto 16, 3) := by decide +kernel
theorem dJ0_indexOf_7cf53_23 : decode cJ0_indexOf_7cf53 23 = .ok (.aload_n 0, 1) := by decide +kernel
theorem dJ0_indexOf_7cf53_24 : decode cJ0_indexOf_7cf53 24 = .ok (.getfield 9, 3) := by decide +kernel
theorem dJ0_indexOf_7cf53_27 : decode cJ0_indexOf_7cf53 27 = .ok (.iload_n 1, 1) := by decide +kernel
theorem dJ0_indexOf_7cf53_28 : decode cJ0_indexOf_7cf53 28 = .ok (.iload_n 2, 1) := by decide +kernel
theorem dJ0_indexOf_7cf53_29 : decode cJ0_indexOf_7cf53 29 = .ok (.aload_n 0, 1) := by decide +kernel
theorem dJ0_indexOf_7cf53_30 : decode cJ0_indexOf_7cf53 30 = .ok (.invokevirtual 505, 3) := by decide +kernel
theorem dJ0_indexOf_7cf53_33 : decode cJ0_indexOf_7cf53 33 = .ok (.invokestatic 640, 3) := by decide +kernel
theorem dJ0_indexOf_7cf53_36 : decode cJ0_indexOf_7cf53 36 = .ok (.ireturn, 1) := by decide +kernel
theorem k_yJ0_indexOf_7cf53 : k_Ly yJ0_indexOf_7cf53 cJ0_indexOf_7cf53 3 (some .int) 2 := ⟨k_tt (k_s1 16 (by decide +kernel)) rfl, k_tt (k_s3 22 (by rfl)) rfl, by decide +kernel, by decide⟩
theorem dJ0_indexOf_0f7a4_0 : decode cJ0_indexOf_0f7a4 0 = .ok (.aload_n 0, 1) := by decide +kernel
theorem dJ0_indexOf_0f7a4_1 : decode cJ0_indexOf_0f7a4 1 = .ok (.iload_n 1, 1) := by decide +kernel
theorem dJ0_indexOf_0f7a4_2 : decode cJ0_indexOf_0f7a4 2 = .ok (.iconst 0, 1) := by decide +kernel
theorem dJ0_indexOf_0f7a4_3 : decode cJ0_indexOf_0f7a4 3 = .ok (.invokevirtual 633, 3) := by decide +kernel
theorem dJ0_indexOf_0f7a4_6 : decode cJ0_indexOf_0f7a4 6 = .ok (.ireturn, 1) := by decide +kernel
theorem k_yJ0_indexOf_0f7a4 : k_Ly yJ0_indexOf_0f7a4 cJ0_indexOf_0f7a4 2 (some .int) 1 := ⟨k_tt (k_s1 16 (by decide +kernel)) rfl, k_tt (k_s3 18 (by rfl)) rfl, by decide +kernel, by decide⟩
theorem k_cJ6_265 : Cond.constant RJ6 265 (1431655765) ∈ k_TT := k_tt (k_s5 56 (by decide +kernel)) rfl
theorem k_cJ6_266 : Cond.constant RJ6 266 (858993459) ∈ k_TT := k_tt (k_s5 57 (by decide +kernel)) rfl
theorem k_cJ6_267 : Cond.constant RJ6 267 (252645135) ∈ k_TT := k_tt (k_s5 58 (by decide +kernel)) rfl
theorem k_fJ0_38 : Cond.fieldLink "java/lang/String" 38 "java/lang/String" "COMPACT_STRINGS" "Z" ∈ k_TT := k_tt (k_s3 27 (by decide +kernel)) rfl
theorem k_fJ0_1053 : Cond.fieldLink "java/lang/String" 1053 "jdk/internal/util/Preconditions" "SIOOBE_FORMATTER" "Ljava/util/function/BiFunction;" ∈ k_TT := k_tt (k_s3 70 (by decide +kernel)) rfl
theorem k_fJ0_15 : Cond.fieldLink "java/lang/String" 15 "java/lang/String" "coder" "B" ∈ k_TT := k_tt (k_s9 225 (by decide +kernel)) rfl
theorem k_fJ0_9 : Cond.fieldLink "java/lang/String" 9 "java/lang/String" "value" "[B" ∈ k_TT := k_tt (k_s9 226 (by decide +kernel)) rfl
theorem k_lX2_100 : Cond.methodLink RX2 100 yJ0_indexOf_0f7a4 ∈ k_TT ∧ Cond.instanceMethod yJ0_indexOf_0f7a4 ∈ k_TT ∧ Cond.selects "java/lang/String" yJ0_indexOf_0f7a4 yJ0_indexOf_0f7a4 ∈ k_TT := ⟨k_tt (k_s3 15 (by decide +kernel)) rfl, k_tt (k_s3 16 (by decide +kernel)) rfl, k_tt (k_s3 17 (by decide +kernel)) rfl⟩
theorem k_lJ0_633 : Cond.methodLink "java/lang/String" 633 yJ0_indexOf_7cf53 ∈ k_TT ∧ Cond.instanceMethod yJ0_indexOf_7cf53 ∈ k_TT ∧ Cond.selects "java/lang/String" yJ0_indexOf_7cf53 yJ0_indexOf_7cf53 ∈ k_TT := ⟨k_tt (k_s3 19 (by decide +kernel)) rfl, k_tt (k_s3 20 (by decide +kernel)) rfl, k_tt (k_s3 21 (by decide +kernel)) rfl⟩
theorem k_lJ0_492 : Cond.methodLink "java/lang/String" 492 yJ0_isLatin1_aae02 ∈ k_TT ∧ Cond.instanceMethod yJ0_isLatin1_aae02 ∈ k_TT ∧ Cond.selects "java/lang/String" yJ0_isLatin1_aae02 yJ0_isLatin1_aae02 ∈ k_TT := ⟨k_tt (k_s3 23 (by decide +kernel)) rfl, k_tt (k_s3 24 (by decide +kernel)) rfl, k_tt (k_s3 25 (by decide +kernel)) rfl⟩
theorem k_lJ0_505 : Cond.methodLink "java/lang/String" 505 yJ0_length_8abf5 ∈ k_TT ∧ Cond.instanceMethod yJ0_length_8abf5 ∈ k_TT ∧ Cond.selects "java/lang/String" yJ0_length_8abf5 yJ0_length_8abf5 ∈ k_TT := ⟨k_tt (k_s3 29 (by decide +kernel)) rfl, k_tt (k_s3 30 (by decide +kernel)) rfl, k_tt (k_s3 31 (by decide +kernel)) rfl⟩
theorem k_lJ0_335 : Cond.methodLink "java/lang/String" 335 yJ0_coder_7d493 ∈ k_TT ∧ Cond.instanceMethod yJ0_coder_7d493 ∈ k_TT ∧ Cond.selects "java/lang/String" yJ0_coder_7d493 yJ0_coder_7d493 ∈ k_TT := ⟨k_tt (k_s3 33 (by decide +kernel)) rfl, k_tt (k_s3 34 (by decide +kernel)) rfl, k_tt (k_s3 35 (by decide +kernel)) rfl⟩
theorem k_lJ0_637 : Cond.methodLink "java/lang/String" 637 yJ1_indexOf_4cfef ∈ k_TT ∧ Cond.static yJ1_indexOf_4cfef ∈ k_TT := ⟨k_tt (k_s3 37 (by decide +kernel)) rfl, k_tt (k_s3 38 (by decide +kernel)) rfl⟩
theorem k_lJ1_88 : Cond.methodLink "java/lang/StringLatin1" 88 yJ1_canEncode_9a6ad ∈ k_TT ∧ Cond.static yJ1_canEncode_9a6ad ∈ k_TT := ⟨k_tt (k_s3 40 (by decide +kernel)) rfl, k_tt (k_s3 41 (by decide +kernel)) rfl⟩
theorem k_lJ1_92 : Cond.methodLink "java/lang/StringLatin1" 92 ⟨"java/lang/Math", "max", "(II)I"⟩ ∈ k_TT ∧ Cond.static ⟨"java/lang/Math", "max", "(II)I"⟩ ∈ k_TT := ⟨k_tt (k_s3 43 (by decide +kernel)) rfl, k_tt (k_s3 44 (by decide +kernel)) rfl⟩
theorem k_lJ1_38 : Cond.methodLink "java/lang/StringLatin1" 38 ⟨"java/lang/Math", "min", "(II)I"⟩ ∈ k_TT ∧ Cond.static ⟨"java/lang/Math", "min", "(II)I"⟩ ∈ k_TT := ⟨k_tt (k_s3 46 (by decide +kernel)) rfl, k_tt (k_s3 47 (by decide +kernel)) rfl⟩
theorem k_lJ1_95 : Cond.methodLink "java/lang/StringLatin1" 95 yJ1_indexOfChar_4cfef ∈ k_TT ∧ Cond.static yJ1_indexOfChar_4cfef ∈ k_TT := ⟨k_tt (k_s3 49 (by decide +kernel)) rfl, k_tt (k_s3 50 (by decide +kernel)) rfl⟩
theorem k_lX10_155 : Cond.methodLink RX10 155 yJ0_indexOf_0f7a4 ∈ k_TT ∧ Cond.instanceMethod yJ0_indexOf_0f7a4 ∈ k_TT ∧ Cond.selects "java/lang/String" yJ0_indexOf_0f7a4 yJ0_indexOf_0f7a4 ∈ k_TT := ⟨k_tt (k_s3 205 (by decide +kernel)) rfl, k_tt (k_s3 16 (by decide +kernel)) rfl, k_tt (k_s3 17 (by decide +kernel)) rfl⟩
def f_J6_bitCount_0f7a4 (x0 : Int32) : Option (Int32) :=
  k_nm ((x0 - ((o_ushr x0 (1 : Int32)) &&& (1431655765 : Int32)))) fun y9 =>
  k_nm (((y9 &&& (858993459 : Int32)) + ((o_ushr y9 (2 : Int32)) &&& (858993459 : Int32)))) fun y23 =>
  k_nm (((y23 + (o_ushr y23 (4 : Int32))) &&& (252645135 : Int32))) fun y33 =>
  k_nm ((y33 + (o_ushr y33 (8 : Int32)))) fun y40 =>
  k_nm ((y40 + (o_ushr y40 (16 : Int32)))) fun y47 =>
  some (y47 &&& (63 : Int32))
set_option maxHeartbeats 4000000 in
set_option maxRecDepth 100000 in
theorem e_J6_bitCount_0f7a4 {l : Launch} {w : k_WC} {d : Nat} (hd : 2 ≤ d) {x0 : Int32}  {σ : k_St} {r : Int32} (h : f_J6_bitCount_0f7a4 x0 = some r) : k_EI l (k_PX w) yJ6_bitCount_0f7a4 cJ6_bitCount_0f7a4 1 (some .int) d [.int x0] σ r σ := by
  refine k_of (own := RJ6) rfl (by decide) (Nat.le_of_ble_eq_true rfl) (fun X hX C hr => ?_)
  show k_K (k_PX w) X (k_MQ X (k_Qi (k_PX w) r σ) (k_PX w).2.2.1) 0 [(0, .int x0)] [] σ
  unfold f_J6_bitCount_0f7a4 at h
  refine k_iload_n C dJ6_bitCount_0f7a4_0 0 rfl ?_
  refine k_iload_n C dJ6_bitCount_0f7a4_1 0 rfl ?_
  refine k_iconst C dJ6_bitCount_0f7a4_2 (v := 1) rfl ?_
  refine k_iushr C dJ6_bitCount_0f7a4_3 ?_
  refine k_ldcw C dJ6_bitCount_0f7a4_4 k_cJ6_265 ?_
  refine k_iand C dJ6_bitCount_0f7a4_7 ?_
  refine k_isub C dJ6_bitCount_0f7a4_8 ?_
  refine k_topi (fun y9 ey9 => ?_)
  replace h := k_nm_e h y9 ey9
  refine k_istore_n C dJ6_bitCount_0f7a4_9 (by decide) [0] (L' := [(0, .int y9)]) rfl ?_
  refine k_iload_n C dJ6_bitCount_0f7a4_10 0 rfl ?_
  refine k_ldcw C dJ6_bitCount_0f7a4_11 k_cJ6_266 ?_
  refine k_iand C dJ6_bitCount_0f7a4_14 ?_
  refine k_iload_n C dJ6_bitCount_0f7a4_15 0 rfl ?_
  refine k_iconst C dJ6_bitCount_0f7a4_16 (v := 2) rfl ?_
  refine k_iushr C dJ6_bitCount_0f7a4_17 ?_
  refine k_ldcw C dJ6_bitCount_0f7a4_18 k_cJ6_266 ?_
  refine k_iand C dJ6_bitCount_0f7a4_21 ?_
  refine k_iadd C dJ6_bitCount_0f7a4_22 ?_
  refine k_topi (fun y23 ey23 => ?_)
  replace h := k_nm_e h y23 ey23
  refine k_istore_n C dJ6_bitCount_0f7a4_23 (by decide) [0] (L' := [(0, .int y23)]) rfl ?_
  refine k_iload_n C dJ6_bitCount_0f7a4_24 0 rfl ?_
  refine k_iload_n C dJ6_bitCount_0f7a4_25 0 rfl ?_
  refine k_iconst C dJ6_bitCount_0f7a4_26 (v := 4) rfl ?_
  refine k_iushr C dJ6_bitCount_0f7a4_27 ?_
  refine k_iadd C dJ6_bitCount_0f7a4_28 ?_
  refine k_ldcw C dJ6_bitCount_0f7a4_29 k_cJ6_267 ?_
  refine k_iand C dJ6_bitCount_0f7a4_32 ?_
  refine k_topi (fun y33 ey33 => ?_)
  replace h := k_nm_e h y33 ey33
  refine k_istore_n C dJ6_bitCount_0f7a4_33 (by decide) [0] (L' := [(0, .int y33)]) rfl ?_
  refine k_iload_n C dJ6_bitCount_0f7a4_34 0 rfl ?_
  refine k_iload_n C dJ6_bitCount_0f7a4_35 0 rfl ?_
  refine k_bipush C dJ6_bitCount_0f7a4_36 (v := 8) rfl ?_
  refine k_iushr C dJ6_bitCount_0f7a4_38 ?_
  refine k_iadd C dJ6_bitCount_0f7a4_39 ?_
  refine k_topi (fun y40 ey40 => ?_)
  replace h := k_nm_e h y40 ey40
  refine k_istore_n C dJ6_bitCount_0f7a4_40 (by decide) [0] (L' := [(0, .int y40)]) rfl ?_
  refine k_iload_n C dJ6_bitCount_0f7a4_41 0 rfl ?_
  refine k_iload_n C dJ6_bitCount_0f7a4_42 0 rfl ?_
  refine k_bipush C dJ6_bitCount_0f7a4_43 (v := 16) rfl ?_
  refine k_iushr C dJ6_bitCount_0f7a4_45 ?_
  refine k_iadd C dJ6_bitCount_0f7a4_46 ?_
  refine k_topi (fun y47 ey47 => ?_)
  replace h := k_nm_e h y47 ey47
  refine k_istore_n C dJ6_bitCount_0f7a4_47 (by decide) [0] (L' := [(0, .int y47)]) rfl ?_
  refine k_iload_n C dJ6_bitCount_0f7a4_48 0 rfl ?_
  refine k_bipush C dJ6_bitCount_0f7a4_49 (v := 63) rfl ?_
  refine k_iand C dJ6_bitCount_0f7a4_51 ?_
  exact k_iret C dJ6_bitCount_0f7a4_52 hr (k_p1 h)
set_option maxHeartbeats 4000000 in
set_option maxRecDepth 100000 in
theorem e_J6_bitCount_0f7a4_M {l : Launch} {w : k_WC} {d : Nat} (hd : 2 ≤ d) {x0 : Int32}  {σ : k_St} {r : Int32} (h : f_J6_bitCount_0f7a4 x0 = some r) : k_EI l (k_PM w) yJ6_bitCount_0f7a4 cJ6_bitCount_0f7a4 1 (some .int) d [.int x0] σ r σ := by
  refine k_of (own := RJ6) rfl (by decide) (Nat.le_of_ble_eq_true rfl) (fun X hX C hr => ?_)
  show k_K (k_PM w) X (k_MQ X (k_Qi (k_PM w) r σ) (k_PM w).2.2.1) 0 [(0, .int x0)] [] σ
  unfold f_J6_bitCount_0f7a4 at h
  refine k_iload_n C dJ6_bitCount_0f7a4_0 0 rfl ?_
  refine k_iload_n C dJ6_bitCount_0f7a4_1 0 rfl ?_
  refine k_iconst C dJ6_bitCount_0f7a4_2 (v := 1) rfl ?_
  refine k_iushr C dJ6_bitCount_0f7a4_3 ?_
  refine k_ldcw C dJ6_bitCount_0f7a4_4 k_cJ6_265 ?_
  refine k_iand C dJ6_bitCount_0f7a4_7 ?_
  refine k_isub C dJ6_bitCount_0f7a4_8 ?_
  refine k_topi (fun y9 ey9 => ?_)
  replace h := k_nm_e h y9 ey9
  refine k_istore_n C dJ6_bitCount_0f7a4_9 (by decide) [0] (L' := [(0, .int y9)]) rfl ?_
  refine k_iload_n C dJ6_bitCount_0f7a4_10 0 rfl ?_
  refine k_ldcw C dJ6_bitCount_0f7a4_11 k_cJ6_266 ?_
  refine k_iand C dJ6_bitCount_0f7a4_14 ?_
  refine k_iload_n C dJ6_bitCount_0f7a4_15 0 rfl ?_
  refine k_iconst C dJ6_bitCount_0f7a4_16 (v := 2) rfl ?_
  refine k_iushr C dJ6_bitCount_0f7a4_17 ?_
  refine k_ldcw C dJ6_bitCount_0f7a4_18 k_cJ6_266 ?_
  refine k_iand C dJ6_bitCount_0f7a4_21 ?_
  refine k_iadd C dJ6_bitCount_0f7a4_22 ?_
  refine k_topi (fun y23 ey23 => ?_)
  replace h := k_nm_e h y23 ey23
  refine k_istore_n C dJ6_bitCount_0f7a4_23 (by decide) [0] (L' := [(0, .int y23)]) rfl ?_
  refine k_iload_n C dJ6_bitCount_0f7a4_24 0 rfl ?_
  refine k_iload_n C dJ6_bitCount_0f7a4_25 0 rfl ?_
  refine k_iconst C dJ6_bitCount_0f7a4_26 (v := 4) rfl ?_
  refine k_iushr C dJ6_bitCount_0f7a4_27 ?_
  refine k_iadd C dJ6_bitCount_0f7a4_28 ?_
  refine k_ldcw C dJ6_bitCount_0f7a4_29 k_cJ6_267 ?_
  refine k_iand C dJ6_bitCount_0f7a4_32 ?_
  refine k_topi (fun y33 ey33 => ?_)
  replace h := k_nm_e h y33 ey33
  refine k_istore_n C dJ6_bitCount_0f7a4_33 (by decide) [0] (L' := [(0, .int y33)]) rfl ?_
  refine k_iload_n C dJ6_bitCount_0f7a4_34 0 rfl ?_
  refine k_iload_n C dJ6_bitCount_0f7a4_35 0 rfl ?_
  refine k_bipush C dJ6_bitCount_0f7a4_36 (v := 8) rfl ?_
  refine k_iushr C dJ6_bitCount_0f7a4_38 ?_
  refine k_iadd C dJ6_bitCount_0f7a4_39 ?_
  refine k_topi (fun y40 ey40 => ?_)
  replace h := k_nm_e h y40 ey40
  refine k_istore_n C dJ6_bitCount_0f7a4_40 (by decide) [0] (L' := [(0, .int y40)]) rfl ?_
  refine k_iload_n C dJ6_bitCount_0f7a4_41 0 rfl ?_
  refine k_iload_n C dJ6_bitCount_0f7a4_42 0 rfl ?_
  refine k_bipush C dJ6_bitCount_0f7a4_43 (v := 16) rfl ?_
  refine k_iushr C dJ6_bitCount_0f7a4_45 ?_
  refine k_iadd C dJ6_bitCount_0f7a4_46 ?_
  refine k_topi (fun y47 ey47 => ?_)
  replace h := k_nm_e h y47 ey47
  refine k_istore_n C dJ6_bitCount_0f7a4_47 (by decide) [0] (L' := [(0, .int y47)]) rfl ?_
  refine k_iload_n C dJ6_bitCount_0f7a4_48 0 rfl ?_
  refine k_bipush C dJ6_bitCount_0f7a4_49 (v := 63) rfl ?_
  refine k_iand C dJ6_bitCount_0f7a4_51 ?_
  exact k_iret C dJ6_bitCount_0f7a4_52 hr (k_p1 h)
def f_J7_fill_d0a16 (a0 : Nat) (x1 : Int64) (σ : k_St) : Option (k_St) :=
  k_nm ((Int32.ofNat (k_nX a0))) fun y4 =>
  k_loop (fun (g6 : Int32 × k_St → Option (k_St)) (z6 : Int32 × k_St) => match z6 with
    | (v3_6, s_6) =>
      k_if (y4 ≤ v3_6)
        (some s_6)
        (k_gd (k_ix v3_6 (k_nX a0) = true) <|
        k_nm (k_wl s_6 a0 v3_6.toNatClampNeg x1) fun s15 =>
        k_nm (v3_6 + (1 : Int32)) fun y16 =>
        g6 (y16, s15))) 100000 ((0 : Int32), σ)
set_option maxHeartbeats 4000000 in
set_option maxRecDepth 100000 in
theorem e_J7_fill_d0a16 {l : Launch} {w : k_WC} {d : Nat} (hd : 2 ≤ d) {a0 : Nat} {x1 : Int64} (ha0 : k_AL (k_PX w) a0 (w.2.1 a0) (k_nX a0)) {σ σ' : k_St} (h : f_J7_fill_d0a16 a0 x1 σ = some σ') : k_EV l (k_PX w) yJ7_fill_d0a16 cJ7_fill_d0a16 5 d [.ref (w.2.1 a0), .long x1] σ σ' := by
  refine k_of (own := RJ7) rfl (by decide) (Nat.le_of_ble_eq_true rfl) (fun X hX C hr => ?_)
  show k_K (k_PX w) X (k_MQ X (k_Qv (k_PX w) σ') (k_PX w).2.2.1) 0 [(0, .ref (w.2.1 a0)), (1, .long x1)] [] σ
  unfold f_J7_fill_d0a16 at h
  refine k_iconst C dJ7_fill_d0a16_0 (v := 0) rfl ?_
  refine k_istore_n C dJ7_fill_d0a16_1 (by decide) [1, 2, 0] (L' := [(0, .ref (w.2.1 a0)), (1, .long x1), (3, .int (0 : Int32))]) rfl ?_
  refine k_aload_n C dJ7_fill_d0a16_2 0 rfl ?_
  refine k_alenL C dJ7_fill_d0a16_3 ha0 rfl ?_
  refine k_topi (fun y4 ey4 => ?_)
  replace h := k_nm_e h y4 ey4
  refine k_istore C dJ7_fill_d0a16_4 (by decide) [1, 2, 3, 0] (L' := [(0, .ref (w.2.1 a0)), (1, .long x1), (3, .int (0 : Int32)), (4, .int y4)]) rfl ?_
  obtain ⟨b6, eb6, h⟩ := k_lp_e h
  have K6 : ∀ (n : Nat) (v3_6 : Int32) (s_6 : k_St), k_loop b6 n (v3_6, s_6) = some σ' → k_K (k_PX w) X (k_MQ X (k_Qv (k_PX w) σ') (k_PX w).2.2.1) 6 [(0, .ref (w.2.1 a0)), (1, .long x1), (3, .int v3_6), (4, .int y4)] [] s_6 := by
    intro n
    induction n with
    | zero => intro v3_6 s_6 h; cases h
    | succ n ih6 =>
      intro v3_6 s_6 h
      obtain ⟨g6, eg6, h⟩ := k_lp_s h
      rw [← eg6] at ih6
      rw [eb6] at h
      refine k_iload_n C dJ7_fill_d0a16_6 2 rfl ?_
      refine k_iload C dJ7_fill_d0a16_7 3 rfl ?_
      refine k_icmp_ge C dJ7_fill_d0a16_9 (tgt := 22) (by decide) (fun c9 => ?_) (fun c9 => ?_)
      · replace h := k_if_t h c9
        exact k_vret C dJ7_fill_d0a16_22 hr (Option.some.inj h)
      · replace h := k_if_f h c9
        refine k_aload_n C dJ7_fill_d0a16_12 0 rfl ?_
        refine k_iload_n C dJ7_fill_d0a16_13 2 rfl ?_
        refine k_lload_n C dJ7_fill_d0a16_14 1 rfl ?_
        obtain ⟨q15, h⟩ := k_gd_e h
        refine k_last C dJ7_fill_d0a16_15 ha0 q15 ?_
        refine k_st (fun s15 es15 => ?_)
        replace h := k_nm_e h s15 es15
        refine k_iinc C dJ7_fill_d0a16_16 2 rfl (v := 1) rfl (by decide) [1, 2, 0, 3] (L' := fun z9 => [(0, .ref (w.2.1 a0)), (1, .long x1), (3, .int z9), (4, .int y4)]) (fun z9 => rfl) (fun y16 ey16 => ?_)
        replace h := k_nm_e h y16 ey16
        refine k_goto C dJ7_fill_d0a16_19 (tgt := 6) (by decide) ?_
        exact ih6 _ _ h
  exact K6 _ _ _ h
def f_J7_fill_53178 (a0 : Nat) (x1 : Int32) (σ : k_St) : Option (k_St) :=
  k_nm ((Int32.ofNat (k_nX a0))) fun y4 =>
  k_loop (fun (g5 : Int32 × k_St → Option (k_St)) (z5 : Int32 × k_St) => match z5 with
    | (v2_5, s_5) =>
      k_if (y4 ≤ v2_5)
        (some s_5)
        (k_gd (k_ix v2_5 (k_nX a0) = true) <|
        k_nm (k_wr s_5 a0 v2_5.toNatClampNeg x1) fun s13 =>
        k_nm (v2_5 + (1 : Int32)) fun y14 =>
        g5 (y14, s13))) 100000 ((0 : Int32), σ)
set_option maxHeartbeats 4000000 in
set_option maxRecDepth 100000 in
theorem e_J7_fill_53178 {l : Launch} {w : k_WC} {d : Nat} (hd : 2 ≤ d) {a0 : Nat} {x1 : Int32} (ha0 : k_AI (k_PX w) .int a0 (w.2.1 a0) (k_nX a0)) {σ σ' : k_St} (h : f_J7_fill_53178 a0 x1 σ = some σ') : k_EV l (k_PX w) yJ7_fill_53178 cJ7_fill_53178 4 d [.ref (w.2.1 a0), .int x1] σ σ' := by
  refine k_of (own := RJ7) rfl (by decide) (Nat.le_of_ble_eq_true rfl) (fun X hX C hr => ?_)
  show k_K (k_PX w) X (k_MQ X (k_Qv (k_PX w) σ') (k_PX w).2.2.1) 0 [(0, .ref (w.2.1 a0)), (1, .int x1)] [] σ
  unfold f_J7_fill_53178 at h
  refine k_iconst C dJ7_fill_53178_0 (v := 0) rfl ?_
  refine k_istore_n C dJ7_fill_53178_1 (by decide) [1, 2, 0] (L' := [(0, .ref (w.2.1 a0)), (1, .int x1), (2, .int (0 : Int32))]) rfl ?_
  refine k_aload_n C dJ7_fill_53178_2 0 rfl ?_
  refine k_alen C dJ7_fill_53178_3 ha0 rfl ?_
  refine k_topi (fun y4 ey4 => ?_)
  replace h := k_nm_e h y4 ey4
  refine k_istore_n C dJ7_fill_53178_4 (by decide) [1, 2, 3, 0] (L' := [(0, .ref (w.2.1 a0)), (1, .int x1), (2, .int (0 : Int32)), (3, .int y4)]) rfl ?_
  obtain ⟨b5, eb5, h⟩ := k_lp_e h
  have K5 : ∀ (n : Nat) (v2_5 : Int32) (s_5 : k_St), k_loop b5 n (v2_5, s_5) = some σ' → k_K (k_PX w) X (k_MQ X (k_Qv (k_PX w) σ') (k_PX w).2.2.1) 5 [(0, .ref (w.2.1 a0)), (1, .int x1), (2, .int v2_5), (3, .int y4)] [] s_5 := by
    intro n
    induction n with
    | zero => intro v2_5 s_5 h; cases h
    | succ n ih5 =>
      intro v2_5 s_5 h
      obtain ⟨g5, eg5, h⟩ := k_lp_s h
      rw [← eg5] at ih5
      rw [eb5] at h
      refine k_iload_n C dJ7_fill_53178_5 2 rfl ?_
      refine k_iload_n C dJ7_fill_53178_6 3 rfl ?_
      refine k_icmp_ge C dJ7_fill_53178_7 (tgt := 20) (by decide) (fun c7 => ?_) (fun c7 => ?_)
      · replace h := k_if_t h c7
        exact k_vret C dJ7_fill_53178_20 hr (Option.some.inj h)
      · replace h := k_if_f h c7
        refine k_aload_n C dJ7_fill_53178_10 0 rfl ?_
        refine k_iload_n C dJ7_fill_53178_11 2 rfl ?_
        refine k_iload_n C dJ7_fill_53178_12 1 rfl ?_
        obtain ⟨q13, h⟩ := k_gd_e h
        refine k_iast C dJ7_fill_53178_13 ha0 q13 ?_
        refine k_st (fun s13 es13 => ?_)
        replace h := k_nm_e h s13 es13
        refine k_iinc C dJ7_fill_53178_14 2 rfl (v := 1) rfl (by decide) [1, 2, 0, 3] (L' := fun z9 => [(0, .ref (w.2.1 a0)), (1, .int x1), (2, .int z9), (3, .int y4)]) (fun z9 => rfl) (fun y14 ey14 => ?_)
        replace h := k_nm_e h y14 ey14
        refine k_goto C dJ7_fill_53178_17 (tgt := 5) (by decide) ?_
        exact ih5 _ _ h
  exact K5 _ _ _ h
def f_J0_coder_7d493 (i0 : Nat) : Option (Int32) :=
  k_if ((1 : Int32) = (0 : Int32))
    (some (1 : Int32))
    (some (0 : Int32))
set_option maxHeartbeats 4000000 in
set_option maxRecDepth 100000 in
theorem e_J0_coder_7d493 {l : Launch} {w : k_WC} {d : Nat} (hd : 2 ≤ d) {i0 : Nat} (hi0 : i0 < 3) {σ : k_St} {r : Int32} (h : f_J0_coder_7d493 i0 = some r) : k_EI l (k_PX w) yJ0_coder_7d493 cJ0_coder_7d493 1 (some .byte) d [.ref (w.2.2.2.2.2 i0)] σ r σ := by
  refine k_of (own := RJ0) rfl (by decide) (Nat.le_of_ble_eq_true rfl) (fun X hX C hr => ?_)
  show k_K (k_PX w) X (k_MQ X (k_Qi (k_PX w) r σ) (k_PX w).2.2.1) 0 [(0, .ref (w.2.2.2.2.2 i0))] [] σ
  unfold f_J0_coder_7d493 at h
  refine k_gs C dJ0_coder_7d493_0 C.fx.2.2.2.2.2.2.2.2.2 k_fJ0_38 ?_
  refine k_if_eq C dJ0_coder_7d493_3 (tgt := 13) (by decide) (fun c3 => ?_) (fun c3 => ?_)
  · replace h := k_if_t h c3
    refine k_iconst C dJ0_coder_7d493_13 (v := 1) rfl ?_
    exact k_bret C dJ0_coder_7d493_14 hr rfl (k_p1 h)
  · replace h := k_if_f h c3
    refine k_aload_n C dJ0_coder_7d493_6 0 rfl ?_
    refine k_sco C dJ0_coder_7d493_7 hi0 k_fJ0_15 ?_
    refine k_goto C dJ0_coder_7d493_10 (tgt := 14) (by decide) ?_
    exact k_bret C dJ0_coder_7d493_14 hr rfl (k_p1 h)
def f_J0_isLatin1_aae02 (i0 : Nat) : Option (Int32) :=
  k_if ((1 : Int32) = (0 : Int32))
    (some (0 : Int32))
    (k_if ((0 : Int32) = (0 : Int32))
      (some (1 : Int32))
      (some (0 : Int32)))
set_option maxHeartbeats 4000000 in
set_option maxRecDepth 100000 in
theorem e_J0_isLatin1_aae02 {l : Launch} {w : k_WC} {d : Nat} (hd : 2 ≤ d) {i0 : Nat} (hi0 : i0 < 3) {σ : k_St} {r : Int32} (h : f_J0_isLatin1_aae02 i0 = some r) : k_EI l (k_PX w) yJ0_isLatin1_aae02 cJ0_isLatin1_aae02 1 (some .boolean) d [.ref (w.2.2.2.2.2 i0)] σ r σ := by
  refine k_of (own := RJ0) rfl (by decide) (Nat.le_of_ble_eq_true rfl) (fun X hX C hr => ?_)
  show k_K (k_PX w) X (k_MQ X (k_Qi (k_PX w) r σ) (k_PX w).2.2.1) 0 [(0, .ref (w.2.2.2.2.2 i0))] [] σ
  unfold f_J0_isLatin1_aae02 at h
  refine k_gs C dJ0_isLatin1_aae02_0 C.fx.2.2.2.2.2.2.2.2.2 k_fJ0_38 ?_
  refine k_if_eq C dJ0_isLatin1_aae02_3 (tgt := 17) (by decide) (fun c3 => ?_) (fun c3 => ?_)
  · replace h := k_if_t h c3
    refine k_iconst C dJ0_isLatin1_aae02_17 (v := 0) rfl ?_
    exact k_zret C dJ0_isLatin1_aae02_18 hr rfl (k_p1 h)
  · replace h := k_if_f h c3
    refine k_aload_n C dJ0_isLatin1_aae02_6 0 rfl ?_
    refine k_sco C dJ0_isLatin1_aae02_7 hi0 k_fJ0_15 ?_
    refine k_if_ne C dJ0_isLatin1_aae02_10 (tgt := 17) (by decide) (fun c10 => ?_) (fun c10 => ?_)
    · replace h := k_if_f h c10
      refine k_iconst C dJ0_isLatin1_aae02_17 (v := 0) rfl ?_
      exact k_zret C dJ0_isLatin1_aae02_18 hr rfl (k_p1 h)
    · replace h := k_if_t h c10
      refine k_iconst C dJ0_isLatin1_aae02_13 (v := 1) rfl ?_
      refine k_goto C dJ0_isLatin1_aae02_14 (tgt := 18) (by decide) ?_
      exact k_zret C dJ0_isLatin1_aae02_18 hr rfl (k_p1 h)
def f_J0_length_8abf5 (i0 : Nat) : Option (Int32) :=
  k_bd (f_J0_coder_7d493 i0) fun v6 =>
  some (o_shr (Int32.ofNat (sc_n i0)) v6)
set_option maxHeartbeats 4000000 in
set_option maxRecDepth 100000 in
theorem e_J0_length_8abf5 {l : Launch} {w : k_WC} {d : Nat} (hd : 3 ≤ d) {i0 : Nat} (hi0 : i0 < 3) {σ : k_St} {r : Int32} (h : f_J0_length_8abf5 i0 = some r) : k_EI l (k_PX w) yJ0_length_8abf5 cJ0_length_8abf5 1 (some .int) d [.ref (w.2.2.2.2.2 i0)] σ r σ := by
  refine k_of (own := RJ0) rfl (by decide) (Nat.le_of_ble_eq_true rfl) (fun X hX C hr => ?_)
  show k_K (k_PX w) X (k_MQ X (k_Qi (k_PX w) r σ) (k_PX w).2.2.1) 0 [(0, .ref (w.2.2.2.2.2 i0))] [] σ
  unfold f_J0_length_8abf5 at h
  refine k_aload_n C dJ0_length_8abf5_0 0 rfl ?_
  refine k_sva C dJ0_length_8abf5_1 hi0 k_fJ0_9 ?_
  refine k_stlen C dJ0_length_8abf5_4 hi0 ?_
  refine k_aload_n C dJ0_length_8abf5_5 0 rfl ?_
  obtain ⟨v6, h6, h⟩ := k_bd_e h
  refine k_goI (k_runVS C dJ0_length_8abf5_6 (e_J0_coder_7d493 (d := 2) (Nat.le_refl _) hi0 h6) hi0 k_lJ0_335 k_yJ0_coder_7d493 (by omega) rfl (Nat.le_of_ble_eq_true rfl)) ?_
  refine k_ishr C dJ0_length_8abf5_9 ?_
  exact k_iret C dJ0_length_8abf5_10 hr (k_p1 h)
def f_J1_canEncode_9a6ad (x0 : Int32) : Option (Int32) :=
  k_if (x0 < (0 : Int32))
    (some (0 : Int32))
    (k_if ((255 : Int32) < x0)
      (some (0 : Int32))
      (some (1 : Int32)))
set_option maxHeartbeats 4000000 in
set_option maxRecDepth 100000 in
theorem e_J1_canEncode_9a6ad {l : Launch} {w : k_WC} {d : Nat} (hd : 2 ≤ d) {x0 : Int32}  {σ : k_St} {r : Int32} (h : f_J1_canEncode_9a6ad x0 = some r) : k_EI l (k_PX w) yJ1_canEncode_9a6ad cJ1_canEncode_9a6ad 1 (some .boolean) d [.int x0] σ r σ := by
  refine k_of (own := RJ1) rfl (by decide) (Nat.le_of_ble_eq_true rfl) (fun X hX C hr => ?_)
  show k_K (k_PX w) X (k_MQ X (k_Qi (k_PX w) r σ) (k_PX w).2.2.1) 0 [(0, .int x0)] [] σ
  unfold f_J1_canEncode_9a6ad at h
  refine k_iload_n C dJ1_canEncode_9a6ad_0 0 rfl ?_
  refine k_if_lt C dJ1_canEncode_9a6ad_1 (tgt := 15) (by decide) (fun c1 => ?_) (fun c1 => ?_)
  · replace h := k_if_t h c1
    refine k_iconst C dJ1_canEncode_9a6ad_15 (v := 0) rfl ?_
    exact k_zret C dJ1_canEncode_9a6ad_16 hr rfl (k_p1 h)
  · replace h := k_if_f h c1
    refine k_iload_n C dJ1_canEncode_9a6ad_4 0 rfl ?_
    refine k_sipush C dJ1_canEncode_9a6ad_5 (v := 255) rfl ?_
    refine k_icmp_gt C dJ1_canEncode_9a6ad_8 (tgt := 15) (by decide) (fun c8 => ?_) (fun c8 => ?_)
    · replace h := k_if_t h c8
      refine k_iconst C dJ1_canEncode_9a6ad_15 (v := 0) rfl ?_
      exact k_zret C dJ1_canEncode_9a6ad_16 hr rfl (k_p1 h)
    · replace h := k_if_f h c8
      refine k_iconst C dJ1_canEncode_9a6ad_11 (v := 1) rfl ?_
      refine k_goto C dJ1_canEncode_9a6ad_12 (tgt := 16) (by decide) ?_
      exact k_zret C dJ1_canEncode_9a6ad_16 hr rfl (k_p1 h)
def f_J1_indexOfChar_4cfef (i0 : Nat) (x1 : Int32) (x2 : Int32) (x3 : Int32) (σ : k_St) : Option (Int32) :=
  k_nm ((o_i2b x1)) fun y2 =>
  k_loop (fun (g7 : Int32 → Option (Int32)) (z7 : Int32) => match z7 with
    | v5_7 =>
      k_if (x3 ≤ v5_7)
        (some (-1 : Int32))
        (k_gd (k_ix v5_7 (sc_n i0) = true) <|
        k_if ((sc_v i0 v5_7.toNatClampNeg) = y2)
          (some v5_7)
          (k_nm (v5_7 + (1 : Int32)) fun y25 =>
          g7 y25))) 100000 x2
set_option maxHeartbeats 4000000 in
set_option maxRecDepth 100000 in
theorem e_J1_indexOfChar_4cfef {l : Launch} {w : k_WC} {d : Nat} (hd : 2 ≤ d) {i0 : Nat} {x1 : Int32} {x2 : Int32} {x3 : Int32} (hi0 : i0 < 3) {σ : k_St} {r : Int32} (h : f_J1_indexOfChar_4cfef i0 x1 x2 x3 σ = some r) : k_EI l (k_PX w) yJ1_indexOfChar_4cfef cJ1_indexOfChar_4cfef 6 (some .int) d [.ref (w.2.2.2.2.2 (i0 + 3)), .int x1, .int x2, .int x3] σ r σ := by
  refine k_of (own := RJ1) rfl (by decide) (Nat.le_of_ble_eq_true rfl) (fun X hX C hr => ?_)
  show k_K (k_PX w) X (k_MQ X (k_Qi (k_PX w) r σ) (k_PX w).2.2.1) 0 [(0, .ref (w.2.2.2.2.2 (i0 + 3))), (1, .int x1), (2, .int x2), (3, .int x3)] [] σ
  unfold f_J1_indexOfChar_4cfef at h
  refine k_iload_n C dJ1_indexOfChar_4cfef_0 1 rfl ?_
  refine k_i2b C dJ1_indexOfChar_4cfef_1 ?_
  refine k_topi (fun y2 ey2 => ?_)
  replace h := k_nm_e h y2 ey2
  refine k_istore C dJ1_indexOfChar_4cfef_2 (by decide) [1, 2, 3, 4, 0] (L' := [(0, .ref (w.2.2.2.2.2 (i0 + 3))), (1, .int x1), (2, .int x2), (3, .int x3), (4, .int y2)]) rfl ?_
  refine k_iload_n C dJ1_indexOfChar_4cfef_4 2 rfl ?_
  refine k_istore C dJ1_indexOfChar_4cfef_5 (by decide) [1, 2, 3, 4, 5, 0] (L' := [(0, .ref (w.2.2.2.2.2 (i0 + 3))), (1, .int x1), (2, .int x2), (3, .int x3), (4, .int y2), (5, .int x2)]) rfl ?_
  obtain ⟨b7, eb7, h⟩ := k_lp_e h
  have K7 : ∀ (n : Nat) (v5_7 : Int32), k_loop b7 n v5_7 = some r → k_K (k_PX w) X (k_MQ X (k_Qi (k_PX w) r σ) (k_PX w).2.2.1) 7 [(0, .ref (w.2.2.2.2.2 (i0 + 3))), (3, .int x3), (4, .int y2), (5, .int v5_7)] [] σ := by
    intro n
    induction n with
    | zero => intro v5_7 h; cases h
    | succ n ih7 =>
      intro v5_7 h
      obtain ⟨g7, eg7, h⟩ := k_lp_s h
      rw [← eg7] at ih7
      rw [eb7] at h
      refine k_iload C dJ1_indexOfChar_4cfef_7 3 rfl ?_
      refine k_iload_n C dJ1_indexOfChar_4cfef_9 1 rfl ?_
      refine k_icmp_ge C dJ1_indexOfChar_4cfef_10 (tgt := 31) (by decide) (fun c10 => ?_) (fun c10 => ?_)
      · replace h := k_if_t h c10
        refine k_iconst C dJ1_indexOfChar_4cfef_31 (v := -1) rfl ?_
        exact k_iret C dJ1_indexOfChar_4cfef_32 hr (k_p1 h)
      · replace h := k_if_f h c10
        refine k_aload_n C dJ1_indexOfChar_4cfef_13 0 rfl ?_
        refine k_iload C dJ1_indexOfChar_4cfef_14 3 rfl ?_
        obtain ⟨q16, h⟩ := k_gd_e h
        refine k_stb C dJ1_indexOfChar_4cfef_16 hi0 q16 ?_
        refine k_iload C dJ1_indexOfChar_4cfef_17 2 rfl ?_
        refine k_icmp_ne C dJ1_indexOfChar_4cfef_19 (tgt := 25) (by decide) (fun c19 => ?_) (fun c19 => ?_)
        · replace h := k_if_f h c19
          refine k_iinc C dJ1_indexOfChar_4cfef_25 3 rfl (v := 1) rfl (by decide) [1, 2, 3, 0] (L' := fun z9 => [(0, .ref (w.2.2.2.2.2 (i0 + 3))), (3, .int x3), (4, .int y2), (5, .int z9)]) (fun z9 => rfl) (fun y25 ey25 => ?_)
          replace h := k_nm_e h y25 ey25
          refine k_goto C dJ1_indexOfChar_4cfef_28 (tgt := 7) (by decide) ?_
          exact ih7 _ h
        · replace h := k_if_t h c19
          refine k_iload C dJ1_indexOfChar_4cfef_22 3 rfl ?_
          exact k_iret C dJ1_indexOfChar_4cfef_24 hr (k_p1 h)
  refine k_sub (L' := [(0, .ref (w.2.2.2.2.2 (i0 + 3))), (3, .int x3), (4, .int y2), (5, .int x2)]) [0, 3, 4, 5] rfl ?_
  exact K7 _ _ h
def f_J1_indexOf_4cfef (i0 : Nat) (x1 : Int32) (x2 : Int32) (x3 : Int32) (σ : k_St) : Option (Int32) :=
  k_bd (f_J1_canEncode_9a6ad x1) fun v1 =>
  k_if (v1 = (0 : Int32))
    (some (-1 : Int32))
    (k_nm ((o_max x2 (0 : Int32))) fun y14 =>
    k_nm ((o_min x3 (Int32.ofNat (sc_n i0)))) fun y21 =>
    k_if (y14 < y21)
      (k_bd (f_J1_indexOfChar_4cfef i0 x1 y14 y21 σ) fun v33 =>
      some v33)
      (some (-1 : Int32)))
set_option maxHeartbeats 4000000 in
set_option maxRecDepth 100000 in
theorem e_J1_indexOf_4cfef {l : Launch} {w : k_WC} {d : Nat} (hd : 3 ≤ d) {i0 : Nat} {x1 : Int32} {x2 : Int32} {x3 : Int32} (hi0 : i0 < 3) {σ : k_St} {r : Int32} (h : f_J1_indexOf_4cfef i0 x1 x2 x3 σ = some r) : k_EI l (k_PX w) yJ1_indexOf_4cfef cJ1_indexOf_4cfef 4 (some .int) d [.ref (w.2.2.2.2.2 (i0 + 3)), .int x1, .int x2, .int x3] σ r σ := by
  refine k_of (own := RJ1) rfl (by decide) (Nat.le_of_ble_eq_true rfl) (fun X hX C hr => ?_)
  show k_K (k_PX w) X (k_MQ X (k_Qi (k_PX w) r σ) (k_PX w).2.2.1) 0 [(0, .ref (w.2.2.2.2.2 (i0 + 3))), (1, .int x1), (2, .int x2), (3, .int x3)] [] σ
  unfold f_J1_indexOf_4cfef at h
  refine k_iload_n C dJ1_indexOf_4cfef_0 1 rfl ?_
  obtain ⟨v1, h1, h⟩ := k_bd_e h
  refine k_goI (k_runS C dJ1_indexOf_4cfef_1 (e_J1_canEncode_9a6ad (d := 2) (Nat.le_refl _) h1) k_lJ1_88 k_yJ1_canEncode_9a6ad (by omega) rfl (Nat.le_of_ble_eq_true rfl)) ?_
  refine k_if_ne C dJ1_indexOf_4cfef_4 (tgt := 9) (by decide) (fun c4 => ?_) (fun c4 => ?_)
  · replace h := k_if_f h c4
    refine k_iload_n C dJ1_indexOf_4cfef_9 2 rfl ?_
    refine k_iconst C dJ1_indexOf_4cfef_10 (v := 0) rfl ?_
    refine k_mmax C dJ1_indexOf_4cfef_11 k_lJ1_92 k_ym_max (by omega) (Nat.le_of_ble_eq_true rfl) ?_
    refine k_topi (fun y14 ey14 => ?_)
    replace h := k_nm_e h y14 ey14
    refine k_istore_n C dJ1_indexOf_4cfef_14 (by decide) [1, 2, 0, 3] (L' := [(0, .ref (w.2.2.2.2.2 (i0 + 3))), (1, .int x1), (2, .int y14), (3, .int x3)]) rfl ?_
    refine k_iload_n C dJ1_indexOf_4cfef_15 3 rfl ?_
    refine k_aload_n C dJ1_indexOf_4cfef_16 0 rfl ?_
    refine k_stlen C dJ1_indexOf_4cfef_17 hi0 ?_
    refine k_mmin C dJ1_indexOf_4cfef_18 k_lJ1_38 k_ym_min (by omega) (Nat.le_of_ble_eq_true rfl) ?_
    refine k_topi (fun y21 ey21 => ?_)
    replace h := k_nm_e h y21 ey21
    refine k_istore_n C dJ1_indexOf_4cfef_21 (by decide) [1, 2, 3, 0] (L' := [(0, .ref (w.2.2.2.2.2 (i0 + 3))), (1, .int x1), (2, .int y14), (3, .int y21)]) rfl ?_
    refine k_iload_n C dJ1_indexOf_4cfef_22 2 rfl ?_
    refine k_iload_n C dJ1_indexOf_4cfef_23 3 rfl ?_
    refine k_icmp_lt C dJ1_indexOf_4cfef_24 (tgt := 29) (by decide) (fun c24 => ?_) (fun c24 => ?_)
    · replace h := k_if_t h c24
      refine k_aload_n C dJ1_indexOf_4cfef_29 0 rfl ?_
      refine k_iload_n C dJ1_indexOf_4cfef_30 1 rfl ?_
      refine k_iload_n C dJ1_indexOf_4cfef_31 2 rfl ?_
      refine k_iload_n C dJ1_indexOf_4cfef_32 3 rfl ?_
      obtain ⟨v33, h33, h⟩ := k_bd_e h
      refine k_goI (k_runS C dJ1_indexOf_4cfef_33 (e_J1_indexOfChar_4cfef (d := 2) (Nat.le_refl _) hi0 h33) k_lJ1_95 k_yJ1_indexOfChar_4cfef (by omega) rfl (Nat.le_of_ble_eq_true rfl)) ?_
      exact k_iret C dJ1_indexOf_4cfef_36 hr (k_p1 h)
    · replace h := k_if_f h c24
      refine k_iconst C dJ1_indexOf_4cfef_27 (v := -1) rfl ?_
      exact k_iret C dJ1_indexOf_4cfef_28 hr (k_p1 h)
  · replace h := k_if_t h c4
    refine k_iconst C dJ1_indexOf_4cfef_7 (v := -1) rfl ?_
    exact k_iret C dJ1_indexOf_4cfef_8 hr (k_p1 h)
def f_J0_indexOf_7cf53 (i0 : Nat) (x1 : Int32) (x2 : Int32) (σ : k_St) : Option (Int32) :=
  k_bd (f_J0_isLatin1_aae02 i0) fun v1 =>
  k_if (v1 = (0 : Int32))
    (none)
    (k_bd (f_J0_length_8abf5 i0) fun v14 =>
    k_bd (f_J1_indexOf_4cfef i0 x1 x2 v14 σ) fun v17 =>
    some v17)
set_option maxHeartbeats 4000000 in
set_option maxRecDepth 100000 in
theorem e_J0_indexOf_7cf53 {l : Launch} {w : k_WC} {d : Nat} (hd : 4 ≤ d) {i0 : Nat} {x1 : Int32} {x2 : Int32} (hi0 : i0 < 3) {σ : k_St} {r : Int32} (h : f_J0_indexOf_7cf53 i0 x1 x2 σ = some r) : k_EI l (k_PX w) yJ0_indexOf_7cf53 cJ0_indexOf_7cf53 3 (some .int) d [.ref (w.2.2.2.2.2 i0), .int x1, .int x2] σ r σ := by
  refine k_of (own := RJ0) rfl (by decide) (Nat.le_of_ble_eq_true rfl) (fun X hX C hr => ?_)
  show k_K (k_PX w) X (k_MQ X (k_Qi (k_PX w) r σ) (k_PX w).2.2.1) 0 [(0, .ref (w.2.2.2.2.2 i0)), (1, .int x1), (2, .int x2)] [] σ
  unfold f_J0_indexOf_7cf53 at h
  refine k_aload_n C dJ0_indexOf_7cf53_0 0 rfl ?_
  obtain ⟨v1, h1, h⟩ := k_bd_e h
  refine k_goI (k_runVS C dJ0_indexOf_7cf53_1 (e_J0_isLatin1_aae02 (d := 2) (Nat.le_refl _) hi0 h1) hi0 k_lJ0_492 k_yJ0_isLatin1_aae02 (by omega) rfl (Nat.le_of_ble_eq_true rfl)) ?_
  refine k_if_eq C dJ0_indexOf_7cf53_4 (tgt := 23) (by decide) (fun c4 => ?_) (fun c4 => ?_)
  · replace h := k_if_t h c4
    cases h
  · replace h := k_if_f h c4
    refine k_aload_n C dJ0_indexOf_7cf53_7 0 rfl ?_
    refine k_sva C dJ0_indexOf_7cf53_8 hi0 k_fJ0_9 ?_
    refine k_iload_n C dJ0_indexOf_7cf53_11 1 rfl ?_
    refine k_iload_n C dJ0_indexOf_7cf53_12 2 rfl ?_
    refine k_aload_n C dJ0_indexOf_7cf53_13 0 rfl ?_
    obtain ⟨v14, h14, h⟩ := k_bd_e h
    refine k_goI (k_runVS C dJ0_indexOf_7cf53_14 (e_J0_length_8abf5 (d := 3) (Nat.le_refl _) hi0 h14) hi0 k_lJ0_505 k_yJ0_length_8abf5 (by omega) rfl (Nat.le_of_ble_eq_true rfl)) ?_
    obtain ⟨v17, h17, h⟩ := k_bd_e h
    refine k_goI (k_runS C dJ0_indexOf_7cf53_17 (e_J1_indexOf_4cfef (d := 3) (Nat.le_refl _) hi0 h17) k_lJ0_637 k_yJ1_indexOf_4cfef (by omega) rfl (Nat.le_of_ble_eq_true rfl)) ?_
    refine k_goto C dJ0_indexOf_7cf53_20 (tgt := 36) (by decide) ?_
    exact k_iret C dJ0_indexOf_7cf53_36 hr (k_p1 h)
def f_J0_indexOf_0f7a4 (i0 : Nat) (x1 : Int32) (σ : k_St) : Option (Int32) :=
  k_bd (f_J0_indexOf_7cf53 i0 x1 (0 : Int32) σ) fun v3 =>
  some v3
set_option maxHeartbeats 4000000 in
set_option maxRecDepth 100000 in
theorem e_J0_indexOf_0f7a4 {l : Launch} {w : k_WC} {d : Nat} (hd : 5 ≤ d) {i0 : Nat} {x1 : Int32} (hi0 : i0 < 3) {σ : k_St} {r : Int32} (h : f_J0_indexOf_0f7a4 i0 x1 σ = some r) : k_EI l (k_PX w) yJ0_indexOf_0f7a4 cJ0_indexOf_0f7a4 2 (some .int) d [.ref (w.2.2.2.2.2 i0), .int x1] σ r σ := by
  refine k_of (own := RJ0) rfl (by decide) (Nat.le_of_ble_eq_true rfl) (fun X hX C hr => ?_)
  show k_K (k_PX w) X (k_MQ X (k_Qi (k_PX w) r σ) (k_PX w).2.2.1) 0 [(0, .ref (w.2.2.2.2.2 i0)), (1, .int x1)] [] σ
  unfold f_J0_indexOf_0f7a4 at h
  refine k_aload_n C dJ0_indexOf_0f7a4_0 0 rfl ?_
  refine k_iload_n C dJ0_indexOf_0f7a4_1 1 rfl ?_
  refine k_iconst C dJ0_indexOf_0f7a4_2 (v := 0) rfl ?_
  obtain ⟨v3, h3, h⟩ := k_bd_e h
  refine k_goI (k_runVS C dJ0_indexOf_0f7a4_3 (e_J0_indexOf_7cf53 (d := 4) (Nat.le_refl _) hi0 h3) hi0 k_lJ0_633 k_yJ0_indexOf_7cf53 (by omega) rfl (Nat.le_of_ble_eq_true rfl)) ?_
  exact k_iret C dJ0_indexOf_0f7a4_6 hr (k_p1 h)
