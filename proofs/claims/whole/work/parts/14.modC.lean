def f_X12_weather (x1 : Int32) (x2 : Int32) (x3 : Int32) (σ : k_St) : Option (Int64 × k_St) :=
  k_if ((k_rd σ 0 21) = (0 : Int32))
    (some ((-1 : Int64), σ))
    (k_bd (f_X12_in x1 (0 : Int32) (100 : Int32)) fun v11 =>
    k_if (v11 = (0 : Int32))
      (some ((-1 : Int64), σ))
      (k_bd (f_X12_in x2 (0 : Int32) (100 : Int32)) fun v21 =>
      k_if (v21 = (0 : Int32))
        (some ((-1 : Int64), σ))
        (k_bd (f_X12_in x3 (0 : Int32) (1 : Int32)) fun v30 =>
        k_if (v30 = (0 : Int32))
          (some ((-1 : Int64), σ))
          (k_nm ((k_rd σ 0 26)) fun y44 =>
          k_nm ((k_rd σ 0 27)) fun y50 =>
          k_loop (fun (g58 : Int64 × Int32 × k_St → Option (Int64 × k_St)) (z58 : Int64 × Int32 × k_St) => match z58 with
            | (v6_58, v8_58, s_58) =>
              k_if ((4 : Int32) ≤ v8_58)
                (k_gd (o_isB y44 = true) <|
                k_nm (k_wr s_58 0 26 y44) fun s161 =>
                k_gd (o_isB y50 = true) <|
                k_nm (k_wr s161 0 27 y50) fun s167 =>
                k_bd (f_X12_belowBy (3 : Int32) s167) fun v174 =>
                k_bd (f_X12_plainLong v6_58 v174 x3) fun v178 =>
                some (v178, s167))
                (k_jn (fun (t1_78 : Int32) =>
                  k_gd (o_isB t1_78 = true) <|
                  k_nm (k_wr s_58 0 26 t1_78) fun s78 =>
                  k_jn (fun (t1_93 : Int32) =>
                    k_gd (o_isB t1_93 = true) <|
                    k_nm (k_wr s78 0 27 t1_93) fun s93 =>
                    k_bd (f_X12_layBrings 14 s93) fun s101 =>
                    k_jn (fun (t1_121 : Int32) =>
                      k_jn (fun (t2_137 : Int32) =>
                        k_bd (f_X12_sumBy 15 s101) fun v144 =>
                        k_nm ((v6_58 + ((t1_121.toInt64 * t2_137.toInt64) * v144.toInt64))) fun y150 =>
                        k_nm (v8_58 + (1 : Int32)) fun y152 =>
                        g58 (y150, y152, s101)) fun j137 =>
                      k_if ((k_rd s101 0 27) = (0 : Int32))
                        (j137 ((100 : Int32) - x2))
                        (j137 x2)) fun j121 =>
                    k_if ((k_rd s101 0 26) = (0 : Int32))
                      (j121 ((100 : Int32) - x1))
                      (j121 x1)) fun j93 =>
                  k_if (v8_58 ≤ (1 : Int32))
                    (j93 (0 : Int32))
                    (j93 (1 : Int32))) fun j78 =>
                k_if ((o_rem v8_58 (2 : Int32)) = (1 : Int32))
                  (j78 (1 : Int32))
                  (j78 (0 : Int32)))) 100000 ((0 : Int64), (0 : Int32), σ)))))
set_option maxHeartbeats 4000000 in
set_option maxRecDepth 100000 in
theorem e_X12_weather {l : Launch} {w : k_WC} {d : Nat} (hd : 205 ≤ d) {x1 : Int32} {x2 : Int32} {x3 : Int32}  {σ σ' : k_St} {r : Int64} (h : f_X12_weather x1 x2 x3 σ = some (r, σ')) : k_EL l (k_PM w) yX12_weather cX12_weather 9 d [.ref (w.2.1 0), .int x1, .int x2, .int x3] σ r σ' := by
  refine k_of (own := RX12) rfl (by decide) (Nat.le_of_ble_eq_true rfl) (fun X hX C hr => ?_)
  show k_K (k_PM w) X (k_MQ X (k_Ql (k_PM w) r σ') (k_PM w).2.2.1) 0 [(0, .ref (w.2.1 0)), (1, .int x1), (2, .int x2), (3, .int x3)] [] σ
  unfold f_X12_weather at h
  refine k_aload_n C dX12_weather_0 0 rfl ?_
  refine k_get C dX12_weather_1 (k_gM0_21 w) k_fX12_306 (Or.inl rfl) ?_
  refine k_if_eq C dX12_weather_4 (tgt := 36) (by decide) (fun c4 => ?_) (fun c4 => ?_)
  · replace h := k_if_t h c4
    refine k_ldc2 C dX12_weather_36 k_cX12_449 ?_
    exact k_lret C dX12_weather_39 hr (Option.some.inj h)
  · replace h := k_if_f h c4
    refine k_iload_n C dX12_weather_7 1 rfl ?_
    refine k_iconst C dX12_weather_8 (v := 0) rfl ?_
    refine k_bipush C dX12_weather_9 (v := 100) rfl ?_
    obtain ⟨v11, h11, h⟩ := k_bd_e h
    refine k_goI (k_runS C dX12_weather_11 (e_X12_in (d := 2) (Nat.le_refl _) h11) k_lX12_269 k_yX12_in (by omega) rfl (Nat.le_of_ble_eq_true rfl)) ?_
    refine k_if_eq C dX12_weather_14 (tgt := 36) (by decide) (fun c14 => ?_) (fun c14 => ?_)
    · replace h := k_if_t h c14
      refine k_ldc2 C dX12_weather_36 k_cX12_449 ?_
      exact k_lret C dX12_weather_39 hr (Option.some.inj h)
    · replace h := k_if_f h c14
      refine k_iload_n C dX12_weather_17 2 rfl ?_
      refine k_iconst C dX12_weather_18 (v := 0) rfl ?_
      refine k_bipush C dX12_weather_19 (v := 100) rfl ?_
      obtain ⟨v21, h21, h⟩ := k_bd_e h
      refine k_goI (k_runS C dX12_weather_21 (e_X12_in (d := 2) (Nat.le_refl _) h21) k_lX12_269 k_yX12_in (by omega) rfl (Nat.le_of_ble_eq_true rfl)) ?_
      refine k_if_eq C dX12_weather_24 (tgt := 36) (by decide) (fun c24 => ?_) (fun c24 => ?_)
      · replace h := k_if_t h c24
        refine k_ldc2 C dX12_weather_36 k_cX12_449 ?_
        exact k_lret C dX12_weather_39 hr (Option.some.inj h)
      · replace h := k_if_f h c24
        refine k_iload_n C dX12_weather_27 3 rfl ?_
        refine k_iconst C dX12_weather_28 (v := 0) rfl ?_
        refine k_iconst C dX12_weather_29 (v := 1) rfl ?_
        obtain ⟨v30, h30, h⟩ := k_bd_e h
        refine k_goI (k_runS C dX12_weather_30 (e_X12_in (d := 2) (Nat.le_refl _) h30) k_lX12_269 k_yX12_in (by omega) rfl (Nat.le_of_ble_eq_true rfl)) ?_
        refine k_if_ne C dX12_weather_33 (tgt := 40) (by decide) (fun c33 => ?_) (fun c33 => ?_)
        · replace h := k_if_f h c33
          refine k_aload_n C dX12_weather_40 0 rfl ?_
          refine k_get C dX12_weather_41 (k_gM0_26 w) k_fX12_315 (Or.inl rfl) ?_
          refine k_topi (fun y44 ey44 => ?_)
          replace h := k_nm_e h y44 ey44
          refine k_istore C dX12_weather_44 (by decide) [1, 2, 3, 4, 0] (L' := [(0, .ref (w.2.1 0)), (1, .int x1), (2, .int x2), (3, .int x3), (4, .int y44)]) rfl ?_
          refine k_aload_n C dX12_weather_46 0 rfl ?_
          refine k_get C dX12_weather_47 (k_gM0_27 w) k_fX12_319 (Or.inl rfl) ?_
          refine k_topi (fun y50 ey50 => ?_)
          replace h := k_nm_e h y50 ey50
          refine k_istore C dX12_weather_50 (by decide) [1, 2, 3, 4, 5, 0] (L' := [(0, .ref (w.2.1 0)), (1, .int x1), (2, .int x2), (3, .int x3), (4, .int y44), (5, .int y50)]) rfl ?_
          refine k_lconst C dX12_weather_52 (v := 0) rfl ?_
          refine k_lstore C dX12_weather_53 (by decide) [1, 2, 3, 4, 5, 6, 0] (L' := [(0, .ref (w.2.1 0)), (1, .int x1), (2, .int x2), (3, .int x3), (4, .int y44), (5, .int y50), (6, .long (0 : Int64))]) rfl ?_
          refine k_iconst C dX12_weather_55 (v := 0) rfl ?_
          refine k_istore C dX12_weather_56 (by decide) [1, 2, 3, 4, 5, 6, 7, 0] (L' := [(0, .ref (w.2.1 0)), (1, .int x1), (2, .int x2), (3, .int x3), (4, .int y44), (5, .int y50), (6, .long (0 : Int64)), (8, .int (0 : Int32))]) rfl ?_
          obtain ⟨b58, eb58, h⟩ := k_lp_e h
          have K58 : ∀ (n : Nat) (v6_58 : Int64) (v8_58 : Int32) (s_58 : k_St), k_loop b58 n (v6_58, v8_58, s_58) = some (r, σ') → k_K (k_PM w) X (k_MQ X (k_Ql (k_PM w) r σ') (k_PM w).2.2.1) 58 [(0, .ref (w.2.1 0)), (1, .int x1), (2, .int x2), (3, .int x3), (4, .int y44), (5, .int y50), (6, .long v6_58), (8, .int v8_58)] [] s_58 := by
            intro n
            induction n with
            | zero => intro v6_58 v8_58 s_58 h; cases h
            | succ n ih58 =>
              intro v6_58 v8_58 s_58 h
              obtain ⟨g58, eg58, h⟩ := k_lp_s h
              rw [← eg58] at ih58
              rw [eb58] at h
              refine k_iload C dX12_weather_58 7 rfl ?_
              refine k_iconst C dX12_weather_60 (v := 4) rfl ?_
              refine k_icmp_ge C dX12_weather_61 (tgt := 158) (by decide) (fun c61 => ?_) (fun c61 => ?_)
              · replace h := k_if_t h c61
                refine k_aload_n C dX12_weather_158 0 rfl ?_
                refine k_iload C dX12_weather_159 4 rfl ?_
                obtain ⟨r161, h⟩ := k_gd_e h
                refine k_puti C dX12_weather_161 (k_pM0_26 w) k_fX12_315 (Or.inl rfl) (k_xz r161) ?_
                refine k_st (fun s161 es161 => ?_)
                replace h := k_nm_e h s161 es161
                refine k_aload_n C dX12_weather_164 0 rfl ?_
                refine k_iload C dX12_weather_165 5 rfl ?_
                obtain ⟨r167, h⟩ := k_gd_e h
                refine k_puti C dX12_weather_167 (k_pM0_27 w) k_fX12_319 (Or.inl rfl) (k_xz r167) ?_
                refine k_st (fun s167 es167 => ?_)
                replace h := k_nm_e h s167 es167
                refine k_lload C dX12_weather_170 6 rfl ?_
                refine k_aload_n C dX12_weather_172 0 rfl ?_
                refine k_iconst C dX12_weather_173 (v := 3) rfl ?_
                obtain ⟨v174, h174, h⟩ := k_bd_e h
                refine k_goL (k_runV C dX12_weather_174 (e_X12_belowBy (d := 4) (Nat.le_refl _) h174) k_lX12_455 k_yX12_belowBy (k_oM0 w) (by omega) rfl (Nat.le_of_ble_eq_true rfl)) ?_
                refine k_iload_n C dX12_weather_177 3 rfl ?_
                obtain ⟨v178, h178, h⟩ := k_bd_e h
                refine k_goL (k_runS C dX12_weather_178 (e_X12_plainLong (d := 204) (Nat.le_refl _) h178) k_lX12_459 k_yX12_plainLong (by omega) rfl (Nat.le_of_ble_eq_true rfl)) ?_
                exact k_lret C dX12_weather_181 hr (Option.some.inj h)
              · replace h := k_if_f h c61
                refine k_aload_n C dX12_weather_64 0 rfl ?_
                refine k_iload C dX12_weather_65 7 rfl ?_
                refine k_iconst C dX12_weather_67 (v := 2) rfl ?_
                refine k_irem C dX12_weather_68 (by decide) ?_
                refine k_iconst C dX12_weather_69 (v := 1) rfl ?_
                obtain ⟨j78, ej78, h⟩ := k_jn_e h
                have Jj78 : ∀ (t1_78 : Int32), j78 t1_78 = some (r, σ') → k_K (k_PM w) X (k_MQ X (k_Ql (k_PM w) r σ') (k_PM w).2.2.1) 78 [(0, .ref (w.2.1 0)), (1, .int x1), (2, .int x2), (3, .int x3), (4, .int y44), (5, .int y50), (6, .long v6_58), (8, .int v8_58)] [.int t1_78, .ref (w.2.1 0)] s_58 := by
                  intro t1_78 h
                  rw [ej78] at h
                  obtain ⟨r78, h⟩ := k_gd_e h
                  refine k_puti C dX12_weather_78 (k_pM0_26 w) k_fX12_315 (Or.inl rfl) (k_xz r78) ?_
                  refine k_st (fun s78 es78 => ?_)
                  replace h := k_nm_e h s78 es78
                  refine k_aload_n C dX12_weather_81 0 rfl ?_
                  refine k_iload C dX12_weather_82 7 rfl ?_
                  refine k_iconst C dX12_weather_84 (v := 1) rfl ?_
                  obtain ⟨j93, ej93, h⟩ := k_jn_e h
                  have Jj93 : ∀ (t1_93 : Int32), j93 t1_93 = some (r, σ') → k_K (k_PM w) X (k_MQ X (k_Ql (k_PM w) r σ') (k_PM w).2.2.1) 93 [(0, .ref (w.2.1 0)), (1, .int x1), (2, .int x2), (3, .int x3), (4, .int y44), (5, .int y50), (6, .long v6_58), (8, .int v8_58)] [.int t1_93, .ref (w.2.1 0)] s78 := by
                    intro t1_93 h
                    rw [ej93] at h
                    obtain ⟨r93, h⟩ := k_gd_e h
                    refine k_puti C dX12_weather_93 (k_pM0_27 w) k_fX12_319 (Or.inl rfl) (k_xz r93) ?_
                    refine k_st (fun s93 es93 => ?_)
                    replace h := k_nm_e h s93 es93
                    refine k_aload_n C dX12_weather_96 0 rfl ?_
                    refine k_aload_n C dX12_weather_97 0 rfl ?_
                    refine k_get C dX12_weather_98 (k_gM0_24 w) k_fX12_49 (Or.inl rfl) ?_
                    obtain ⟨s101, h101, h⟩ := k_bd_e h
                    refine k_goV (k_runV C dX12_weather_101 (e_X12_layBrings (d := 8) (Nat.le_refl _) (k_aM14 w) h101) k_lX12_378 k_yX12_layBrings (k_oM0 w) (by omega) rfl (Nat.le_of_ble_eq_true rfl)) ?_
                    refine k_lload C dX12_weather_104 6 rfl ?_
                    refine k_aload_n C dX12_weather_106 0 rfl ?_
                    refine k_get C dX12_weather_107 (k_gM0_26 w) k_fX12_315 (Or.inl rfl) ?_
                    obtain ⟨j121, ej121, h⟩ := k_jn_e h
                    have Jj121 : ∀ (t1_121 : Int32), j121 t1_121 = some (r, σ') → k_K (k_PM w) X (k_MQ X (k_Ql (k_PM w) r σ') (k_PM w).2.2.1) 121 [(0, .ref (w.2.1 0)), (1, .int x1), (2, .int x2), (3, .int x3), (4, .int y44), (5, .int y50), (8, .int v8_58)] [.int t1_121, .long v6_58] s101 := by
                      intro t1_121 h
                      rw [ej121] at h
                      refine k_i2l C dX12_weather_121 ?_
                      refine k_aload_n C dX12_weather_122 0 rfl ?_
                      refine k_get C dX12_weather_123 (k_gM0_27 w) k_fX12_319 (Or.inl rfl) ?_
                      obtain ⟨j137, ej137, h⟩ := k_jn_e h
                      have Jj137 : ∀ (t2_137 : Int32), j137 t2_137 = some (r, σ') → k_K (k_PM w) X (k_MQ X (k_Ql (k_PM w) r σ') (k_PM w).2.2.1) 137 [(0, .ref (w.2.1 0)), (1, .int x1), (2, .int x2), (3, .int x3), (4, .int y44), (5, .int y50), (8, .int v8_58)] [.int t2_137, .long t1_121.toInt64, .long v6_58] s101 := by
                        intro t2_137 h
                        rw [ej137] at h
                        refine k_i2l C dX12_weather_137 ?_
                        refine k_lmul C dX12_weather_138 ?_
                        refine k_aload_n C dX12_weather_139 0 rfl ?_
                        refine k_aload_n C dX12_weather_140 0 rfl ?_
                        refine k_get C dX12_weather_141 (k_gM0_25 w) k_fX12_52 (Or.inl rfl) ?_
                        obtain ⟨v144, h144, h⟩ := k_bd_e h
                        refine k_goI (k_runV C dX12_weather_144 (e_X12_sumBy (d := 2) (Nat.le_refl _) (k_aM15 w) h144) k_lX12_382 k_yX12_sumBy (k_oM0 w) (by omega) rfl (Nat.le_of_ble_eq_true rfl)) ?_
                        refine k_i2l C dX12_weather_147 ?_
                        refine k_lmul C dX12_weather_148 ?_
                        refine k_ladd C dX12_weather_149 ?_
                        refine k_topl (fun y150 ey150 => ?_)
                        replace h := k_nm_e h y150 ey150
                        refine k_lstore C dX12_weather_150 (by decide) [1, 2, 3, 4, 5, 6, 0, 7] (L' := [(0, .ref (w.2.1 0)), (1, .int x1), (2, .int x2), (3, .int x3), (4, .int y44), (5, .int y50), (6, .long y150), (8, .int v8_58)]) rfl ?_
                        refine k_iinc C dX12_weather_152 7 rfl (v := 1) rfl (by decide) [1, 2, 3, 4, 5, 6, 7, 0] (L' := fun z9 => [(0, .ref (w.2.1 0)), (1, .int x1), (2, .int x2), (3, .int x3), (4, .int y44), (5, .int y50), (6, .long y150), (8, .int z9)]) (fun z9 => rfl) (fun y152 ey152 => ?_)
                        replace h := k_nm_e h y152 ey152
                        refine k_goto C dX12_weather_155 (tgt := 58) (by decide) ?_
                        exact ih58 _ _ _ h
                      refine k_if_eq C dX12_weather_126 (tgt := 133) (by decide) (fun c126 => ?_) (fun c126 => ?_)
                      · replace h := k_if_t h c126
                        refine k_bipush C dX12_weather_133 (v := 100) rfl ?_
                        refine k_iload_n C dX12_weather_135 2 rfl ?_
                        refine k_isub C dX12_weather_136 ?_
                        exact Jj137 _ h
                      · replace h := k_if_f h c126
                        refine k_iload_n C dX12_weather_129 2 rfl ?_
                        refine k_goto C dX12_weather_130 (tgt := 137) (by decide) ?_
                        exact Jj137 _ h
                    refine k_if_eq C dX12_weather_110 (tgt := 117) (by decide) (fun c110 => ?_) (fun c110 => ?_)
                    · replace h := k_if_t h c110
                      refine k_bipush C dX12_weather_117 (v := 100) rfl ?_
                      refine k_iload_n C dX12_weather_119 1 rfl ?_
                      refine k_isub C dX12_weather_120 ?_
                      refine k_sub (L' := [(0, .ref (w.2.1 0)), (1, .int x1), (2, .int x2), (3, .int x3), (4, .int y44), (5, .int y50), (8, .int v8_58)]) [0, 1, 2, 3, 4, 5, 7] rfl ?_
                      exact Jj121 _ h
                    · replace h := k_if_f h c110
                      refine k_iload_n C dX12_weather_113 1 rfl ?_
                      refine k_goto C dX12_weather_114 (tgt := 121) (by decide) ?_
                      refine k_sub (L' := [(0, .ref (w.2.1 0)), (1, .int x1), (2, .int x2), (3, .int x3), (4, .int y44), (5, .int y50), (8, .int v8_58)]) [0, 1, 2, 3, 4, 5, 7] rfl ?_
                      exact Jj121 _ h
                  refine k_icmp_le C dX12_weather_85 (tgt := 92) (by decide) (fun c85 => ?_) (fun c85 => ?_)
                  · replace h := k_if_t h c85
                    refine k_iconst C dX12_weather_92 (v := 0) rfl ?_
                    exact Jj93 _ h
                  · replace h := k_if_f h c85
                    refine k_iconst C dX12_weather_88 (v := 1) rfl ?_
                    refine k_goto C dX12_weather_89 (tgt := 93) (by decide) ?_
                    exact Jj93 _ h
                refine k_icmp_ne C dX12_weather_70 (tgt := 77) (by decide) (fun c70 => ?_) (fun c70 => ?_)
                · replace h := k_if_f h c70
                  refine k_iconst C dX12_weather_77 (v := 0) rfl ?_
                  exact Jj78 _ h
                · replace h := k_if_t h c70
                  refine k_iconst C dX12_weather_73 (v := 1) rfl ?_
                  refine k_goto C dX12_weather_74 (tgt := 78) (by decide) ?_
                  exact Jj78 _ h
          exact K58 _ _ _ _ h
        · replace h := k_if_t h c33
          refine k_ldc2 C dX12_weather_36 k_cX12_449 ?_
          exact k_lret C dX12_weather_39 hr (Option.some.inj h)
def f_X12_tongueSum (x1 : Int32) (x2 : Int32) (σ : k_St) : Option (Int32 × k_St) :=
  k_nm ((k_rd σ 0 26)) fun y4 =>
  k_nm ((k_rd σ 0 27)) fun y9 =>
  k_gd (o_isB x1 = true) <|
  k_nm (k_wr σ 0 26 x1) fun s13 =>
  k_gd (o_isB x2 = true) <|
  k_nm (k_wr s13 0 27 x2) fun s18 =>
  k_bd (f_X12_layTongue (k_rd s18 0 22) s18) fun s26 =>
  k_gd (o_isB y4 = true) <|
  k_nm (k_wr s26 0 26 y4) fun s31 =>
  k_gd (o_isB y9 = true) <|
  k_nm (k_wr s31 0 27 y9) fun s37 =>
  some ((k_rd s37 0 35), s37)
set_option maxHeartbeats 4000000 in
set_option maxRecDepth 100000 in
theorem e_X12_tongueSum {l : Launch} {w : k_WC} {d : Nat} (hd : 11 ≤ d) {x1 : Int32} {x2 : Int32}  {σ σ' : k_St} {r : Int32} (h : f_X12_tongueSum x1 x2 σ = some (r, σ')) : k_EI l (k_PM w) yX12_tongueSum cX12_tongueSum 5 (some .int) d [.ref (w.2.1 0), .int x1, .int x2] σ r σ' := by
  refine k_of (own := RX12) rfl (by decide) (Nat.le_of_ble_eq_true rfl) (fun X hX C hr => ?_)
  show k_K (k_PM w) X (k_MQ X (k_Qi (k_PM w) r σ') (k_PM w).2.2.1) 0 [(0, .ref (w.2.1 0)), (1, .int x1), (2, .int x2)] [] σ
  unfold f_X12_tongueSum at h
  refine k_aload_n C dX12_tongueSum_0 0 rfl ?_
  refine k_get C dX12_tongueSum_1 (k_gM0_26 w) k_fX12_315 (Or.inl rfl) ?_
  refine k_topi (fun y4 ey4 => ?_)
  replace h := k_nm_e h y4 ey4
  refine k_istore_n C dX12_tongueSum_4 (by decide) [1, 2, 3, 0] (L' := [(0, .ref (w.2.1 0)), (1, .int x1), (2, .int x2), (3, .int y4)]) rfl ?_
  refine k_aload_n C dX12_tongueSum_5 0 rfl ?_
  refine k_get C dX12_tongueSum_6 (k_gM0_27 w) k_fX12_319 (Or.inl rfl) ?_
  refine k_topi (fun y9 ey9 => ?_)
  replace h := k_nm_e h y9 ey9
  refine k_istore C dX12_tongueSum_9 (by decide) [1, 2, 3, 4, 0] (L' := [(0, .ref (w.2.1 0)), (1, .int x1), (2, .int x2), (3, .int y4), (4, .int y9)]) rfl ?_
  refine k_aload_n C dX12_tongueSum_11 0 rfl ?_
  refine k_iload_n C dX12_tongueSum_12 1 rfl ?_
  obtain ⟨r13, h⟩ := k_gd_e h
  refine k_puti C dX12_tongueSum_13 (k_pM0_26 w) k_fX12_315 (Or.inl rfl) (k_xz r13) ?_
  refine k_st (fun s13 es13 => ?_)
  replace h := k_nm_e h s13 es13
  refine k_aload_n C dX12_tongueSum_16 0 rfl ?_
  refine k_iload_n C dX12_tongueSum_17 2 rfl ?_
  obtain ⟨r18, h⟩ := k_gd_e h
  refine k_puti C dX12_tongueSum_18 (k_pM0_27 w) k_fX12_319 (Or.inl rfl) (k_xz r18) ?_
  refine k_st (fun s18 es18 => ?_)
  replace h := k_nm_e h s18 es18
  refine k_aload_n C dX12_tongueSum_21 0 rfl ?_
  refine k_aload_n C dX12_tongueSum_22 0 rfl ?_
  refine k_get C dX12_tongueSum_23 (k_gM0_22 w) k_fX12_309 (Or.inl rfl) ?_
  obtain ⟨s26, h26, h⟩ := k_bd_e h
  refine k_goV (k_runV C dX12_tongueSum_26 (e_X12_layTongue (d := 10) (Nat.le_refl _) h26) k_lX12_408 k_yX12_layTongue (k_oM0 w) (by omega) rfl (Nat.le_of_ble_eq_true rfl)) ?_
  refine k_aload_n C dX12_tongueSum_29 0 rfl ?_
  refine k_iload_n C dX12_tongueSum_30 3 rfl ?_
  obtain ⟨r31, h⟩ := k_gd_e h
  refine k_puti C dX12_tongueSum_31 (k_pM0_26 w) k_fX12_315 (Or.inl rfl) (k_xz r31) ?_
  refine k_st (fun s31 es31 => ?_)
  replace h := k_nm_e h s31 es31
  refine k_aload_n C dX12_tongueSum_34 0 rfl ?_
  refine k_iload C dX12_tongueSum_35 4 rfl ?_
  obtain ⟨r37, h⟩ := k_gd_e h
  refine k_puti C dX12_tongueSum_37 (k_pM0_27 w) k_fX12_319 (Or.inl rfl) (k_xz r37) ?_
  refine k_st (fun s37 es37 => ?_)
  replace h := k_nm_e h s37 es37
  refine k_aload_n C dX12_tongueSum_40 0 rfl ?_
  refine k_get C dX12_tongueSum_41 (k_gM0_35 w) k_fX12_392 (Or.inl rfl) ?_
  exact k_iret C dX12_tongueSum_44 hr (Option.some.inj h)
def f_X12_skill (x1 : Int32) (x2 : Int32) (σ : k_St) : Option (Int32 × k_St) :=
  k_if ((k_rd σ 0 21) = (0 : Int32))
    (some ((-1000000 : Int32), σ))
    (k_bd (f_X12_in x1 (0 : Int32) (2 : Int32)) fun v10 =>
    k_if (v10 = (0 : Int32))
      (some ((-1000000 : Int32), σ))
      (k_bd (f_X12_in x2 (0 : Int32) (1 : Int32)) fun v19 =>
      k_if (v19 = (0 : Int32))
        (some ((-1000000 : Int32), σ))
        (k_b2 (f_X12_tongueSum (0 : Int32) (0 : Int32) σ) fun v33 s33 =>
        k_jn (fun (t3_47 : Int32) =>
          k_jn (fun (t4_56 : Int32) =>
            k_b2 (f_X12_tongueSum t3_47 t4_56 s33) fun v56 s56 =>
            k_bd (f_X12_plain (v33 - v56) x2 s56) fun v61 =>
            some (v61, s56)) fun j56 =>
          k_if (x1 = (0 : Int32))
            (j56 (0 : Int32))
            (j56 (1 : Int32))) fun j47 =>
        k_if (x1 = (1 : Int32))
          (j47 (0 : Int32))
          (j47 (1 : Int32)))))
set_option maxHeartbeats 4000000 in
set_option maxRecDepth 100000 in
theorem e_X12_skill {l : Launch} {w : k_WC} {d : Nat} (hd : 205 ≤ d) {x1 : Int32} {x2 : Int32}  {σ σ' : k_St} {r : Int32} (h : f_X12_skill x1 x2 σ = some (r, σ')) : k_EI l (k_PM w) yX12_skill cX12_skill 3 (some .int) d [.ref (w.2.1 0), .int x1, .int x2] σ r σ' := by
  refine k_of (own := RX12) rfl (by decide) (Nat.le_of_ble_eq_true rfl) (fun X hX C hr => ?_)
  show k_K (k_PM w) X (k_MQ X (k_Qi (k_PM w) r σ') (k_PM w).2.2.1) 0 [(0, .ref (w.2.1 0)), (1, .int x1), (2, .int x2)] [] σ
  unfold f_X12_skill at h
  refine k_aload_n C dX12_skill_0 0 rfl ?_
  refine k_get C dX12_skill_1 (k_gM0_21 w) k_fX12_306 (Or.inl rfl) ?_
  refine k_if_eq C dX12_skill_4 (tgt := 25) (by decide) (fun c4 => ?_) (fun c4 => ?_)
  · replace h := k_if_t h c4
    refine k_ldcw C dX12_skill_25 k_cX12_463 ?_
    exact k_iret C dX12_skill_28 hr (Option.some.inj h)
  · replace h := k_if_f h c4
    refine k_iload_n C dX12_skill_7 1 rfl ?_
    refine k_iconst C dX12_skill_8 (v := 0) rfl ?_
    refine k_iconst C dX12_skill_9 (v := 2) rfl ?_
    obtain ⟨v10, h10, h⟩ := k_bd_e h
    refine k_goI (k_runS C dX12_skill_10 (e_X12_in (d := 2) (Nat.le_refl _) h10) k_lX12_269 k_yX12_in (by omega) rfl (Nat.le_of_ble_eq_true rfl)) ?_
    refine k_if_eq C dX12_skill_13 (tgt := 25) (by decide) (fun c13 => ?_) (fun c13 => ?_)
    · replace h := k_if_t h c13
      refine k_ldcw C dX12_skill_25 k_cX12_463 ?_
      exact k_iret C dX12_skill_28 hr (Option.some.inj h)
    · replace h := k_if_f h c13
      refine k_iload_n C dX12_skill_16 2 rfl ?_
      refine k_iconst C dX12_skill_17 (v := 0) rfl ?_
      refine k_iconst C dX12_skill_18 (v := 1) rfl ?_
      obtain ⟨v19, h19, h⟩ := k_bd_e h
      refine k_goI (k_runS C dX12_skill_19 (e_X12_in (d := 2) (Nat.le_refl _) h19) k_lX12_269 k_yX12_in (by omega) rfl (Nat.le_of_ble_eq_true rfl)) ?_
      refine k_if_ne C dX12_skill_22 (tgt := 29) (by decide) (fun c22 => ?_) (fun c22 => ?_)
      · replace h := k_if_f h c22
        refine k_aload_n C dX12_skill_29 0 rfl ?_
        refine k_aload_n C dX12_skill_30 0 rfl ?_
        refine k_iconst C dX12_skill_31 (v := 0) rfl ?_
        refine k_iconst C dX12_skill_32 (v := 0) rfl ?_
        obtain ⟨v33, s33, h33, h⟩ := k_b2_e h
        refine k_goI (k_runV C dX12_skill_33 (e_X12_tongueSum (d := 11) (Nat.le_refl _) h33) k_lX12_464 k_yX12_tongueSum (k_oM0 w) (by omega) rfl (Nat.le_of_ble_eq_true rfl)) ?_
        refine k_aload_n C dX12_skill_36 0 rfl ?_
        refine k_iload_n C dX12_skill_37 1 rfl ?_
        refine k_iconst C dX12_skill_38 (v := 1) rfl ?_
        obtain ⟨j47, ej47, h⟩ := k_jn_e h
        have Jj47 : ∀ (t3_47 : Int32), j47 t3_47 = some (r, σ') → k_K (k_PM w) X (k_MQ X (k_Qi (k_PM w) r σ') (k_PM w).2.2.1) 47 [(1, .int x1), (2, .int x2)] [.int t3_47, .ref (w.2.1 0), .int v33, .ref (w.2.1 0)] s33 := by
          intro t3_47 h
          rw [ej47] at h
          refine k_iload_n C dX12_skill_47 0 rfl ?_
          obtain ⟨j56, ej56, h⟩ := k_jn_e h
          have Jj56 : ∀ (t4_56 : Int32), j56 t4_56 = some (r, σ') → k_K (k_PM w) X (k_MQ X (k_Qi (k_PM w) r σ') (k_PM w).2.2.1) 56 [(2, .int x2)] [.int t4_56, .int t3_47, .ref (w.2.1 0), .int v33, .ref (w.2.1 0)] s33 := by
            intro t4_56 h
            rw [ej56] at h
            obtain ⟨v56, s56, h56, h⟩ := k_b2_e h
            refine k_goI (k_runV C dX12_skill_56 (e_X12_tongueSum (d := 11) (Nat.le_refl _) h56) k_lX12_464 k_yX12_tongueSum (k_oM0 w) (by omega) rfl (Nat.le_of_ble_eq_true rfl)) ?_
            refine k_isub C dX12_skill_59 ?_
            refine k_iload_n C dX12_skill_60 0 rfl ?_
            obtain ⟨v61, h61, h⟩ := k_bd_e h
            refine k_goI (k_runV C dX12_skill_61 (e_X12_plain (d := 204) (Nat.le_refl _) h61) k_lX12_386 k_yX12_plain (k_oM0 w) (by omega) rfl (Nat.le_of_ble_eq_true rfl)) ?_
            exact k_iret C dX12_skill_64 hr (Option.some.inj h)
          refine k_if_eq C dX12_skill_48 (tgt := 55) (by decide) (fun c48 => ?_) (fun c48 => ?_)
          · replace h := k_if_t h c48
            refine k_iconst C dX12_skill_55 (v := 0) rfl ?_
            refine k_sub (L' := [(2, .int x2)]) [1] rfl ?_
            exact Jj56 _ h
          · replace h := k_if_f h c48
            refine k_iconst C dX12_skill_51 (v := 1) rfl ?_
            refine k_goto C dX12_skill_52 (tgt := 56) (by decide) ?_
            refine k_sub (L' := [(2, .int x2)]) [1] rfl ?_
            exact Jj56 _ h
        refine k_icmp_eq C dX12_skill_39 (tgt := 46) (by decide) (fun c39 => ?_) (fun c39 => ?_)
        · replace h := k_if_t h c39
          refine k_iconst C dX12_skill_46 (v := 0) rfl ?_
          refine k_sub (L' := [(1, .int x1), (2, .int x2)]) [1, 2] rfl ?_
          exact Jj47 _ h
        · replace h := k_if_f h c39
          refine k_iconst C dX12_skill_42 (v := 1) rfl ?_
          refine k_goto C dX12_skill_43 (tgt := 47) (by decide) ?_
          refine k_sub (L' := [(1, .int x1), (2, .int x2)]) [1, 2] rfl ?_
          exact Jj47 _ h
      · replace h := k_if_t h c22
        refine k_ldcw C dX12_skill_25 k_cX12_463 ?_
        exact k_iret C dX12_skill_28 hr (Option.some.inj h)
def f_X12_cases (x1 : Int32) (σ : k_St) : Option (Int32) :=
  k_if ((k_rd σ 0 21) = (0 : Int32))
    (some (-1 : Int32))
    (k_bd (f_X12_in x1 (0 : Int32) (1 : Int32)) fun v10 =>
    k_if (v10 = (0 : Int32))
      (some (-1 : Int32))
      (k_loop (fun (g22 : Int32 × Int32 → Option (Int32)) (z22 : Int32 × Int32) => match z22 with
        | (v2_22, v3_22) =>
          k_if ((k_rd σ 0 21) ≤ v3_22)
            (some v2_22)
            (k_bd (f_X12_of v3_22 (0 : Int32) σ) fun v33 =>
            k_if (v33 ≤ (0 : Int32))
              (k_nm (v3_22 + (1 : Int32)) fun y163 =>
              g22 (v2_22, y163))
              (k_bd (f_X12_heard v3_22 σ) fun v45 =>
              k_gd (k_ix v45 4 = true) <|
              k_nm ((k_rd σ 14 v45.toNatClampNeg)) fun y49 =>
              k_bd (f_X12_seenAt v3_22 σ) fun v58 =>
              k_gd (k_ix (((4 : Int32) * v58) + y49) 16 = true) <|
              k_jn (fun (t0_75 : Int32) =>
                k_jn (fun (t0_94 : Int32) =>
                  k_jn (fun (t0_127 : Int32) =>
                    k_jn (fun (_ : Unit) =>
                      k_nm ((v2_22 ||| (o_shl (1 : Int32) v3_22))) fun y162 =>
                      k_nm (v3_22 + (1 : Int32)) fun y163 =>
                      g22 (y162, y163)) fun j154 =>
                    k_if (x1 = (0 : Int32))
                      (k_if (t0_75 = (0 : Int32))
                        (k_nm ((v2_22 ||| (0 : Int32))) fun y162 =>
                        k_nm (v3_22 + (1 : Int32)) fun y163 =>
                        g22 (y162, y163))
                        (k_if (t0_127 = (0 : Int32))
                          (k_nm ((v2_22 ||| (0 : Int32))) fun y162 =>
                          k_nm (v3_22 + (1 : Int32)) fun y163 =>
                          g22 (y162, y163))
                          (j154 ())))
                      (k_if (t0_75 = t0_127)
                        (k_nm ((v2_22 ||| (0 : Int32))) fun y162 =>
                        k_nm (v3_22 + (1 : Int32)) fun y163 =>
                        g22 (y162, y163))
                        (j154 ()))) fun j127 =>
                  k_if (t0_94 = (0 : Int32))
                    (k_bd (f_X12_seenAt v3_22 σ) fun v113 =>
                    k_gd (k_ix ((4 : Int32) * v113) 16 = true) <|
                    k_if ((k_rd σ 15 ((4 : Int32) * v113).toNatClampNeg) = v3_22)
                      (j127 (1 : Int32))
                      (j127 (0 : Int32)))
                    (j127 t0_75)) fun j94 =>
                k_jn (fun (_ : Unit) =>
                  j94 (1 : Int32)) fun j89 =>
                k_if (y49 = (0 : Int32))
                  (j89 ())
                  (k_if ((k_rd σ 0 23) = (0 : Int32))
                    (j89 ())
                    (j94 (0 : Int32)))) fun j75 =>
              k_if ((k_rd σ 15 (((4 : Int32) * v58) + y49).toNatClampNeg) = v3_22)
                (j75 (1 : Int32))
                (j75 (0 : Int32))))) 100000 ((0 : Int32), (0 : Int32))))
set_option maxHeartbeats 4000000 in
set_option maxRecDepth 100000 in
theorem e_X12_cases {l : Launch} {w : k_WC} {d : Nat} (hd : 4 ≤ d) {x1 : Int32}  {σ : k_St} {r : Int32} (h : f_X12_cases x1 σ = some r) : k_EI l (k_PM w) yX12_cases cX12_cases 8 (some .int) d [.ref (w.2.1 0), .int x1] σ r σ := by
  refine k_of (own := RX12) rfl (by decide) (Nat.le_of_ble_eq_true rfl) (fun X hX C hr => ?_)
  show k_K (k_PM w) X (k_MQ X (k_Qi (k_PM w) r σ) (k_PM w).2.2.1) 0 [(0, .ref (w.2.1 0)), (1, .int x1)] [] σ
  unfold f_X12_cases at h
  refine k_aload_n C dX12_cases_0 0 rfl ?_
  refine k_get C dX12_cases_1 (k_gM0_21 w) k_fX12_306 (Or.inl rfl) ?_
  refine k_if_eq C dX12_cases_4 (tgt := 16) (by decide) (fun c4 => ?_) (fun c4 => ?_)
  · replace h := k_if_t h c4
    refine k_iconst C dX12_cases_16 (v := -1) rfl ?_
    exact k_iret C dX12_cases_17 hr (k_p1 h)
  · replace h := k_if_f h c4
    refine k_iload_n C dX12_cases_7 1 rfl ?_
    refine k_iconst C dX12_cases_8 (v := 0) rfl ?_
    refine k_iconst C dX12_cases_9 (v := 1) rfl ?_
    obtain ⟨v10, h10, h⟩ := k_bd_e h
    refine k_goI (k_runS C dX12_cases_10 (e_X12_in (d := 2) (Nat.le_refl _) h10) k_lX12_269 k_yX12_in (by omega) rfl (Nat.le_of_ble_eq_true rfl)) ?_
    refine k_if_ne C dX12_cases_13 (tgt := 18) (by decide) (fun c13 => ?_) (fun c13 => ?_)
    · replace h := k_if_f h c13
      refine k_iconst C dX12_cases_18 (v := 0) rfl ?_
      refine k_istore_n C dX12_cases_19 (by decide) [1, 2, 0] (L' := [(0, .ref (w.2.1 0)), (1, .int x1), (2, .int (0 : Int32))]) rfl ?_
      refine k_iconst C dX12_cases_20 (v := 0) rfl ?_
      refine k_istore_n C dX12_cases_21 (by decide) [1, 2, 3, 0] (L' := [(0, .ref (w.2.1 0)), (1, .int x1), (2, .int (0 : Int32)), (3, .int (0 : Int32))]) rfl ?_
      obtain ⟨b22, eb22, h⟩ := k_lp_e h
      have K22 : ∀ (n : Nat) (v2_22 : Int32) (v3_22 : Int32), k_loop b22 n (v2_22, v3_22) = some r → k_K (k_PM w) X (k_MQ X (k_Qi (k_PM w) r σ) (k_PM w).2.2.1) 22 [(0, .ref (w.2.1 0)), (1, .int x1), (2, .int v2_22), (3, .int v3_22)] [] σ := by
        intro n
        induction n with
        | zero => intro v2_22 v3_22 h; cases h
        | succ n ih22 =>
          intro v2_22 v3_22 h
          obtain ⟨g22, eg22, h⟩ := k_lp_s h
          rw [← eg22] at ih22
          rw [eb22] at h
          refine k_iload_n C dX12_cases_22 3 rfl ?_
          refine k_aload_n C dX12_cases_23 0 rfl ?_
          refine k_get C dX12_cases_24 (k_gM0_21 w) k_fX12_306 (Or.inl rfl) ?_
          refine k_icmp_ge C dX12_cases_27 (tgt := 169) (by decide) (fun c27 => ?_) (fun c27 => ?_)
          · replace h := k_if_t h c27
            refine k_iload_n C dX12_cases_169 2 rfl ?_
            exact k_iret C dX12_cases_170 hr (k_p1 h)
          · replace h := k_if_f h c27
            refine k_aload_n C dX12_cases_30 0 rfl ?_
            refine k_iload_n C dX12_cases_31 3 rfl ?_
            refine k_iconst C dX12_cases_32 (v := 0) rfl ?_
            obtain ⟨v33, h33, h⟩ := k_bd_e h
            refine k_goI (k_runV C dX12_cases_33 (e_X12_of (d := 2) (Nat.le_refl _) h33) k_lX12_343 k_yX12_of (k_oM0 w) (by omega) rfl (Nat.le_of_ble_eq_true rfl)) ?_
            refine k_if_le C dX12_cases_36 (tgt := 163) (by decide) (fun c36 => ?_) (fun c36 => ?_)
            · replace h := k_if_t h c36
              refine k_iinc C dX12_cases_163 3 rfl (v := 1) rfl (by decide) [1, 2, 3, 0] (L' := fun z9 => [(0, .ref (w.2.1 0)), (1, .int x1), (2, .int v2_22), (3, .int z9)]) (fun z9 => rfl) (fun y163 ey163 => ?_)
              replace h := k_nm_e h y163 ey163
              refine k_goto C dX12_cases_166 (tgt := 22) (by decide) ?_
              exact ih22 _ _ h
            · replace h := k_if_f h c36
              refine k_aload_n C dX12_cases_39 0 rfl ?_
              refine k_get C dX12_cases_40 (k_gM0_24 w) k_fX12_49 (Or.inl rfl) ?_
              refine k_aload_n C dX12_cases_43 0 rfl ?_
              refine k_iload_n C dX12_cases_44 3 rfl ?_
              obtain ⟨v45, h45, h⟩ := k_bd_e h
              refine k_goI (k_runV C dX12_cases_45 (e_X12_heard (d := 3) (Nat.le_refl _) h45) k_lX12_366 k_yX12_heard (k_oM0 w) (by omega) rfl (Nat.le_of_ble_eq_true rfl)) ?_
              obtain ⟨q48, h⟩ := k_gd_e h
              refine k_iald C dX12_cases_48 (k_aM14 w) q48 ?_
              refine k_topi (fun y49 ey49 => ?_)
              replace h := k_nm_e h y49 ey49
              refine k_istore C dX12_cases_49 (by decide) [1, 2, 3, 4, 0] (L' := [(0, .ref (w.2.1 0)), (1, .int x1), (2, .int v2_22), (3, .int v3_22), (4, .int y49)]) rfl ?_
              refine k_aload_n C dX12_cases_51 0 rfl ?_
              refine k_get C dX12_cases_52 (k_gM0_25 w) k_fX12_52 (Or.inl rfl) ?_
              refine k_iconst C dX12_cases_55 (v := 4) rfl ?_
              refine k_aload_n C dX12_cases_56 0 rfl ?_
              refine k_iload_n C dX12_cases_57 3 rfl ?_
              obtain ⟨v58, h58, h⟩ := k_bd_e h
              refine k_goI (k_runV C dX12_cases_58 (e_X12_seenAt (d := 3) (Nat.le_refl _) h58) k_lX12_369 k_yX12_seenAt (k_oM0 w) (by omega) rfl (Nat.le_of_ble_eq_true rfl)) ?_
              refine k_imul C dX12_cases_61 ?_
              refine k_iload C dX12_cases_62 4 rfl ?_
              refine k_iadd C dX12_cases_64 ?_
              obtain ⟨q65, h⟩ := k_gd_e h
              refine k_iald C dX12_cases_65 (k_aM15 w) q65 ?_
              refine k_iload_n C dX12_cases_66 3 rfl ?_
              obtain ⟨j75, ej75, h⟩ := k_jn_e h
              have Jj75 : ∀ (t0_75 : Int32), j75 t0_75 = some r → k_K (k_PM w) X (k_MQ X (k_Qi (k_PM w) r σ) (k_PM w).2.2.1) 75 [(0, .ref (w.2.1 0)), (1, .int x1), (2, .int v2_22), (3, .int v3_22), (4, .int y49)] [.int t0_75] σ := by
                intro t0_75 h
                rw [ej75] at h
                refine k_istore C dX12_cases_75 (by decide) [1, 2, 3, 4, 5, 0] (L' := [(0, .ref (w.2.1 0)), (1, .int x1), (2, .int v2_22), (3, .int v3_22), (4, .int y49), (5, .int t0_75)]) rfl ?_
                refine k_iload C dX12_cases_77 4 rfl ?_
                obtain ⟨j94, ej94, h⟩ := k_jn_e h
                have Jj94 : ∀ (t0_94 : Int32), j94 t0_94 = some r → k_K (k_PM w) X (k_MQ X (k_Qi (k_PM w) r σ) (k_PM w).2.2.1) 94 [(0, .ref (w.2.1 0)), (1, .int x1), (2, .int v2_22), (3, .int v3_22), (5, .int t0_75)] [.int t0_94] σ := by
                  intro t0_94 h
                  rw [ej94] at h
                  refine k_istore C dX12_cases_94 (by decide) [1, 2, 3, 4, 5, 0] (L' := [(0, .ref (w.2.1 0)), (1, .int x1), (2, .int v2_22), (3, .int v3_22), (5, .int t0_75), (6, .int t0_94)]) rfl ?_
                  refine k_iload C dX12_cases_96 5 rfl ?_
                  obtain ⟨j127, ej127, h⟩ := k_jn_e h
                  have Jj127 : ∀ (t0_127 : Int32), j127 t0_127 = some r → k_K (k_PM w) X (k_MQ X (k_Qi (k_PM w) r σ) (k_PM w).2.2.1) 127 [(0, .ref (w.2.1 0)), (1, .int x1), (2, .int v2_22), (3, .int v3_22), (5, .int t0_75)] [.int t0_127] σ := by
                    intro t0_127 h
                    rw [ej127] at h
                    refine k_istore C dX12_cases_127 (by decide) [1, 2, 3, 4, 5, 0] (L' := [(0, .ref (w.2.1 0)), (1, .int x1), (2, .int v2_22), (3, .int v3_22), (5, .int t0_75), (7, .int t0_127)]) rfl ?_
                    refine k_iload_n C dX12_cases_129 2 rfl ?_
                    refine k_iload_n C dX12_cases_130 1 rfl ?_
                    obtain ⟨j154, ej154, h⟩ := k_jn_e h
                    have Jj154 : j154 () = some r → k_K (k_PM w) X (k_MQ X (k_Qi (k_PM w) r σ) (k_PM w).2.2.1) 154 [(0, .ref (w.2.1 0)), (1, .int x1), (3, .int v3_22)] [.int v2_22] σ := by
                      intro  h
                      rw [ej154] at h
                      refine k_iconst C dX12_cases_154 (v := 1) rfl ?_
                      refine k_iload_n C dX12_cases_155 2 rfl ?_
                      refine k_ishl C dX12_cases_156 ?_
                      refine k_goto C dX12_cases_157 (tgt := 161) (by decide) ?_
                      refine k_ior C dX12_cases_161 ?_
                      refine k_topi (fun y162 ey162 => ?_)
                      replace h := k_nm_e h y162 ey162
                      refine k_istore_n C dX12_cases_162 (by decide) [1, 2, 0, 3] (L' := [(0, .ref (w.2.1 0)), (1, .int x1), (2, .int y162), (3, .int v3_22)]) rfl ?_
                      refine k_iinc C dX12_cases_163 3 rfl (v := 1) rfl (by decide) [1, 2, 3, 0] (L' := fun z9 => [(0, .ref (w.2.1 0)), (1, .int x1), (2, .int y162), (3, .int z9)]) (fun z9 => rfl) (fun y163 ey163 => ?_)
                      replace h := k_nm_e h y163 ey163
                      refine k_goto C dX12_cases_166 (tgt := 22) (by decide) ?_
                      exact ih22 _ _ h
                    refine k_if_ne C dX12_cases_131 (tgt := 147) (by decide) (fun c131 => ?_) (fun c131 => ?_)
                    · replace h := k_if_f h c131
                      refine k_iload C dX12_cases_147 4 rfl ?_
                      refine k_iload C dX12_cases_149 5 rfl ?_
                      refine k_icmp_eq C dX12_cases_151 (tgt := 160) (by decide) (fun c151 => ?_) (fun c151 => ?_)
                      · replace h := k_if_t h c151
                        refine k_iconst C dX12_cases_160 (v := 0) rfl ?_
                        refine k_ior C dX12_cases_161 ?_
                        refine k_topi (fun y162 ey162 => ?_)
                        replace h := k_nm_e h y162 ey162
                        refine k_istore_n C dX12_cases_162 (by decide) [1, 2, 0, 3, 4, 5] (L' := [(0, .ref (w.2.1 0)), (1, .int x1), (2, .int y162), (3, .int v3_22), (5, .int t0_75), (7, .int t0_127)]) rfl ?_
                        refine k_iinc C dX12_cases_163 3 rfl (v := 1) rfl (by decide) [1, 2, 3, 0, 4, 5] (L' := fun z9 => [(0, .ref (w.2.1 0)), (1, .int x1), (2, .int y162), (3, .int z9), (5, .int t0_75), (7, .int t0_127)]) (fun z9 => rfl) (fun y163 ey163 => ?_)
                        replace h := k_nm_e h y163 ey163
                        refine k_goto C dX12_cases_166 (tgt := 22) (by decide) ?_
                        refine k_sub (L' := [(0, .ref (w.2.1 0)), (1, .int x1), (2, .int y162), (3, .int y163)]) [0, 1, 2, 3] rfl ?_
                        exact ih22 _ _ h
                      · replace h := k_if_f h c151
                        refine k_sub (L' := [(0, .ref (w.2.1 0)), (1, .int x1), (3, .int v3_22)]) [0, 1, 3] rfl ?_
                        exact Jj154 h
                    · replace h := k_if_t h c131
                      refine k_iload C dX12_cases_134 4 rfl ?_
                      refine k_if_eq C dX12_cases_136 (tgt := 160) (by decide) (fun c136 => ?_) (fun c136 => ?_)
                      · replace h := k_if_t h c136
                        refine k_iconst C dX12_cases_160 (v := 0) rfl ?_
                        refine k_ior C dX12_cases_161 ?_
                        refine k_topi (fun y162 ey162 => ?_)
                        replace h := k_nm_e h y162 ey162
                        refine k_istore_n C dX12_cases_162 (by decide) [1, 2, 0, 3, 4, 5] (L' := [(0, .ref (w.2.1 0)), (1, .int x1), (2, .int y162), (3, .int v3_22), (5, .int t0_75), (7, .int t0_127)]) rfl ?_
                        refine k_iinc C dX12_cases_163 3 rfl (v := 1) rfl (by decide) [1, 2, 3, 0, 4, 5] (L' := fun z9 => [(0, .ref (w.2.1 0)), (1, .int x1), (2, .int y162), (3, .int z9), (5, .int t0_75), (7, .int t0_127)]) (fun z9 => rfl) (fun y163 ey163 => ?_)
                        replace h := k_nm_e h y163 ey163
                        refine k_goto C dX12_cases_166 (tgt := 22) (by decide) ?_
                        refine k_sub (L' := [(0, .ref (w.2.1 0)), (1, .int x1), (2, .int y162), (3, .int y163)]) [0, 1, 2, 3] rfl ?_
                        exact ih22 _ _ h
                      · replace h := k_if_f h c136
                        refine k_iload C dX12_cases_139 5 rfl ?_
                        refine k_if_eq C dX12_cases_141 (tgt := 160) (by decide) (fun c141 => ?_) (fun c141 => ?_)
                        · replace h := k_if_t h c141
                          refine k_iconst C dX12_cases_160 (v := 0) rfl ?_
                          refine k_ior C dX12_cases_161 ?_
                          refine k_topi (fun y162 ey162 => ?_)
                          replace h := k_nm_e h y162 ey162
                          refine k_istore_n C dX12_cases_162 (by decide) [1, 2, 0, 3, 4, 5] (L' := [(0, .ref (w.2.1 0)), (1, .int x1), (2, .int y162), (3, .int v3_22), (5, .int t0_75), (7, .int t0_127)]) rfl ?_
                          refine k_iinc C dX12_cases_163 3 rfl (v := 1) rfl (by decide) [1, 2, 3, 0, 4, 5] (L' := fun z9 => [(0, .ref (w.2.1 0)), (1, .int x1), (2, .int y162), (3, .int z9), (5, .int t0_75), (7, .int t0_127)]) (fun z9 => rfl) (fun y163 ey163 => ?_)
                          replace h := k_nm_e h y163 ey163
                          refine k_goto C dX12_cases_166 (tgt := 22) (by decide) ?_
                          refine k_sub (L' := [(0, .ref (w.2.1 0)), (1, .int x1), (2, .int y162), (3, .int y163)]) [0, 1, 2, 3] rfl ?_
                          exact ih22 _ _ h
                        · replace h := k_if_f h c141
                          refine k_goto C dX12_cases_144 (tgt := 154) (by decide) ?_
                          refine k_sub (L' := [(0, .ref (w.2.1 0)), (1, .int x1), (3, .int v3_22)]) [0, 1, 3] rfl ?_
                          exact Jj154 h
                  refine k_if_eq C dX12_cases_98 (tgt := 106) (by decide) (fun c98 => ?_) (fun c98 => ?_)
                  · replace h := k_if_t h c98
                    refine k_aload_n C dX12_cases_106 0 rfl ?_
                    refine k_get C dX12_cases_107 (k_gM0_25 w) k_fX12_52 (Or.inl rfl) ?_
                    refine k_iconst C dX12_cases_110 (v := 4) rfl ?_
                    refine k_aload_n C dX12_cases_111 0 rfl ?_
                    refine k_iload_n C dX12_cases_112 3 rfl ?_
                    obtain ⟨v113, h113, h⟩ := k_bd_e h
                    refine k_goI (k_runV C dX12_cases_113 (e_X12_seenAt (d := 3) (Nat.le_refl _) h113) k_lX12_369 k_yX12_seenAt (k_oM0 w) (by omega) rfl (Nat.le_of_ble_eq_true rfl)) ?_
                    refine k_imul C dX12_cases_116 ?_
                    obtain ⟨q117, h⟩ := k_gd_e h
                    refine k_iald C dX12_cases_117 (k_aM15 w) q117 ?_
                    refine k_iload_n C dX12_cases_118 3 rfl ?_
                    refine k_icmp_ne C dX12_cases_119 (tgt := 126) (by decide) (fun c119 => ?_) (fun c119 => ?_)
                    · replace h := k_if_f h c119
                      refine k_iconst C dX12_cases_126 (v := 0) rfl ?_
                      refine k_sub (L' := [(0, .ref (w.2.1 0)), (1, .int x1), (2, .int v2_22), (3, .int v3_22), (5, .int t0_75)]) [0, 1, 2, 3, 4] rfl ?_
                      exact Jj127 _ h
                    · replace h := k_if_t h c119
                      refine k_iconst C dX12_cases_122 (v := 1) rfl ?_
                      refine k_goto C dX12_cases_123 (tgt := 127) (by decide) ?_
                      refine k_sub (L' := [(0, .ref (w.2.1 0)), (1, .int x1), (2, .int v2_22), (3, .int v3_22), (5, .int t0_75)]) [0, 1, 2, 3, 4] rfl ?_
                      exact Jj127 _ h
                  · replace h := k_if_f h c98
                    refine k_iload C dX12_cases_101 4 rfl ?_
                    refine k_goto C dX12_cases_103 (tgt := 127) (by decide) ?_
                    refine k_sub (L' := [(0, .ref (w.2.1 0)), (1, .int x1), (2, .int v2_22), (3, .int v3_22), (5, .int t0_75)]) [0, 1, 2, 3, 4] rfl ?_
                    exact Jj127 _ h
                obtain ⟨j89, ej89, h⟩ := k_jn_e h
                have Jj89 : j89 () = some r → k_K (k_PM w) X (k_MQ X (k_Qi (k_PM w) r σ) (k_PM w).2.2.1) 89 [(0, .ref (w.2.1 0)), (1, .int x1), (2, .int v2_22), (3, .int v3_22), (5, .int t0_75)] [] σ := by
                  intro  h
                  rw [ej89] at h
                  refine k_iconst C dX12_cases_89 (v := 1) rfl ?_
                  refine k_goto C dX12_cases_90 (tgt := 94) (by decide) ?_
                  exact Jj94 _ h
                refine k_if_eq C dX12_cases_79 (tgt := 89) (by decide) (fun c79 => ?_) (fun c79 => ?_)
                · replace h := k_if_t h c79
                  refine k_sub (L' := [(0, .ref (w.2.1 0)), (1, .int x1), (2, .int v2_22), (3, .int v3_22), (5, .int t0_75)]) [0, 1, 2, 3, 5] rfl ?_
                  exact Jj89 h
                · replace h := k_if_f h c79
                  refine k_aload_n C dX12_cases_82 0 rfl ?_
                  refine k_get C dX12_cases_83 (k_gM0_23 w) k_fX12_312 (Or.inl rfl) ?_
                  refine k_if_ne C dX12_cases_86 (tgt := 93) (by decide) (fun c86 => ?_) (fun c86 => ?_)
                  · replace h := k_if_f h c86
                    refine k_iconst C dX12_cases_93 (v := 0) rfl ?_
                    refine k_sub (L' := [(0, .ref (w.2.1 0)), (1, .int x1), (2, .int v2_22), (3, .int v3_22), (5, .int t0_75)]) [0, 1, 2, 3, 5] rfl ?_
                    exact Jj94 _ h
                  · replace h := k_if_t h c86
                    refine k_sub (L' := [(0, .ref (w.2.1 0)), (1, .int x1), (2, .int v2_22), (3, .int v3_22), (5, .int t0_75)]) [0, 1, 2, 3, 5] rfl ?_
                    exact Jj89 h
              refine k_icmp_ne C dX12_cases_67 (tgt := 74) (by decide) (fun c67 => ?_) (fun c67 => ?_)
              · replace h := k_if_f h c67
                refine k_iconst C dX12_cases_74 (v := 0) rfl ?_
                exact Jj75 _ h
              · replace h := k_if_t h c67
                refine k_iconst C dX12_cases_70 (v := 1) rfl ?_
                refine k_goto C dX12_cases_71 (tgt := 75) (by decide) ?_
                exact Jj75 _ h
      exact K22 _ _ _ h
    · replace h := k_if_t h c13
      refine k_iconst C dX12_cases_16 (v := -1) rfl ?_
      exact k_iret C dX12_cases_17 hr (k_p1 h)
def f_X12_mixed (x1 : Int32) (σ : k_St) : Option (Int32) :=
  k_if ((k_rd σ 0 21) = (0 : Int32))
    (some (-1 : Int32))
    (k_if ((-1 : Int32) ≤ x1)
      (k_loop (fun (g18 : Int32 × Int32 → Option (Int32)) (z18 : Int32 × Int32) => match z18 with
        | (v2_18, v3_18) =>
          k_if ((16 : Int32) ≤ v3_18)
            (k_if (x1 = (-1 : Int32))
              (some v2_18)
              (some (-1 : Int32)))
            (k_loop (fun (g30 : Int32 × Int32 → Option (Int32)) (z30 : Int32 × Int32) => match z30 with
              | (v4_30, v5_30) =>
                k_if ((k_rd σ 0 21) ≤ v5_30)
                  (k_if (v4_30 ≤ (1 : Int32))
                    (k_nm (v3_18 + (1 : Int32)) fun y110 =>
                    g18 (v2_18, y110))
                    (k_if (v2_18 = x1)
                      (some (((10 : Int32) * (v3_18 / (4 : Int32))) + (o_rem v3_18 (4 : Int32))))
                      (k_nm (v2_18 + (1 : Int32)) fun y107 =>
                      k_nm (v3_18 + (1 : Int32)) fun y110 =>
                      g18 (y107, y110))))
                  (k_bd (f_X12_of v5_30 (0 : Int32) σ) fun v45 =>
                  k_if (v45 ≤ (0 : Int32))
                    (k_nm ((v4_30 + (0 : Int32))) fun y77 =>
                    k_nm (v5_30 + (1 : Int32)) fun y79 =>
                    g30 (y77, y79))
                    (k_bd (f_X12_heard v5_30 σ) fun v55 =>
                    k_bd (f_X12_seenAt v5_30 σ) fun v61 =>
                    k_bd (f_X12_known (2 : Int32) v55 v61) fun v64 =>
                    k_if (v64 = v3_18)
                      (k_nm ((v4_30 + (1 : Int32))) fun y77 =>
                      k_nm (v5_30 + (1 : Int32)) fun y79 =>
                      g30 (y77, y79))
                      (k_nm ((v4_30 + (0 : Int32))) fun y77 =>
                      k_nm (v5_30 + (1 : Int32)) fun y79 =>
                      g30 (y77, y79))))) 100000 ((0 : Int32), (0 : Int32)))) 100000 ((0 : Int32), (0 : Int32)))
      (some (-1 : Int32)))
set_option maxHeartbeats 4000000 in
set_option maxRecDepth 100000 in
theorem e_X12_mixed {l : Launch} {w : k_WC} {d : Nat} (hd : 4 ≤ d) {x1 : Int32}  {σ : k_St} {r : Int32} (h : f_X12_mixed x1 σ = some r) : k_EI l (k_PM w) yX12_mixed cX12_mixed 6 (some .int) d [.ref (w.2.1 0), .int x1] σ r σ := by
  refine k_of (own := RX12) rfl (by decide) (Nat.le_of_ble_eq_true rfl) (fun X hX C hr => ?_)
  show k_K (k_PM w) X (k_MQ X (k_Qi (k_PM w) r σ) (k_PM w).2.2.1) 0 [(0, .ref (w.2.1 0)), (1, .int x1)] [] σ
  unfold f_X12_mixed at h
  refine k_aload_n C dX12_mixed_0 0 rfl ?_
  refine k_get C dX12_mixed_1 (k_gM0_21 w) k_fX12_306 (Or.inl rfl) ?_
  refine k_if_eq C dX12_mixed_4 (tgt := 12) (by decide) (fun c4 => ?_) (fun c4 => ?_)
  · replace h := k_if_t h c4
    refine k_iconst C dX12_mixed_12 (v := -1) rfl ?_
    exact k_iret C dX12_mixed_13 hr (k_p1 h)
  · replace h := k_if_f h c4
    refine k_iload_n C dX12_mixed_7 1 rfl ?_
    refine k_iconst C dX12_mixed_8 (v := -1) rfl ?_
    refine k_icmp_ge C dX12_mixed_9 (tgt := 14) (by decide) (fun c9 => ?_) (fun c9 => ?_)
    · replace h := k_if_t h c9
      refine k_iconst C dX12_mixed_14 (v := 0) rfl ?_
      refine k_istore_n C dX12_mixed_15 (by decide) [1, 2, 0] (L' := [(0, .ref (w.2.1 0)), (1, .int x1), (2, .int (0 : Int32))]) rfl ?_
      refine k_iconst C dX12_mixed_16 (v := 0) rfl ?_
      refine k_istore_n C dX12_mixed_17 (by decide) [1, 2, 3, 0] (L' := [(0, .ref (w.2.1 0)), (1, .int x1), (2, .int (0 : Int32)), (3, .int (0 : Int32))]) rfl ?_
      obtain ⟨b18, eb18, h⟩ := k_lp_e h
      have K18 : ∀ (n : Nat) (v2_18 : Int32) (v3_18 : Int32), k_loop b18 n (v2_18, v3_18) = some r → k_K (k_PM w) X (k_MQ X (k_Qi (k_PM w) r σ) (k_PM w).2.2.1) 18 [(0, .ref (w.2.1 0)), (1, .int x1), (2, .int v2_18), (3, .int v3_18)] [] σ := by
        intro n
        induction n with
        | zero => intro v2_18 v3_18 h; cases h
        | succ n ih18 =>
          intro v2_18 v3_18 h
          obtain ⟨g18, eg18, h⟩ := k_lp_s h
          rw [← eg18] at ih18
          rw [eb18] at h
          refine k_iload_n C dX12_mixed_18 3 rfl ?_
          refine k_bipush C dX12_mixed_19 (v := 16) rfl ?_
          refine k_icmp_ge C dX12_mixed_21 (tgt := 116) (by decide) (fun c21 => ?_) (fun c21 => ?_)
          · replace h := k_if_t h c21
            refine k_iload_n C dX12_mixed_116 1 rfl ?_
            refine k_iconst C dX12_mixed_117 (v := -1) rfl ?_
            refine k_icmp_ne C dX12_mixed_118 (tgt := 125) (by decide) (fun c118 => ?_) (fun c118 => ?_)
            · replace h := k_if_f h c118
              refine k_iconst C dX12_mixed_125 (v := -1) rfl ?_
              exact k_iret C dX12_mixed_126 hr (k_p1 h)
            · replace h := k_if_t h c118
              refine k_iload_n C dX12_mixed_121 2 rfl ?_
              refine k_goto C dX12_mixed_122 (tgt := 126) (by decide) ?_
              exact k_iret C dX12_mixed_126 hr (k_p1 h)
          · replace h := k_if_f h c21
            refine k_iconst C dX12_mixed_24 (v := 0) rfl ?_
            refine k_istore C dX12_mixed_25 (by decide) [1, 2, 3, 4, 0] (L' := [(0, .ref (w.2.1 0)), (1, .int x1), (2, .int v2_18), (3, .int v3_18), (4, .int (0 : Int32))]) rfl ?_
            refine k_iconst C dX12_mixed_27 (v := 0) rfl ?_
            refine k_istore C dX12_mixed_28 (by decide) [1, 2, 3, 4, 5, 0] (L' := [(0, .ref (w.2.1 0)), (1, .int x1), (2, .int v2_18), (3, .int v3_18), (4, .int (0 : Int32)), (5, .int (0 : Int32))]) rfl ?_
            obtain ⟨b30, eb30, h⟩ := k_lp_e h
            have K30 : ∀ (n : Nat) (v4_30 : Int32) (v5_30 : Int32), k_loop b30 n (v4_30, v5_30) = some r → k_K (k_PM w) X (k_MQ X (k_Qi (k_PM w) r σ) (k_PM w).2.2.1) 30 [(0, .ref (w.2.1 0)), (1, .int x1), (2, .int v2_18), (3, .int v3_18), (4, .int v4_30), (5, .int v5_30)] [] σ := by
              intro n
              induction n with
              | zero => intro v4_30 v5_30 h; cases h
              | succ n ih30 =>
                intro v4_30 v5_30 h
                obtain ⟨g30, eg30, h⟩ := k_lp_s h
                rw [← eg30] at ih30
                rw [eb30] at h
                refine k_iload C dX12_mixed_30 5 rfl ?_
                refine k_aload_n C dX12_mixed_32 0 rfl ?_
                refine k_get C dX12_mixed_33 (k_gM0_21 w) k_fX12_306 (Or.inl rfl) ?_
                refine k_icmp_ge C dX12_mixed_36 (tgt := 85) (by decide) (fun c36 => ?_) (fun c36 => ?_)
                · replace h := k_if_t h c36
                  refine k_iload C dX12_mixed_85 4 rfl ?_
                  refine k_iconst C dX12_mixed_87 (v := 1) rfl ?_
                  refine k_icmp_le C dX12_mixed_88 (tgt := 110) (by decide) (fun c88 => ?_) (fun c88 => ?_)
                  · replace h := k_if_t h c88
                    refine k_iinc C dX12_mixed_110 3 rfl (v := 1) rfl (by decide) [1, 2, 3, 0, 4, 5] (L' := fun z9 => [(0, .ref (w.2.1 0)), (1, .int x1), (2, .int v2_18), (3, .int z9), (4, .int v4_30), (5, .int v5_30)]) (fun z9 => rfl) (fun y110 ey110 => ?_)
                    replace h := k_nm_e h y110 ey110
                    refine k_goto C dX12_mixed_113 (tgt := 18) (by decide) ?_
                    refine k_sub (L' := [(0, .ref (w.2.1 0)), (1, .int x1), (2, .int v2_18), (3, .int y110)]) [0, 1, 2, 3] rfl ?_
                    exact ih18 _ _ h
                  · replace h := k_if_f h c88
                    refine k_iload_n C dX12_mixed_91 2 rfl ?_
                    refine k_iload_n C dX12_mixed_92 1 rfl ?_
                    refine k_icmp_ne C dX12_mixed_93 (tgt := 107) (by decide) (fun c93 => ?_) (fun c93 => ?_)
                    · replace h := k_if_f h c93
                      refine k_iinc C dX12_mixed_107 2 rfl (v := 1) rfl (by decide) [1, 2, 0, 3, 4, 5] (L' := fun z9 => [(0, .ref (w.2.1 0)), (1, .int x1), (2, .int z9), (3, .int v3_18), (4, .int v4_30), (5, .int v5_30)]) (fun z9 => rfl) (fun y107 ey107 => ?_)
                      replace h := k_nm_e h y107 ey107
                      refine k_iinc C dX12_mixed_110 3 rfl (v := 1) rfl (by decide) [1, 2, 3, 0, 4, 5] (L' := fun z9 => [(0, .ref (w.2.1 0)), (1, .int x1), (2, .int y107), (3, .int z9), (4, .int v4_30), (5, .int v5_30)]) (fun z9 => rfl) (fun y110 ey110 => ?_)
                      replace h := k_nm_e h y110 ey110
                      refine k_goto C dX12_mixed_113 (tgt := 18) (by decide) ?_
                      refine k_sub (L' := [(0, .ref (w.2.1 0)), (1, .int x1), (2, .int y107), (3, .int y110)]) [0, 1, 2, 3] rfl ?_
                      exact ih18 _ _ h
                    · replace h := k_if_t h c93
                      refine k_bipush C dX12_mixed_96 (v := 10) rfl ?_
                      refine k_iload_n C dX12_mixed_98 3 rfl ?_
                      refine k_iconst C dX12_mixed_99 (v := 4) rfl ?_
                      refine k_idiv C dX12_mixed_100 (by decide) ?_
                      refine k_imul C dX12_mixed_101 ?_
                      refine k_iload_n C dX12_mixed_102 3 rfl ?_
                      refine k_iconst C dX12_mixed_103 (v := 4) rfl ?_
                      refine k_irem C dX12_mixed_104 (by decide) ?_
                      refine k_iadd C dX12_mixed_105 ?_
                      exact k_iret C dX12_mixed_106 hr (k_p1 h)
                · replace h := k_if_f h c36
                  refine k_iload C dX12_mixed_39 4 rfl ?_
                  refine k_aload_n C dX12_mixed_41 0 rfl ?_
                  refine k_iload C dX12_mixed_42 5 rfl ?_
                  refine k_iconst C dX12_mixed_44 (v := 0) rfl ?_
                  obtain ⟨v45, h45, h⟩ := k_bd_e h
                  refine k_goI (k_runV C dX12_mixed_45 (e_X12_of (d := 2) (Nat.le_refl _) h45) k_lX12_343 k_yX12_of (k_oM0 w) (by omega) rfl (Nat.le_of_ble_eq_true rfl)) ?_
                  refine k_if_le C dX12_mixed_48 (tgt := 75) (by decide) (fun c48 => ?_) (fun c48 => ?_)
                  · replace h := k_if_t h c48
                    refine k_iconst C dX12_mixed_75 (v := 0) rfl ?_
                    refine k_iadd C dX12_mixed_76 ?_
                    refine k_topi (fun y77 ey77 => ?_)
                    replace h := k_nm_e h y77 ey77
                    refine k_istore C dX12_mixed_77 (by decide) [1, 2, 3, 4, 0, 5] (L' := [(0, .ref (w.2.1 0)), (1, .int x1), (2, .int v2_18), (3, .int v3_18), (4, .int y77), (5, .int v5_30)]) rfl ?_
                    refine k_iinc C dX12_mixed_79 5 rfl (v := 1) rfl (by decide) [1, 2, 3, 4, 5, 0] (L' := fun z9 => [(0, .ref (w.2.1 0)), (1, .int x1), (2, .int v2_18), (3, .int v3_18), (4, .int y77), (5, .int z9)]) (fun z9 => rfl) (fun y79 ey79 => ?_)
                    replace h := k_nm_e h y79 ey79
                    refine k_goto C dX12_mixed_82 (tgt := 30) (by decide) ?_
                    exact ih30 _ _ h
                  · replace h := k_if_f h c48
                    refine k_iconst C dX12_mixed_51 (v := 2) rfl ?_
                    refine k_aload_n C dX12_mixed_52 0 rfl ?_
                    refine k_iload C dX12_mixed_53 5 rfl ?_
                    obtain ⟨v55, h55, h⟩ := k_bd_e h
                    refine k_goI (k_runV C dX12_mixed_55 (e_X12_heard (d := 3) (Nat.le_refl _) h55) k_lX12_366 k_yX12_heard (k_oM0 w) (by omega) rfl (Nat.le_of_ble_eq_true rfl)) ?_
                    refine k_aload_n C dX12_mixed_58 0 rfl ?_
                    refine k_iload C dX12_mixed_59 5 rfl ?_
                    obtain ⟨v61, h61, h⟩ := k_bd_e h
                    refine k_goI (k_runV C dX12_mixed_61 (e_X12_seenAt (d := 3) (Nat.le_refl _) h61) k_lX12_369 k_yX12_seenAt (k_oM0 w) (by omega) rfl (Nat.le_of_ble_eq_true rfl)) ?_
                    obtain ⟨v64, h64, h⟩ := k_bd_e h
                    refine k_goI (k_runS C dX12_mixed_64 (e_X12_known (d := 2) (Nat.le_refl _) h64) k_lX12_431 k_yX12_known (by omega) rfl (Nat.le_of_ble_eq_true rfl)) ?_
                    refine k_iload_n C dX12_mixed_67 3 rfl ?_
                    refine k_icmp_ne C dX12_mixed_68 (tgt := 75) (by decide) (fun c68 => ?_) (fun c68 => ?_)
                    · replace h := k_if_f h c68
                      refine k_iconst C dX12_mixed_75 (v := 0) rfl ?_
                      refine k_iadd C dX12_mixed_76 ?_
                      refine k_topi (fun y77 ey77 => ?_)
                      replace h := k_nm_e h y77 ey77
                      refine k_istore C dX12_mixed_77 (by decide) [1, 2, 3, 4, 0, 5] (L' := [(0, .ref (w.2.1 0)), (1, .int x1), (2, .int v2_18), (3, .int v3_18), (4, .int y77), (5, .int v5_30)]) rfl ?_
                      refine k_iinc C dX12_mixed_79 5 rfl (v := 1) rfl (by decide) [1, 2, 3, 4, 5, 0] (L' := fun z9 => [(0, .ref (w.2.1 0)), (1, .int x1), (2, .int v2_18), (3, .int v3_18), (4, .int y77), (5, .int z9)]) (fun z9 => rfl) (fun y79 ey79 => ?_)
                      replace h := k_nm_e h y79 ey79
                      refine k_goto C dX12_mixed_82 (tgt := 30) (by decide) ?_
                      exact ih30 _ _ h
                    · replace h := k_if_t h c68
                      refine k_iconst C dX12_mixed_71 (v := 1) rfl ?_
                      refine k_goto C dX12_mixed_72 (tgt := 76) (by decide) ?_
                      refine k_iadd C dX12_mixed_76 ?_
                      refine k_topi (fun y77 ey77 => ?_)
                      replace h := k_nm_e h y77 ey77
                      refine k_istore C dX12_mixed_77 (by decide) [1, 2, 3, 4, 0, 5] (L' := [(0, .ref (w.2.1 0)), (1, .int x1), (2, .int v2_18), (3, .int v3_18), (4, .int y77), (5, .int v5_30)]) rfl ?_
                      refine k_iinc C dX12_mixed_79 5 rfl (v := 1) rfl (by decide) [1, 2, 3, 4, 5, 0] (L' := fun z9 => [(0, .ref (w.2.1 0)), (1, .int x1), (2, .int v2_18), (3, .int v3_18), (4, .int y77), (5, .int z9)]) (fun z9 => rfl) (fun y79 ey79 => ?_)
                      replace h := k_nm_e h y79 ey79
                      refine k_goto C dX12_mixed_82 (tgt := 30) (by decide) ?_
                      exact ih30 _ _ h
            exact K30 _ _ _ h
      exact K18 _ _ _ h
    · replace h := k_if_f h c9
      refine k_iconst C dX12_mixed_12 (v := -1) rfl ?_
      exact k_iret C dX12_mixed_13 hr (k_p1 h)
def f_X12_partsThere (a1 : Nat) (x2 : Int32) (x3 : Int32) (σ : k_St) : Option (Int32) :=
  k_bd (f_X12_heard x3 σ) fun v3 =>
  k_gd (k_ix v3 (k_nM a1) = true) <|
  k_nm ((k_rd σ a1 v3.toNatClampNeg)) fun y7 =>
  k_bd (f_X12_seenAt x3 σ) fun v16 =>
  k_nm ((((16 : Int32) * x2) + ((4 : Int32) * v16))) fun y21 =>
  k_jn (fun (t0_36 : Int32) =>
    k_gd (k_ix (y21 + y7) 64 = true) <|
    k_jn (fun (t0_61 : Int32) =>
      k_gd (k_ix y21 64 = true) <|
      k_if ((k_rd σ 23 y21.toNatClampNeg) = x3)
        (some (t0_61 + t0_36))
        (some (t0_61 + (0 : Int32)))) fun j61 =>
    k_if ((k_rd σ 23 (y21 + y7).toNatClampNeg) = x3)
      (j61 ((100 : Int32) - t0_36))
      (j61 (0 : Int32))) fun j36 =>
  k_if (y7 = (0 : Int32))
    (j36 (0 : Int32))
    (j36 (k_rd σ 0 23))
set_option maxHeartbeats 4000000 in
set_option maxRecDepth 100000 in
theorem e_X12_partsThere {l : Launch} {w : k_WC} {d : Nat} (hd : 4 ≤ d) {a1 : Nat} {x2 : Int32} {x3 : Int32} (ha1 : k_AI (k_PM w) .int a1 (w.2.1 a1) (k_nM a1)) {σ : k_St} {r : Int32} (h : f_X12_partsThere a1 x2 x3 σ = some r) : k_EI l (k_PM w) yX12_partsThere cX12_partsThere 7 (some .int) d [.ref (w.2.1 0), .ref (w.2.1 a1), .int x2, .int x3] σ r σ := by
  refine k_of (own := RX12) rfl (by decide) (Nat.le_of_ble_eq_true rfl) (fun X hX C hr => ?_)
  show k_K (k_PM w) X (k_MQ X (k_Qi (k_PM w) r σ) (k_PM w).2.2.1) 0 [(0, .ref (w.2.1 0)), (1, .ref (w.2.1 a1)), (2, .int x2), (3, .int x3)] [] σ
  unfold f_X12_partsThere at h
  refine k_aload_n C dX12_partsThere_0 1 rfl ?_
  refine k_aload_n C dX12_partsThere_1 0 rfl ?_
  refine k_iload_n C dX12_partsThere_2 3 rfl ?_
  obtain ⟨v3, h3, h⟩ := k_bd_e h
  refine k_goI (k_runV C dX12_partsThere_3 (e_X12_heard (d := 3) (Nat.le_refl _) h3) k_lX12_366 k_yX12_heard (k_oM0 w) (by omega) rfl (Nat.le_of_ble_eq_true rfl)) ?_
  obtain ⟨q6, h⟩ := k_gd_e h
  refine k_iald C dX12_partsThere_6 ha1 q6 ?_
  refine k_topi (fun y7 ey7 => ?_)
  replace h := k_nm_e h y7 ey7
  refine k_istore C dX12_partsThere_7 (by decide) [1, 2, 3, 4, 0] (L' := [(0, .ref (w.2.1 0)), (1, .ref (w.2.1 a1)), (2, .int x2), (3, .int x3), (4, .int y7)]) rfl ?_
  refine k_bipush C dX12_partsThere_9 (v := 16) rfl ?_
  refine k_iload_n C dX12_partsThere_11 2 rfl ?_
  refine k_imul C dX12_partsThere_12 ?_
  refine k_iconst C dX12_partsThere_13 (v := 4) rfl ?_
  refine k_aload_n C dX12_partsThere_14 0 rfl ?_
  refine k_iload_n C dX12_partsThere_15 3 rfl ?_
  obtain ⟨v16, h16, h⟩ := k_bd_e h
  refine k_goI (k_runV C dX12_partsThere_16 (e_X12_seenAt (d := 3) (Nat.le_refl _) h16) k_lX12_369 k_yX12_seenAt (k_oM0 w) (by omega) rfl (Nat.le_of_ble_eq_true rfl)) ?_
  refine k_imul C dX12_partsThere_19 ?_
  refine k_iadd C dX12_partsThere_20 ?_
  refine k_topi (fun y21 ey21 => ?_)
  replace h := k_nm_e h y21 ey21
  refine k_istore C dX12_partsThere_21 (by decide) [1, 2, 3, 4, 5, 0] (L' := [(0, .ref (w.2.1 0)), (1, .ref (w.2.1 a1)), (2, .int x2), (3, .int x3), (4, .int y7), (5, .int y21)]) rfl ?_
  refine k_iload C dX12_partsThere_23 4 rfl ?_
  obtain ⟨j36, ej36, h⟩ := k_jn_e h
  have Jj36 : ∀ (t0_36 : Int32), j36 t0_36 = some r → k_K (k_PM w) X (k_MQ X (k_Qi (k_PM w) r σ) (k_PM w).2.2.1) 36 [(0, .ref (w.2.1 0)), (3, .int x3), (4, .int y7), (5, .int y21)] [.int t0_36] σ := by
    intro t0_36 h
    rw [ej36] at h
    refine k_istore C dX12_partsThere_36 (by decide) [1, 2, 3, 4, 0] (L' := [(0, .ref (w.2.1 0)), (3, .int x3), (4, .int y7), (5, .int y21), (6, .int t0_36)]) rfl ?_
    refine k_aload_n C dX12_partsThere_38 0 rfl ?_
    refine k_get C dX12_partsThere_39 (k_gM0_40 w) k_fX12_80 (Or.inl rfl) ?_
    refine k_iload C dX12_partsThere_42 3 rfl ?_
    refine k_iload C dX12_partsThere_44 2 rfl ?_
    refine k_iadd C dX12_partsThere_46 ?_
    obtain ⟨q47, h⟩ := k_gd_e h
    refine k_iald C dX12_partsThere_47 (k_aM23 w) q47 ?_
    refine k_iload_n C dX12_partsThere_48 1 rfl ?_
    obtain ⟨j61, ej61, h⟩ := k_jn_e h
    have Jj61 : ∀ (t0_61 : Int32), j61 t0_61 = some r → k_K (k_PM w) X (k_MQ X (k_Qi (k_PM w) r σ) (k_PM w).2.2.1) 61 [(0, .ref (w.2.1 0)), (3, .int x3), (5, .int y21), (6, .int t0_36)] [.int t0_61] σ := by
      intro t0_61 h
      rw [ej61] at h
      refine k_aload_n C dX12_partsThere_61 0 rfl ?_
      refine k_get C dX12_partsThere_62 (k_gM0_40 w) k_fX12_80 (Or.inl rfl) ?_
      refine k_iload C dX12_partsThere_65 2 rfl ?_
      obtain ⟨q67, h⟩ := k_gd_e h
      refine k_iald C dX12_partsThere_67 (k_aM23 w) q67 ?_
      refine k_iload_n C dX12_partsThere_68 1 rfl ?_
      refine k_icmp_ne C dX12_partsThere_69 (tgt := 77) (by decide) (fun c69 => ?_) (fun c69 => ?_)
      · replace h := k_if_f h c69
        refine k_iconst C dX12_partsThere_77 (v := 0) rfl ?_
        refine k_iadd C dX12_partsThere_78 ?_
        exact k_iret C dX12_partsThere_79 hr (k_p1 h)
      · replace h := k_if_t h c69
        refine k_iload C dX12_partsThere_72 3 rfl ?_
        refine k_goto C dX12_partsThere_74 (tgt := 78) (by decide) ?_
        refine k_iadd C dX12_partsThere_78 ?_
        exact k_iret C dX12_partsThere_79 hr (k_p1 h)
    refine k_icmp_ne C dX12_partsThere_49 (tgt := 60) (by decide) (fun c49 => ?_) (fun c49 => ?_)
    · replace h := k_if_f h c49
      refine k_iconst C dX12_partsThere_60 (v := 0) rfl ?_
      refine k_sub (L' := [(0, .ref (w.2.1 0)), (3, .int x3), (5, .int y21), (6, .int t0_36)]) [0, 1, 3, 4] rfl ?_
      exact Jj61 _ h
    · replace h := k_if_t h c49
      refine k_bipush C dX12_partsThere_52 (v := 100) rfl ?_
      refine k_iload C dX12_partsThere_54 4 rfl ?_
      refine k_isub C dX12_partsThere_56 ?_
      refine k_goto C dX12_partsThere_57 (tgt := 61) (by decide) ?_
      refine k_sub (L' := [(0, .ref (w.2.1 0)), (3, .int x3), (5, .int y21), (6, .int t0_36)]) [0, 1, 3, 4] rfl ?_
      exact Jj61 _ h
  refine k_if_ne C dX12_partsThere_25 (tgt := 32) (by decide) (fun c25 => ?_) (fun c25 => ?_)
  · replace h := k_if_f h c25
    refine k_aload_n C dX12_partsThere_32 0 rfl ?_
    refine k_get C dX12_partsThere_33 (k_gM0_23 w) k_fX12_312 (Or.inl rfl) ?_
    refine k_sub (L' := [(0, .ref (w.2.1 0)), (3, .int x3), (4, .int y7), (5, .int y21)]) [0, 3, 4, 5] rfl ?_
    exact Jj36 _ h
  · replace h := k_if_t h c25
    refine k_iconst C dX12_partsThere_28 (v := 0) rfl ?_
    refine k_goto C dX12_partsThere_29 (tgt := 36) (by decide) ?_
    refine k_sub (L' := [(0, .ref (w.2.1 0)), (3, .int x3), (4, .int y7), (5, .int y21)]) [0, 3, 4, 5] rfl ?_
    exact Jj36 _ h
def f_X12_gainOf (x1 : Int32) (x2 : Int32) (x3 : Int32) (x4 : Int32) (σ : k_St) : Option (Int64 × k_St) :=
  k_gd (k_ix x1 4 = true) <|
  k_b2 (f_X12_spreadOut (k_rd σ 22 x1.toNatClampNeg) (4 : Int32) 29 σ) fun v11 s11 =>
  k_gd (k_ix x3 4 = true) <|
  k_b2 (f_X12_spreadOut (k_rd s11 22 x3.toNatClampNeg) (4 : Int32) 30 s11) fun v26 s26 =>
  k_loop (fun (g36 : Int64 × Int32 × k_St → Option (Int64 × k_St)) (z36 : Int64 × Int32 × k_St) => match z36 with
    | (v5_36, v7_36, s_36) =>
      k_if ((k_rd s_36 0 21) ≤ v7_36)
        (some (v5_36, s_36))
        (k_bd (f_X12_partsThere 29 x2 v7_36 s_36) fun v53 =>
        k_bd (f_X12_partsThere 30 x4 v7_36 s_36) fun v67 =>
        k_b2 (f_X12_worthAt v7_36 s_36) fun v75 s75 =>
        k_bd (f_X12_of v7_36 (0 : Int32) s75) fun v86 =>
        k_nm ((v5_36 + ((v86.toInt64 * v53.toInt64) * ((v67 * (v75 / (2 : Int32))) + (((100 : Int32) - v67) * v75)).toInt64))) fun y113 =>
        k_nm (v7_36 + (1 : Int32)) fun y115 =>
        g36 (y113, y115, s75))) 100000 ((0 : Int64), (0 : Int32), s26)
set_option maxHeartbeats 4000000 in
set_option maxRecDepth 100000 in
theorem e_X12_gainOf {l : Launch} {w : k_WC} {d : Nat} (hd : 8 ≤ d) {x1 : Int32} {x2 : Int32} {x3 : Int32} {x4 : Int32}  {σ σ' : k_St} {r : Int64} (h : f_X12_gainOf x1 x2 x3 x4 σ = some (r, σ')) : k_EL l (k_PM w) yX12_gainOf cX12_gainOf 11 d [.ref (w.2.1 0), .int x1, .int x2, .int x3, .int x4] σ r σ' := by
  refine k_of (own := RX12) rfl (by decide) (Nat.le_of_ble_eq_true rfl) (fun X hX C hr => ?_)
  show k_K (k_PM w) X (k_MQ X (k_Ql (k_PM w) r σ') (k_PM w).2.2.1) 0 [(0, .ref (w.2.1 0)), (1, .int x1), (2, .int x2), (3, .int x3), (4, .int x4)] [] σ
  unfold f_X12_gainOf at h
  refine k_aload_n C dX12_gainOf_0 0 rfl ?_
  refine k_get C dX12_gainOf_1 (k_gM0_39 w) k_fX12_77 (Or.inl rfl) ?_
  refine k_iload_n C dX12_gainOf_4 1 rfl ?_
  obtain ⟨q5, h⟩ := k_gd_e h
  refine k_iald C dX12_gainOf_5 (k_aM22 w) q5 ?_
  refine k_iconst C dX12_gainOf_6 (v := 4) rfl ?_
  refine k_aload_n C dX12_gainOf_7 0 rfl ?_
  refine k_get C dX12_gainOf_8 (k_gM0_46 w) k_fX12_100 (Or.inl rfl) ?_
  obtain ⟨v11, s11, h11, h⟩ := k_b2_e h
  refine k_goI (k_runS C dX12_gainOf_11 (e_X12_spreadOut (d := 3) (Nat.le_refl _) (k_aM29 w) h11) k_lX12_359 k_yX12_spreadOut (by omega) rfl (Nat.le_of_ble_eq_true rfl)) ?_
  refine k_pop C dX12_gainOf_14 rfl ?_
  refine k_aload_n C dX12_gainOf_15 0 rfl ?_
  refine k_get C dX12_gainOf_16 (k_gM0_39 w) k_fX12_77 (Or.inl rfl) ?_
  refine k_iload_n C dX12_gainOf_19 3 rfl ?_
  obtain ⟨q20, h⟩ := k_gd_e h
  refine k_iald C dX12_gainOf_20 (k_aM22 w) q20 ?_
  refine k_iconst C dX12_gainOf_21 (v := 4) rfl ?_
  refine k_aload_n C dX12_gainOf_22 0 rfl ?_
  refine k_get C dX12_gainOf_23 (k_gM0_47 w) k_fX12_103 (Or.inl rfl) ?_
  obtain ⟨v26, s26, h26, h⟩ := k_b2_e h
  refine k_goI (k_runS C dX12_gainOf_26 (e_X12_spreadOut (d := 3) (Nat.le_refl _) (k_aM30 w) h26) k_lX12_359 k_yX12_spreadOut (by omega) rfl (Nat.le_of_ble_eq_true rfl)) ?_
  refine k_pop C dX12_gainOf_29 rfl ?_
  refine k_lconst C dX12_gainOf_30 (v := 0) rfl ?_
  refine k_lstore C dX12_gainOf_31 (by decide) [1, 2, 3, 4, 5, 0] (L' := [(0, .ref (w.2.1 0)), (1, .int x1), (2, .int x2), (3, .int x3), (4, .int x4), (5, .long (0 : Int64))]) rfl ?_
  refine k_iconst C dX12_gainOf_33 (v := 0) rfl ?_
  refine k_istore C dX12_gainOf_34 (by decide) [1, 2, 3, 4, 5, 6, 0] (L' := [(0, .ref (w.2.1 0)), (1, .int x1), (2, .int x2), (3, .int x3), (4, .int x4), (5, .long (0 : Int64)), (7, .int (0 : Int32))]) rfl ?_
  obtain ⟨b36, eb36, h⟩ := k_lp_e h
  have K36 : ∀ (n : Nat) (v5_36 : Int64) (v7_36 : Int32) (s_36 : k_St), k_loop b36 n (v5_36, v7_36, s_36) = some (r, σ') → k_K (k_PM w) X (k_MQ X (k_Ql (k_PM w) r σ') (k_PM w).2.2.1) 36 [(0, .ref (w.2.1 0)), (2, .int x2), (4, .int x4), (5, .long v5_36), (7, .int v7_36)] [] s_36 := by
    intro n
    induction n with
    | zero => intro v5_36 v7_36 s_36 h; cases h
    | succ n ih36 =>
      intro v5_36 v7_36 s_36 h
      obtain ⟨g36, eg36, h⟩ := k_lp_s h
      rw [← eg36] at ih36
      rw [eb36] at h
      refine k_iload C dX12_gainOf_36 4 rfl ?_
      refine k_aload_n C dX12_gainOf_38 0 rfl ?_
      refine k_get C dX12_gainOf_39 (k_gM0_21 w) k_fX12_306 (Or.inl rfl) ?_
      refine k_icmp_ge C dX12_gainOf_42 (tgt := 121) (by decide) (fun c42 => ?_) (fun c42 => ?_)
      · replace h := k_if_t h c42
        refine k_lload C dX12_gainOf_121 3 rfl ?_
        exact k_lret C dX12_gainOf_123 hr (Option.some.inj h)
      · replace h := k_if_f h c42
        refine k_aload_n C dX12_gainOf_45 0 rfl ?_
        refine k_aload_n C dX12_gainOf_46 0 rfl ?_
        refine k_get C dX12_gainOf_47 (k_gM0_46 w) k_fX12_100 (Or.inl rfl) ?_
        refine k_iload_n C dX12_gainOf_50 1 rfl ?_
        refine k_iload C dX12_gainOf_51 4 rfl ?_
        obtain ⟨v53, h53, h⟩ := k_bd_e h
        refine k_goI (k_runV C dX12_gainOf_53 (e_X12_partsThere (d := 4) (Nat.le_refl _) (k_aM29 w) h53) k_lX12_468 k_yX12_partsThere (k_oM0 w) (by omega) rfl (Nat.le_of_ble_eq_true rfl)) ?_
        refine k_istore C dX12_gainOf_56 (by decide) [1, 2, 3, 4, 5, 0] (L' := [(0, .ref (w.2.1 0)), (2, .int x2), (4, .int x4), (5, .long v5_36), (7, .int v7_36), (8, .int v53)]) rfl ?_
        refine k_aload_n C dX12_gainOf_58 0 rfl ?_
        refine k_aload_n C dX12_gainOf_59 0 rfl ?_
        refine k_get C dX12_gainOf_60 (k_gM0_47 w) k_fX12_103 (Or.inl rfl) ?_
        refine k_iload C dX12_gainOf_63 2 rfl ?_
        refine k_iload C dX12_gainOf_65 4 rfl ?_
        obtain ⟨v67, h67, h⟩ := k_bd_e h
        refine k_goI (k_runV C dX12_gainOf_67 (e_X12_partsThere (d := 4) (Nat.le_refl _) (k_aM30 w) h67) k_lX12_468 k_yX12_partsThere (k_oM0 w) (by omega) rfl (Nat.le_of_ble_eq_true rfl)) ?_
        refine k_istore C dX12_gainOf_70 (by decide) [1, 2, 3, 4, 5, 6, 0] (L' := [(0, .ref (w.2.1 0)), (2, .int x2), (4, .int x4), (5, .long v5_36), (7, .int v7_36), (8, .int v53), (9, .int v67)]) rfl ?_
        refine k_aload_n C dX12_gainOf_72 0 rfl ?_
        refine k_iload C dX12_gainOf_73 4 rfl ?_
        obtain ⟨v75, s75, h75, h⟩ := k_b2_e h
        refine k_goI (k_runV C dX12_gainOf_75 (e_X12_worthAt (d := 7) (Nat.le_refl _) h75) k_lX12_356 k_yX12_worthAt (k_oM0 w) (by omega) rfl (Nat.le_of_ble_eq_true rfl)) ?_
        refine k_istore C dX12_gainOf_78 (by decide) [1, 2, 3, 4, 5, 6, 7, 0] (L' := [(0, .ref (w.2.1 0)), (2, .int x2), (4, .int x4), (5, .long v5_36), (7, .int v7_36), (8, .int v53), (9, .int v67), (10, .int v75)]) rfl ?_
        refine k_lload C dX12_gainOf_80 3 rfl ?_
        refine k_aload_n C dX12_gainOf_82 0 rfl ?_
        refine k_iload C dX12_gainOf_83 4 rfl ?_
        refine k_iconst C dX12_gainOf_85 (v := 0) rfl ?_
        obtain ⟨v86, h86, h⟩ := k_bd_e h
        refine k_goI (k_runV C dX12_gainOf_86 (e_X12_of (d := 2) (Nat.le_refl _) h86) k_lX12_343 k_yX12_of (k_oM0 w) (by omega) rfl (Nat.le_of_ble_eq_true rfl)) ?_
        refine k_i2l C dX12_gainOf_89 ?_
        refine k_iload C dX12_gainOf_90 5 rfl ?_
        refine k_i2l C dX12_gainOf_92 ?_
        refine k_lmul C dX12_gainOf_93 ?_
        refine k_iload C dX12_gainOf_94 6 rfl ?_
        refine k_iload C dX12_gainOf_96 7 rfl ?_
        refine k_iconst C dX12_gainOf_98 (v := 2) rfl ?_
        refine k_idiv C dX12_gainOf_99 (by decide) ?_
        refine k_imul C dX12_gainOf_100 ?_
        refine k_bipush C dX12_gainOf_101 (v := 100) rfl ?_
        refine k_iload C dX12_gainOf_103 6 rfl ?_
        refine k_isub C dX12_gainOf_105 ?_
        refine k_iload C dX12_gainOf_106 7 rfl ?_
        refine k_imul C dX12_gainOf_108 ?_
        refine k_iadd C dX12_gainOf_109 ?_
        refine k_i2l C dX12_gainOf_110 ?_
        refine k_lmul C dX12_gainOf_111 ?_
        refine k_ladd C dX12_gainOf_112 ?_
        refine k_topl (fun y113 ey113 => ?_)
        replace h := k_nm_e h y113 ey113
        refine k_lstore C dX12_gainOf_113 (by decide) [1, 2, 3, 0, 4, 5, 6, 7] (L' := [(0, .ref (w.2.1 0)), (2, .int x2), (4, .int x4), (5, .long y113), (7, .int v7_36), (8, .int v53), (9, .int v67), (10, .int v75)]) rfl ?_
        refine k_iinc C dX12_gainOf_115 4 rfl (v := 1) rfl (by decide) [1, 2, 3, 4, 0, 5, 6, 7] (L' := fun z9 => [(0, .ref (w.2.1 0)), (2, .int x2), (4, .int x4), (5, .long y113), (7, .int z9), (8, .int v53), (9, .int v67), (10, .int v75)]) (fun z9 => rfl) (fun y115 ey115 => ?_)
        replace h := k_nm_e h y115 ey115
        refine k_goto C dX12_gainOf_118 (tgt := 36) (by decide) ?_
        refine k_sub (L' := [(0, .ref (w.2.1 0)), (2, .int x2), (4, .int x4), (5, .long y113), (7, .int y115)]) [0, 1, 2, 3, 4] rfl ?_
        exact ih36 _ _ _ h
  refine k_sub (L' := [(0, .ref (w.2.1 0)), (2, .int x2), (4, .int x4), (5, .long (0 : Int64)), (7, .int (0 : Int32))]) [0, 2, 4, 5, 6] rfl ?_
  exact K36 _ _ _ _ h
def f_X12_isBoat (x1 : Int32) (σ : k_St) : Option (Int32) :=
  k_if (x1 < (0 : Int32))
    (some (0 : Int32))
    (k_bd (f_X12_areShelved (x1 / (10 : Int32)) (o_rem x1 (10 : Int32)) σ) fun v13 =>
    k_if (v13 = (0 : Int32))
      (some (0 : Int32))
      (some (1 : Int32)))
set_option maxHeartbeats 4000000 in
set_option maxRecDepth 100000 in
theorem e_X12_isBoat {l : Launch} {w : k_WC} {d : Nat} (hd : 4 ≤ d) {x1 : Int32}  {σ : k_St} {r : Int32} (h : f_X12_isBoat x1 σ = some r) : k_EI l (k_PM w) yX12_isBoat cX12_isBoat 2 (some .boolean) d [.ref (w.2.1 0), .int x1] σ r σ := by
  refine k_of (own := RX12) rfl (by decide) (Nat.le_of_ble_eq_true rfl) (fun X hX C hr => ?_)
  show k_K (k_PM w) X (k_MQ X (k_Qi (k_PM w) r σ) (k_PM w).2.2.1) 0 [(0, .ref (w.2.1 0)), (1, .int x1)] [] σ
  unfold f_X12_isBoat at h
  refine k_iload_n C dX12_isBoat_0 1 rfl ?_
  refine k_if_lt C dX12_isBoat_1 (tgt := 23) (by decide) (fun c1 => ?_) (fun c1 => ?_)
  · replace h := k_if_t h c1
    refine k_iconst C dX12_isBoat_23 (v := 0) rfl ?_
    exact k_zret C dX12_isBoat_24 hr rfl (k_p1 h)
  · replace h := k_if_f h c1
    refine k_aload_n C dX12_isBoat_4 0 rfl ?_
    refine k_iload_n C dX12_isBoat_5 1 rfl ?_
    refine k_bipush C dX12_isBoat_6 (v := 10) rfl ?_
    refine k_idiv C dX12_isBoat_8 (by decide) ?_
    refine k_iload_n C dX12_isBoat_9 1 rfl ?_
    refine k_bipush C dX12_isBoat_10 (v := 10) rfl ?_
    refine k_irem C dX12_isBoat_12 (by decide) ?_
    obtain ⟨v13, h13, h⟩ := k_bd_e h
    refine k_goI (k_runV C dX12_isBoat_13 (e_X12_areShelved (d := 3) (Nat.le_refl _) h13) k_lX12_422 k_yX12_areShelved (k_oM0 w) (by omega) rfl (Nat.le_of_ble_eq_true rfl)) ?_
    refine k_if_eq C dX12_isBoat_16 (tgt := 23) (by decide) (fun c16 => ?_) (fun c16 => ?_)
    · replace h := k_if_t h c16
      refine k_iconst C dX12_isBoat_23 (v := 0) rfl ?_
      exact k_zret C dX12_isBoat_24 hr rfl (k_p1 h)
    · replace h := k_if_f h c16
      refine k_iconst C dX12_isBoat_19 (v := 1) rfl ?_
      refine k_goto C dX12_isBoat_20 (tgt := 24) (by decide) ?_
      exact k_zret C dX12_isBoat_24 hr rfl (k_p1 h)
def f_X12_crossed (x1 : Int32) (x2 : Int32) (x3 : Int32) (σ : k_St) : Option (Int64 × k_St) :=
  k_if ((k_rd σ 0 21) = (0 : Int32))
    (some ((-1 : Int64), σ))
    (k_bd (f_X12_isBoat x1 σ) fun v9 =>
    k_if (v9 = (0 : Int32))
      (some ((-1 : Int64), σ))
      (k_bd (f_X12_isBoat x2 σ) fun v17 =>
      k_if (v17 = (0 : Int32))
        (some ((-1 : Int64), σ))
        (k_bd (f_X12_in x3 (0 : Int32) (1 : Int32)) fun v26 =>
        k_if (v26 = (0 : Int32))
          (some ((-1 : Int64), σ))
          (k_b2 (f_X12_gainOf (x1 / (10 : Int32)) (o_rem x1 (10 : Int32)) (x2 / (10 : Int32)) (o_rem x2 (10 : Int32)) σ) fun v53 s53 =>
          k_bd (f_X12_belowBy (2 : Int32) s53) fun v58 =>
          k_bd (f_X12_plainLong v53 v58 x3) fun v62 =>
          some (v62, s53)))))
set_option maxHeartbeats 4000000 in
set_option maxRecDepth 100000 in
theorem e_X12_crossed {l : Launch} {w : k_WC} {d : Nat} (hd : 205 ≤ d) {x1 : Int32} {x2 : Int32} {x3 : Int32}  {σ σ' : k_St} {r : Int64} (h : f_X12_crossed x1 x2 x3 σ = some (r, σ')) : k_EL l (k_PM w) yX12_crossed cX12_crossed 4 d [.ref (w.2.1 0), .int x1, .int x2, .int x3] σ r σ' := by
  refine k_of (own := RX12) rfl (by decide) (Nat.le_of_ble_eq_true rfl) (fun X hX C hr => ?_)
  show k_K (k_PM w) X (k_MQ X (k_Ql (k_PM w) r σ') (k_PM w).2.2.1) 0 [(0, .ref (w.2.1 0)), (1, .int x1), (2, .int x2), (3, .int x3)] [] σ
  unfold f_X12_crossed at h
  refine k_aload_n C dX12_crossed_0 0 rfl ?_
  refine k_get C dX12_crossed_1 (k_gM0_21 w) k_fX12_306 (Or.inl rfl) ?_
  refine k_if_eq C dX12_crossed_4 (tgt := 32) (by decide) (fun c4 => ?_) (fun c4 => ?_)
  · replace h := k_if_t h c4
    refine k_ldc2 C dX12_crossed_32 k_cX12_449 ?_
    exact k_lret C dX12_crossed_35 hr (Option.some.inj h)
  · replace h := k_if_f h c4
    refine k_aload_n C dX12_crossed_7 0 rfl ?_
    refine k_iload_n C dX12_crossed_8 1 rfl ?_
    obtain ⟨v9, h9, h⟩ := k_bd_e h
    refine k_goI (k_runV C dX12_crossed_9 (e_X12_isBoat (d := 4) (Nat.le_refl _) h9) k_lX12_472 k_yX12_isBoat (k_oM0 w) (by omega) rfl (Nat.le_of_ble_eq_true rfl)) ?_
    refine k_if_eq C dX12_crossed_12 (tgt := 32) (by decide) (fun c12 => ?_) (fun c12 => ?_)
    · replace h := k_if_t h c12
      refine k_ldc2 C dX12_crossed_32 k_cX12_449 ?_
      exact k_lret C dX12_crossed_35 hr (Option.some.inj h)
    · replace h := k_if_f h c12
      refine k_aload_n C dX12_crossed_15 0 rfl ?_
      refine k_iload_n C dX12_crossed_16 2 rfl ?_
      obtain ⟨v17, h17, h⟩ := k_bd_e h
      refine k_goI (k_runV C dX12_crossed_17 (e_X12_isBoat (d := 4) (Nat.le_refl _) h17) k_lX12_472 k_yX12_isBoat (k_oM0 w) (by omega) rfl (Nat.le_of_ble_eq_true rfl)) ?_
      refine k_if_eq C dX12_crossed_20 (tgt := 32) (by decide) (fun c20 => ?_) (fun c20 => ?_)
      · replace h := k_if_t h c20
        refine k_ldc2 C dX12_crossed_32 k_cX12_449 ?_
        exact k_lret C dX12_crossed_35 hr (Option.some.inj h)
      · replace h := k_if_f h c20
        refine k_iload_n C dX12_crossed_23 3 rfl ?_
        refine k_iconst C dX12_crossed_24 (v := 0) rfl ?_
        refine k_iconst C dX12_crossed_25 (v := 1) rfl ?_
        obtain ⟨v26, h26, h⟩ := k_bd_e h
        refine k_goI (k_runS C dX12_crossed_26 (e_X12_in (d := 2) (Nat.le_refl _) h26) k_lX12_269 k_yX12_in (by omega) rfl (Nat.le_of_ble_eq_true rfl)) ?_
        refine k_if_ne C dX12_crossed_29 (tgt := 36) (by decide) (fun c29 => ?_) (fun c29 => ?_)
        · replace h := k_if_f h c29
          refine k_aload_n C dX12_crossed_36 0 rfl ?_
          refine k_iload_n C dX12_crossed_37 1 rfl ?_
          refine k_bipush C dX12_crossed_38 (v := 10) rfl ?_
          refine k_idiv C dX12_crossed_40 (by decide) ?_
          refine k_iload_n C dX12_crossed_41 1 rfl ?_
          refine k_bipush C dX12_crossed_42 (v := 10) rfl ?_
          refine k_irem C dX12_crossed_44 (by decide) ?_
          refine k_iload_n C dX12_crossed_45 2 rfl ?_
          refine k_bipush C dX12_crossed_46 (v := 10) rfl ?_
          refine k_idiv C dX12_crossed_48 (by decide) ?_
          refine k_iload_n C dX12_crossed_49 2 rfl ?_
          refine k_bipush C dX12_crossed_50 (v := 10) rfl ?_
          refine k_irem C dX12_crossed_52 (by decide) ?_
          obtain ⟨v53, s53, h53, h⟩ := k_b2_e h
          refine k_goL (k_runV C dX12_crossed_53 (e_X12_gainOf (d := 8) (Nat.le_refl _) h53) k_lX12_475 k_yX12_gainOf (k_oM0 w) (by omega) rfl (Nat.le_of_ble_eq_true rfl)) ?_
          refine k_aload_n C dX12_crossed_56 0 rfl ?_
          refine k_iconst C dX12_crossed_57 (v := 2) rfl ?_
          obtain ⟨v58, h58, h⟩ := k_bd_e h
          refine k_goL (k_runV C dX12_crossed_58 (e_X12_belowBy (d := 4) (Nat.le_refl _) h58) k_lX12_455 k_yX12_belowBy (k_oM0 w) (by omega) rfl (Nat.le_of_ble_eq_true rfl)) ?_
          refine k_iload_n C dX12_crossed_61 3 rfl ?_
          obtain ⟨v62, h62, h⟩ := k_bd_e h
          refine k_goL (k_runS C dX12_crossed_62 (e_X12_plainLong (d := 204) (Nat.le_refl _) h62) k_lX12_459 k_yX12_plainLong (by omega) rfl (Nat.le_of_ble_eq_true rfl)) ?_
          exact k_lret C dX12_crossed_65 hr (Option.some.inj h)
        · replace h := k_if_t h c29
          refine k_ldc2 C dX12_crossed_32 k_cX12_449 ?_
          exact k_lret C dX12_crossed_35 hr (Option.some.inj h)
def f_X12_isRest (x1 : Int32) (x2 : Int32) (x3 : Int32) (x4 : Int32) (σ : k_St) : Option (Int32 × k_St) :=
  k_loop (fun (g3 : Int32 × k_St → Option (Int32 × k_St)) (z3 : Int32 × k_St) => match z3 with
    | (v5_3, s_3) =>
      k_if ((4 : Int32) ≤ v5_3)
        (some ((1 : Int32), s_3))
        (k_gd (k_ix v5_3 4 = true) <|
        k_if ((k_rd s_3 24 v5_3.toNatClampNeg) = (0 : Int32))
          (k_nm (v5_3 + (1 : Int32)) fun y66 =>
          g3 (y66, s_3))
          (k_b2 (f_X12_gainOf x1 v5_3 x2 x4 s_3) fun v26 s26 =>
          k_b2 (f_X12_gainOf x1 x3 x2 x4 s26) fun v35 s35 =>
          k_if ((0 : Int32) < (lg_cmp v26 v35))
            (some ((0 : Int32), s35))
            (k_b2 (f_X12_gainOf x2 v5_3 x1 x3 s35) fun v48 s48 =>
            k_b2 (f_X12_gainOf x2 x4 x1 x3 s48) fun v57 s57 =>
            k_if ((lg_cmp v48 v57) ≤ (0 : Int32))
              (k_nm (v5_3 + (1 : Int32)) fun y66 =>
              g3 (y66, s57))
              (some ((0 : Int32), s57)))))) 100000 ((0 : Int32), σ)
set_option maxHeartbeats 4000000 in
set_option maxRecDepth 100000 in
theorem e_X12_isRest {l : Launch} {w : k_WC} {d : Nat} (hd : 9 ≤ d) {x1 : Int32} {x2 : Int32} {x3 : Int32} {x4 : Int32}  {σ σ' : k_St} {r : Int32} (h : f_X12_isRest x1 x2 x3 x4 σ = some (r, σ')) : k_EI l (k_PM w) yX12_isRest cX12_isRest 6 (some .boolean) d [.ref (w.2.1 0), .int x1, .int x2, .int x3, .int x4] σ r σ' := by
  refine k_of (own := RX12) rfl (by decide) (Nat.le_of_ble_eq_true rfl) (fun X hX C hr => ?_)
  show k_K (k_PM w) X (k_MQ X (k_Qi (k_PM w) r σ') (k_PM w).2.2.1) 0 [(0, .ref (w.2.1 0)), (1, .int x1), (2, .int x2), (3, .int x3), (4, .int x4)] [] σ
  unfold f_X12_isRest at h
  refine k_iconst C dX12_isRest_0 (v := 0) rfl ?_
  refine k_istore C dX12_isRest_1 (by decide) [1, 2, 3, 4, 5, 0] (L' := [(0, .ref (w.2.1 0)), (1, .int x1), (2, .int x2), (3, .int x3), (4, .int x4), (5, .int (0 : Int32))]) rfl ?_
  obtain ⟨b3, eb3, h⟩ := k_lp_e h
  have K3 : ∀ (n : Nat) (v5_3 : Int32) (s_3 : k_St), k_loop b3 n (v5_3, s_3) = some (r, σ') → k_K (k_PM w) X (k_MQ X (k_Qi (k_PM w) r σ') (k_PM w).2.2.1) 3 [(0, .ref (w.2.1 0)), (1, .int x1), (2, .int x2), (3, .int x3), (4, .int x4), (5, .int v5_3)] [] s_3 := by
    intro n
    induction n with
    | zero => intro v5_3 s_3 h; cases h
    | succ n ih3 =>
      intro v5_3 s_3 h
      obtain ⟨g3, eg3, h⟩ := k_lp_s h
      rw [← eg3] at ih3
      rw [eb3] at h
      refine k_iload C dX12_isRest_3 5 rfl ?_
      refine k_iconst C dX12_isRest_5 (v := 4) rfl ?_
      refine k_icmp_ge C dX12_isRest_6 (tgt := 72) (by decide) (fun c6 => ?_) (fun c6 => ?_)
      · replace h := k_if_t h c6
        refine k_iconst C dX12_isRest_72 (v := 1) rfl ?_
        exact k_zret C dX12_isRest_73 hr rfl (Option.some.inj h)
      · replace h := k_if_f h c6
        refine k_aload_n C dX12_isRest_9 0 rfl ?_
        refine k_get C dX12_isRest_10 (k_gM0_41 w) k_fX12_83 (Or.inl rfl) ?_
        refine k_iload C dX12_isRest_13 5 rfl ?_
        obtain ⟨q15, h⟩ := k_gd_e h
        refine k_zald C dX12_isRest_15 (k_aM24 w) q15 ?_
        refine k_if_eq C dX12_isRest_16 (tgt := 66) (by decide) (fun c16 => ?_) (fun c16 => ?_)
        · replace h := k_if_t h c16
          refine k_iinc C dX12_isRest_66 5 rfl (v := 1) rfl (by decide) [1, 2, 3, 4, 5, 0] (L' := fun z9 => [(0, .ref (w.2.1 0)), (1, .int x1), (2, .int x2), (3, .int x3), (4, .int x4), (5, .int z9)]) (fun z9 => rfl) (fun y66 ey66 => ?_)
          replace h := k_nm_e h y66 ey66
          refine k_goto C dX12_isRest_69 (tgt := 3) (by decide) ?_
          exact ih3 _ _ h
        · replace h := k_if_f h c16
          refine k_aload_n C dX12_isRest_19 0 rfl ?_
          refine k_iload_n C dX12_isRest_20 1 rfl ?_
          refine k_iload C dX12_isRest_21 5 rfl ?_
          refine k_iload_n C dX12_isRest_23 2 rfl ?_
          refine k_iload C dX12_isRest_24 4 rfl ?_
          obtain ⟨v26, s26, h26, h⟩ := k_b2_e h
          refine k_goL (k_runV C dX12_isRest_26 (e_X12_gainOf (d := 8) (Nat.le_refl _) h26) k_lX12_475 k_yX12_gainOf (k_oM0 w) (by omega) rfl (Nat.le_of_ble_eq_true rfl)) ?_
          refine k_aload_n C dX12_isRest_29 0 rfl ?_
          refine k_iload_n C dX12_isRest_30 1 rfl ?_
          refine k_iload_n C dX12_isRest_31 3 rfl ?_
          refine k_iload_n C dX12_isRest_32 2 rfl ?_
          refine k_iload C dX12_isRest_33 4 rfl ?_
          obtain ⟨v35, s35, h35, h⟩ := k_b2_e h
          refine k_goL (k_runV C dX12_isRest_35 (e_X12_gainOf (d := 8) (Nat.le_refl _) h35) k_lX12_475 k_yX12_gainOf (k_oM0 w) (by omega) rfl (Nat.le_of_ble_eq_true rfl)) ?_
          refine k_lcmp C dX12_isRest_38 ?_
          refine k_if_gt C dX12_isRest_39 (tgt := 64) (by decide) (fun c39 => ?_) (fun c39 => ?_)
          · replace h := k_if_t h c39
            refine k_iconst C dX12_isRest_64 (v := 0) rfl ?_
            exact k_zret C dX12_isRest_65 hr rfl (Option.some.inj h)
          · replace h := k_if_f h c39
            refine k_aload_n C dX12_isRest_42 0 rfl ?_
            refine k_iload_n C dX12_isRest_43 2 rfl ?_
            refine k_iload C dX12_isRest_44 5 rfl ?_
            refine k_iload_n C dX12_isRest_46 1 rfl ?_
            refine k_iload_n C dX12_isRest_47 3 rfl ?_
            obtain ⟨v48, s48, h48, h⟩ := k_b2_e h
            refine k_goL (k_runV C dX12_isRest_48 (e_X12_gainOf (d := 8) (Nat.le_refl _) h48) k_lX12_475 k_yX12_gainOf (k_oM0 w) (by omega) rfl (Nat.le_of_ble_eq_true rfl)) ?_
            refine k_aload_n C dX12_isRest_51 0 rfl ?_
            refine k_iload_n C dX12_isRest_52 2 rfl ?_
            refine k_iload C dX12_isRest_53 4 rfl ?_
            refine k_iload_n C dX12_isRest_55 1 rfl ?_
            refine k_iload_n C dX12_isRest_56 3 rfl ?_
            obtain ⟨v57, s57, h57, h⟩ := k_b2_e h
            refine k_goL (k_runV C dX12_isRest_57 (e_X12_gainOf (d := 8) (Nat.le_refl _) h57) k_lX12_475 k_yX12_gainOf (k_oM0 w) (by omega) rfl (Nat.le_of_ble_eq_true rfl)) ?_
            refine k_lcmp C dX12_isRest_60 ?_
            refine k_if_le C dX12_isRest_61 (tgt := 66) (by decide) (fun c61 => ?_) (fun c61 => ?_)
            · replace h := k_if_t h c61
              refine k_iinc C dX12_isRest_66 5 rfl (v := 1) rfl (by decide) [1, 2, 3, 4, 5, 0] (L' := fun z9 => [(0, .ref (w.2.1 0)), (1, .int x1), (2, .int x2), (3, .int x3), (4, .int x4), (5, .int z9)]) (fun z9 => rfl) (fun y66 ey66 => ?_)
              replace h := k_nm_e h y66 ey66
              refine k_goto C dX12_isRest_69 (tgt := 3) (by decide) ?_
              exact ih3 _ _ h
            · replace h := k_if_f h c61
              refine k_iconst C dX12_isRest_64 (v := 0) rfl ?_
              exact k_zret C dX12_isRest_65 hr rfl (Option.some.inj h)
  exact K3 _ _ _ h
def f_X12_hasTugs (x1 : Int32) (σ : k_St) : Option (Int32) :=
  k_bd (f_X12_in x1 (0 : Int32) (3 : Int32)) fun v3 =>
  k_if (v3 = (0 : Int32))
    (some (0 : Int32))
    (k_gd (k_ix x1 4 = true) <|
    k_if ((k_rd σ 22 x1.toNatClampNeg) = (-1 : Int32))
      (some (0 : Int32))
      (some (1 : Int32)))
set_option maxHeartbeats 4000000 in
set_option maxRecDepth 100000 in
theorem e_X12_hasTugs {l : Launch} {w : k_WC} {d : Nat} (hd : 3 ≤ d) {x1 : Int32}  {σ : k_St} {r : Int32} (h : f_X12_hasTugs x1 σ = some r) : k_EI l (k_PM w) yX12_hasTugs cX12_hasTugs 2 (some .boolean) d [.ref (w.2.1 0), .int x1] σ r σ := by
  refine k_of (own := RX12) rfl (by decide) (Nat.le_of_ble_eq_true rfl) (fun X hX C hr => ?_)
  show k_K (k_PM w) X (k_MQ X (k_Qi (k_PM w) r σ) (k_PM w).2.2.1) 0 [(0, .ref (w.2.1 0)), (1, .int x1)] [] σ
  unfold f_X12_hasTugs at h
  refine k_iload_n C dX12_hasTugs_0 1 rfl ?_
  refine k_iconst C dX12_hasTugs_1 (v := 0) rfl ?_
  refine k_iconst C dX12_hasTugs_2 (v := 3) rfl ?_
  obtain ⟨v3, h3, h⟩ := k_bd_e h
  refine k_goI (k_runS C dX12_hasTugs_3 (e_X12_in (d := 2) (Nat.le_refl _) h3) k_lX12_269 k_yX12_in (by omega) rfl (Nat.le_of_ble_eq_true rfl)) ?_
  refine k_if_eq C dX12_hasTugs_6 (tgt := 23) (by decide) (fun c6 => ?_) (fun c6 => ?_)
  · replace h := k_if_t h c6
    refine k_iconst C dX12_hasTugs_23 (v := 0) rfl ?_
    exact k_zret C dX12_hasTugs_24 hr rfl (k_p1 h)
  · replace h := k_if_f h c6
    refine k_aload_n C dX12_hasTugs_9 0 rfl ?_
    refine k_get C dX12_hasTugs_10 (k_gM0_39 w) k_fX12_77 (Or.inl rfl) ?_
    refine k_iload_n C dX12_hasTugs_13 1 rfl ?_
    obtain ⟨q14, h⟩ := k_gd_e h
    refine k_iald C dX12_hasTugs_14 (k_aM22 w) q14 ?_
    refine k_iconst C dX12_hasTugs_15 (v := -1) rfl ?_
    refine k_icmp_eq C dX12_hasTugs_16 (tgt := 23) (by decide) (fun c16 => ?_) (fun c16 => ?_)
    · replace h := k_if_t h c16
      refine k_iconst C dX12_hasTugs_23 (v := 0) rfl ?_
      exact k_zret C dX12_hasTugs_24 hr rfl (k_p1 h)
    · replace h := k_if_f h c16
      refine k_iconst C dX12_hasTugs_19 (v := 1) rfl ?_
      refine k_goto C dX12_hasTugs_20 (tgt := 24) (by decide) ?_
      exact k_zret C dX12_hasTugs_24 hr rfl (k_p1 h)
def f_X12_rests (x1 : Int32) (x2 : Int32) (x3 : Int32) (σ : k_St) : Option (Int32 × k_St) :=
  k_if ((k_rd σ 0 21) = (0 : Int32))
    (some ((-1 : Int32), σ))
    (k_bd (f_X12_hasTugs x1 σ) fun v9 =>
    k_if (v9 = (0 : Int32))
      (some ((-1 : Int32), σ))
      (k_bd (f_X12_hasTugs x2 σ) fun v17 =>
      k_if (v17 = (0 : Int32))
        (some ((-1 : Int32), σ))
        (k_if ((-1 : Int32) ≤ x3)
          (k_loop (fun (g36 : Int32 × Int32 × k_St → Option (Int32 × k_St)) (z36 : Int32 × Int32 × k_St) => match z36 with
            | (v4_36, v5_36, s_36) =>
              k_if ((4 : Int32) ≤ v5_36)
                (k_if (x3 = (-1 : Int32))
                  (some (v4_36, s_36))
                  (some ((-1 : Int32), s_36)))
                (k_loop (fun (g45 : Int32 × Int32 × k_St → Option (Int32 × k_St)) (z45 : Int32 × Int32 × k_St) => match z45 with
                  | (v4_45, v6_45, s_45) =>
                    k_if ((4 : Int32) ≤ v6_45)
                      (k_nm (v5_36 + (1 : Int32)) fun y108 =>
                      g36 (v4_45, y108, s_45))
                      (k_gd (k_ix v5_36 4 = true) <|
                      k_if ((k_rd s_45 24 v5_36.toNatClampNeg) = (0 : Int32))
                        (k_nm (v6_45 + (1 : Int32)) fun y102 =>
                        g45 (v4_45, y102, s_45))
                        (k_gd (k_ix v6_45 4 = true) <|
                        k_if ((k_rd s_45 24 v6_45.toNatClampNeg) = (0 : Int32))
                          (k_nm (v6_45 + (1 : Int32)) fun y102 =>
                          g45 (v4_45, y102, s_45))
                          (k_b2 (f_X12_isRest x1 x2 v5_36 v6_45 s_45) fun v78 s78 =>
                          k_if (v78 = (0 : Int32))
                            (k_nm (v6_45 + (1 : Int32)) fun y102 =>
                            g45 (v4_45, y102, s78))
                            (k_if (v4_45 = x3)
                              (some ((((10 : Int32) * v5_36) + v6_45), s78))
                              (k_nm (v4_45 + (1 : Int32)) fun y99 =>
                              k_nm (v6_45 + (1 : Int32)) fun y102 =>
                              g45 (y99, y102, s78))))))) 100000 (v4_36, (0 : Int32), s_36))) 100000 ((0 : Int32), (0 : Int32), σ))
          (some ((-1 : Int32), σ)))))
set_option maxHeartbeats 4000000 in
set_option maxRecDepth 100000 in
theorem e_X12_rests {l : Launch} {w : k_WC} {d : Nat} (hd : 10 ≤ d) {x1 : Int32} {x2 : Int32} {x3 : Int32}  {σ σ' : k_St} {r : Int32} (h : f_X12_rests x1 x2 x3 σ = some (r, σ')) : k_EI l (k_PM w) yX12_rests cX12_rests 7 (some .int) d [.ref (w.2.1 0), .int x1, .int x2, .int x3] σ r σ' := by
  refine k_of (own := RX12) rfl (by decide) (Nat.le_of_ble_eq_true rfl) (fun X hX C hr => ?_)
  show k_K (k_PM w) X (k_MQ X (k_Qi (k_PM w) r σ') (k_PM w).2.2.1) 0 [(0, .ref (w.2.1 0)), (1, .int x1), (2, .int x2), (3, .int x3)] [] σ
  unfold f_X12_rests at h
  refine k_aload_n C dX12_rests_0 0 rfl ?_
  refine k_get C dX12_rests_1 (k_gM0_21 w) k_fX12_306 (Or.inl rfl) ?_
  refine k_if_eq C dX12_rests_4 (tgt := 28) (by decide) (fun c4 => ?_) (fun c4 => ?_)
  · replace h := k_if_t h c4
    refine k_iconst C dX12_rests_28 (v := -1) rfl ?_
    exact k_iret C dX12_rests_29 hr (Option.some.inj h)
  · replace h := k_if_f h c4
    refine k_aload_n C dX12_rests_7 0 rfl ?_
    refine k_iload_n C dX12_rests_8 1 rfl ?_
    obtain ⟨v9, h9, h⟩ := k_bd_e h
    refine k_goI (k_runV C dX12_rests_9 (e_X12_hasTugs (d := 3) (Nat.le_refl _) h9) k_lX12_479 k_yX12_hasTugs (k_oM0 w) (by omega) rfl (Nat.le_of_ble_eq_true rfl)) ?_
    refine k_if_eq C dX12_rests_12 (tgt := 28) (by decide) (fun c12 => ?_) (fun c12 => ?_)
    · replace h := k_if_t h c12
      refine k_iconst C dX12_rests_28 (v := -1) rfl ?_
      exact k_iret C dX12_rests_29 hr (Option.some.inj h)
    · replace h := k_if_f h c12
      refine k_aload_n C dX12_rests_15 0 rfl ?_
      refine k_iload_n C dX12_rests_16 2 rfl ?_
      obtain ⟨v17, h17, h⟩ := k_bd_e h
      refine k_goI (k_runV C dX12_rests_17 (e_X12_hasTugs (d := 3) (Nat.le_refl _) h17) k_lX12_479 k_yX12_hasTugs (k_oM0 w) (by omega) rfl (Nat.le_of_ble_eq_true rfl)) ?_
      refine k_if_eq C dX12_rests_20 (tgt := 28) (by decide) (fun c20 => ?_) (fun c20 => ?_)
      · replace h := k_if_t h c20
        refine k_iconst C dX12_rests_28 (v := -1) rfl ?_
        exact k_iret C dX12_rests_29 hr (Option.some.inj h)
      · replace h := k_if_f h c20
        refine k_iload_n C dX12_rests_23 3 rfl ?_
        refine k_iconst C dX12_rests_24 (v := -1) rfl ?_
        refine k_icmp_ge C dX12_rests_25 (tgt := 30) (by decide) (fun c25 => ?_) (fun c25 => ?_)
        · replace h := k_if_t h c25
          refine k_iconst C dX12_rests_30 (v := 0) rfl ?_
          refine k_istore C dX12_rests_31 (by decide) [1, 2, 3, 4, 0] (L' := [(0, .ref (w.2.1 0)), (1, .int x1), (2, .int x2), (3, .int x3), (4, .int (0 : Int32))]) rfl ?_
          refine k_iconst C dX12_rests_33 (v := 0) rfl ?_
          refine k_istore C dX12_rests_34 (by decide) [1, 2, 3, 4, 5, 0] (L' := [(0, .ref (w.2.1 0)), (1, .int x1), (2, .int x2), (3, .int x3), (4, .int (0 : Int32)), (5, .int (0 : Int32))]) rfl ?_
          obtain ⟨b36, eb36, h⟩ := k_lp_e h
          have K36 : ∀ (n : Nat) (v4_36 : Int32) (v5_36 : Int32) (s_36 : k_St), k_loop b36 n (v4_36, v5_36, s_36) = some (r, σ') → k_K (k_PM w) X (k_MQ X (k_Qi (k_PM w) r σ') (k_PM w).2.2.1) 36 [(0, .ref (w.2.1 0)), (1, .int x1), (2, .int x2), (3, .int x3), (4, .int v4_36), (5, .int v5_36)] [] s_36 := by
            intro n
            induction n with
            | zero => intro v4_36 v5_36 s_36 h; cases h
            | succ n ih36 =>
              intro v4_36 v5_36 s_36 h
              obtain ⟨g36, eg36, h⟩ := k_lp_s h
              rw [← eg36] at ih36
              rw [eb36] at h
              refine k_iload C dX12_rests_36 5 rfl ?_
              refine k_iconst C dX12_rests_38 (v := 4) rfl ?_
              refine k_icmp_ge C dX12_rests_39 (tgt := 114) (by decide) (fun c39 => ?_) (fun c39 => ?_)
              · replace h := k_if_t h c39
                refine k_iload_n C dX12_rests_114 3 rfl ?_
                refine k_iconst C dX12_rests_115 (v := -1) rfl ?_
                refine k_icmp_ne C dX12_rests_116 (tgt := 124) (by decide) (fun c116 => ?_) (fun c116 => ?_)
                · replace h := k_if_f h c116
                  refine k_iconst C dX12_rests_124 (v := -1) rfl ?_
                  exact k_iret C dX12_rests_125 hr (Option.some.inj h)
                · replace h := k_if_t h c116
                  refine k_iload C dX12_rests_119 4 rfl ?_
                  refine k_goto C dX12_rests_121 (tgt := 125) (by decide) ?_
                  exact k_iret C dX12_rests_125 hr (Option.some.inj h)
              · replace h := k_if_f h c39
                refine k_iconst C dX12_rests_42 (v := 0) rfl ?_
                refine k_istore C dX12_rests_43 (by decide) [1, 2, 3, 4, 5, 6, 0] (L' := [(0, .ref (w.2.1 0)), (1, .int x1), (2, .int x2), (3, .int x3), (4, .int v4_36), (5, .int v5_36), (6, .int (0 : Int32))]) rfl ?_
                obtain ⟨b45, eb45, h⟩ := k_lp_e h
                have K45 : ∀ (n : Nat) (v4_45 : Int32) (v6_45 : Int32) (s_45 : k_St), k_loop b45 n (v4_45, v6_45, s_45) = some (r, σ') → k_K (k_PM w) X (k_MQ X (k_Qi (k_PM w) r σ') (k_PM w).2.2.1) 45 [(0, .ref (w.2.1 0)), (1, .int x1), (2, .int x2), (3, .int x3), (4, .int v4_45), (5, .int v5_36), (6, .int v6_45)] [] s_45 := by
                  intro n
                  induction n with
                  | zero => intro v4_45 v6_45 s_45 h; cases h
                  | succ n ih45 =>
                    intro v4_45 v6_45 s_45 h
                    obtain ⟨g45, eg45, h⟩ := k_lp_s h
                    rw [← eg45] at ih45
                    rw [eb45] at h
                    refine k_iload C dX12_rests_45 6 rfl ?_
                    refine k_iconst C dX12_rests_47 (v := 4) rfl ?_
                    refine k_icmp_ge C dX12_rests_48 (tgt := 108) (by decide) (fun c48 => ?_) (fun c48 => ?_)
                    · replace h := k_if_t h c48
                      refine k_iinc C dX12_rests_108 5 rfl (v := 1) rfl (by decide) [1, 2, 3, 4, 5, 0, 6] (L' := fun z9 => [(0, .ref (w.2.1 0)), (1, .int x1), (2, .int x2), (3, .int x3), (4, .int v4_45), (5, .int z9), (6, .int v6_45)]) (fun z9 => rfl) (fun y108 ey108 => ?_)
                      replace h := k_nm_e h y108 ey108
                      refine k_goto C dX12_rests_111 (tgt := 36) (by decide) ?_
                      refine k_sub (L' := [(0, .ref (w.2.1 0)), (1, .int x1), (2, .int x2), (3, .int x3), (4, .int v4_45), (5, .int y108)]) [0, 1, 2, 3, 4, 5] rfl ?_
                      exact ih36 _ _ _ h
                    · replace h := k_if_f h c48
                      refine k_aload_n C dX12_rests_51 0 rfl ?_
                      refine k_get C dX12_rests_52 (k_gM0_41 w) k_fX12_83 (Or.inl rfl) ?_
                      refine k_iload C dX12_rests_55 5 rfl ?_
                      obtain ⟨q57, h⟩ := k_gd_e h
                      refine k_zald C dX12_rests_57 (k_aM24 w) q57 ?_
                      refine k_if_eq C dX12_rests_58 (tgt := 102) (by decide) (fun c58 => ?_) (fun c58 => ?_)
                      · replace h := k_if_t h c58
                        refine k_iinc C dX12_rests_102 6 rfl (v := 1) rfl (by decide) [1, 2, 3, 4, 5, 6, 0] (L' := fun z9 => [(0, .ref (w.2.1 0)), (1, .int x1), (2, .int x2), (3, .int x3), (4, .int v4_45), (5, .int v5_36), (6, .int z9)]) (fun z9 => rfl) (fun y102 ey102 => ?_)
                        replace h := k_nm_e h y102 ey102
                        refine k_goto C dX12_rests_105 (tgt := 45) (by decide) ?_
                        exact ih45 _ _ _ h
                      · replace h := k_if_f h c58
                        refine k_aload_n C dX12_rests_61 0 rfl ?_
                        refine k_get C dX12_rests_62 (k_gM0_41 w) k_fX12_83 (Or.inl rfl) ?_
                        refine k_iload C dX12_rests_65 6 rfl ?_
                        obtain ⟨q67, h⟩ := k_gd_e h
                        refine k_zald C dX12_rests_67 (k_aM24 w) q67 ?_
                        refine k_if_eq C dX12_rests_68 (tgt := 102) (by decide) (fun c68 => ?_) (fun c68 => ?_)
                        · replace h := k_if_t h c68
                          refine k_iinc C dX12_rests_102 6 rfl (v := 1) rfl (by decide) [1, 2, 3, 4, 5, 6, 0] (L' := fun z9 => [(0, .ref (w.2.1 0)), (1, .int x1), (2, .int x2), (3, .int x3), (4, .int v4_45), (5, .int v5_36), (6, .int z9)]) (fun z9 => rfl) (fun y102 ey102 => ?_)
                          replace h := k_nm_e h y102 ey102
                          refine k_goto C dX12_rests_105 (tgt := 45) (by decide) ?_
                          exact ih45 _ _ _ h
                        · replace h := k_if_f h c68
                          refine k_aload_n C dX12_rests_71 0 rfl ?_
                          refine k_iload_n C dX12_rests_72 1 rfl ?_
                          refine k_iload_n C dX12_rests_73 2 rfl ?_
                          refine k_iload C dX12_rests_74 5 rfl ?_
                          refine k_iload C dX12_rests_76 6 rfl ?_
                          obtain ⟨v78, s78, h78, h⟩ := k_b2_e h
                          refine k_goI (k_runV C dX12_rests_78 (e_X12_isRest (d := 9) (Nat.le_refl _) h78) k_lX12_482 k_yX12_isRest (k_oM0 w) (by omega) rfl (Nat.le_of_ble_eq_true rfl)) ?_
                          refine k_if_eq C dX12_rests_81 (tgt := 102) (by decide) (fun c81 => ?_) (fun c81 => ?_)
                          · replace h := k_if_t h c81
                            refine k_iinc C dX12_rests_102 6 rfl (v := 1) rfl (by decide) [1, 2, 3, 4, 5, 6, 0] (L' := fun z9 => [(0, .ref (w.2.1 0)), (1, .int x1), (2, .int x2), (3, .int x3), (4, .int v4_45), (5, .int v5_36), (6, .int z9)]) (fun z9 => rfl) (fun y102 ey102 => ?_)
                            replace h := k_nm_e h y102 ey102
                            refine k_goto C dX12_rests_105 (tgt := 45) (by decide) ?_
                            exact ih45 _ _ _ h
                          · replace h := k_if_f h c81
                            refine k_iload C dX12_rests_84 4 rfl ?_
                            refine k_iload_n C dX12_rests_86 3 rfl ?_
                            refine k_icmp_ne C dX12_rests_87 (tgt := 99) (by decide) (fun c87 => ?_) (fun c87 => ?_)
                            · replace h := k_if_f h c87
                              refine k_iinc C dX12_rests_99 4 rfl (v := 1) rfl (by decide) [1, 2, 3, 4, 0, 5, 6] (L' := fun z9 => [(0, .ref (w.2.1 0)), (1, .int x1), (2, .int x2), (3, .int x3), (4, .int z9), (5, .int v5_36), (6, .int v6_45)]) (fun z9 => rfl) (fun y99 ey99 => ?_)
                              replace h := k_nm_e h y99 ey99
                              refine k_iinc C dX12_rests_102 6 rfl (v := 1) rfl (by decide) [1, 2, 3, 4, 5, 6, 0] (L' := fun z9 => [(0, .ref (w.2.1 0)), (1, .int x1), (2, .int x2), (3, .int x3), (4, .int y99), (5, .int v5_36), (6, .int z9)]) (fun z9 => rfl) (fun y102 ey102 => ?_)
                              replace h := k_nm_e h y102 ey102
                              refine k_goto C dX12_rests_105 (tgt := 45) (by decide) ?_
                              exact ih45 _ _ _ h
                            · replace h := k_if_t h c87
                              refine k_bipush C dX12_rests_90 (v := 10) rfl ?_
                              refine k_iload C dX12_rests_92 5 rfl ?_
                              refine k_imul C dX12_rests_94 ?_
                              refine k_iload C dX12_rests_95 6 rfl ?_
                              refine k_iadd C dX12_rests_97 ?_
                              exact k_iret C dX12_rests_98 hr (Option.some.inj h)
                exact K45 _ _ _ _ h
          exact K36 _ _ _ _ h
        · replace h := k_if_f h c25
          refine k_iconst C dX12_rests_28 (v := -1) rfl ?_
          exact k_iret C dX12_rests_29 hr (Option.some.inj h)
def f_X12_layCouples (x1 : Int32) (σ : k_St) : Option (Int32 × k_St) :=
  k_if ((k_rd σ 0 21) = (0 : Int32))
    (some ((0 : Int32), σ))
    (k_b2 (f_X12_spreadOut x1 (10 : Int32) 31 σ) fun v14 s14 =>
    k_if (v14 = (0 : Int32))
      (some ((0 : Int32), s14))
      (k_loop (fun (g24 : Int32 × k_St → Option (Int32 × k_St)) (z24 : Int32 × k_St) => match z24 with
        | (v2_24, s_24) =>
          k_if ((4 : Int32) ≤ v2_24)
            (k_loop (fun (g44 : Int32 × k_St → Option (Int32 × k_St)) (z44 : Int32 × k_St) => match z44 with
              | (v2_44, s_44) =>
                k_if ((4 : Int32) ≤ v2_44)
                  (some ((1 : Int32), s_44))
                  (k_gd (k_ix v2_44 4 = true) <|
                  k_nm ((k_rd s_44 31 v2_44.toNatClampNeg)) fun y55 =>
                  k_if (y55 = (9 : Int32))
                    (k_gd (k_ix v2_44 4 = true) <|
                    k_nm (k_wr s_44 31 v2_44.toNatClampNeg (-1 : Int32)) fun s68 =>
                    k_nm (v2_44 + (1 : Int32)) fun y100 =>
                    g44 (y100, s68))
                    (k_bd (f_X12_areShelved v2_44 y55 s_44) fun v75 =>
                    k_if (v75 = (0 : Int32))
                      (some ((0 : Int32), s_44))
                      (k_gd (k_ix y55 4 = true) <|
                      k_if ((k_rd s_44 32 y55.toNatClampNeg) = (-1 : Int32))
                        (k_gd (k_ix y55 4 = true) <|
                        k_nm (k_wr s_44 32 y55.toNatClampNeg v2_44) fun s99 =>
                        k_nm (v2_44 + (1 : Int32)) fun y100 =>
                        g44 (y100, s99))
                        (some ((0 : Int32), s_44)))))) 100000 ((0 : Int32), s_24))
            (k_gd (k_ix v2_24 4 = true) <|
            k_nm (k_wr s_24 32 v2_24.toNatClampNeg (-1 : Int32)) fun s35 =>
            k_nm (v2_24 + (1 : Int32)) fun y36 =>
            g24 (y36, s35))) 100000 ((0 : Int32), s14)))
set_option maxHeartbeats 4000000 in
set_option maxRecDepth 100000 in
theorem e_X12_layCouples {l : Launch} {w : k_WC} {d : Nat} (hd : 4 ≤ d) {x1 : Int32}  {σ σ' : k_St} {r : Int32} (h : f_X12_layCouples x1 σ = some (r, σ')) : k_EI l (k_PM w) yX12_layCouples cX12_layCouples 4 (some .boolean) d [.ref (w.2.1 0), .int x1] σ r σ' := by
  refine k_of (own := RX12) rfl (by decide) (Nat.le_of_ble_eq_true rfl) (fun X hX C hr => ?_)
  show k_K (k_PM w) X (k_MQ X (k_Qi (k_PM w) r σ') (k_PM w).2.2.1) 0 [(0, .ref (w.2.1 0)), (1, .int x1)] [] σ
  unfold f_X12_layCouples at h
  refine k_aload_n C dX12_layCouples_0 0 rfl ?_
  refine k_get C dX12_layCouples_1 (k_gM0_21 w) k_fX12_306 (Or.inl rfl) ?_
  refine k_if_eq C dX12_layCouples_4 (tgt := 20) (by decide) (fun c4 => ?_) (fun c4 => ?_)
  · replace h := k_if_t h c4
    refine k_iconst C dX12_layCouples_20 (v := 0) rfl ?_
    exact k_zret C dX12_layCouples_21 hr rfl (Option.some.inj h)
  · replace h := k_if_f h c4
    refine k_iload_n C dX12_layCouples_7 1 rfl ?_
    refine k_bipush C dX12_layCouples_8 (v := 10) rfl ?_
    refine k_aload_n C dX12_layCouples_10 0 rfl ?_
    refine k_get C dX12_layCouples_11 (k_gM0_48 w) k_fX12_106 (Or.inl rfl) ?_
    obtain ⟨v14, s14, h14, h⟩ := k_b2_e h
    refine k_goI (k_runS C dX12_layCouples_14 (e_X12_spreadOut (d := 3) (Nat.le_refl _) (k_aM31 w) h14) k_lX12_359 k_yX12_spreadOut (by omega) rfl (Nat.le_of_ble_eq_true rfl)) ?_
    refine k_if_ne C dX12_layCouples_17 (tgt := 22) (by decide) (fun c17 => ?_) (fun c17 => ?_)
    · replace h := k_if_f h c17
      refine k_iconst C dX12_layCouples_22 (v := 0) rfl ?_
      refine k_istore_n C dX12_layCouples_23 (by decide) [1, 2, 0] (L' := [(0, .ref (w.2.1 0)), (1, .int x1), (2, .int (0 : Int32))]) rfl ?_
      obtain ⟨b24, eb24, h⟩ := k_lp_e h
      have K24 : ∀ (n : Nat) (v2_24 : Int32) (s_24 : k_St), k_loop b24 n (v2_24, s_24) = some (r, σ') → k_K (k_PM w) X (k_MQ X (k_Qi (k_PM w) r σ') (k_PM w).2.2.1) 24 [(0, .ref (w.2.1 0)), (2, .int v2_24)] [] s_24 := by
        intro n
        induction n with
        | zero => intro v2_24 s_24 h; cases h
        | succ n ih24 =>
          intro v2_24 s_24 h
          obtain ⟨g24, eg24, h⟩ := k_lp_s h
          rw [← eg24] at ih24
          rw [eb24] at h
          refine k_iload_n C dX12_layCouples_24 1 rfl ?_
          refine k_iconst C dX12_layCouples_25 (v := 4) rfl ?_
          refine k_icmp_ge C dX12_layCouples_26 (tgt := 42) (by decide) (fun c26 => ?_) (fun c26 => ?_)
          · replace h := k_if_t h c26
            refine k_iconst C dX12_layCouples_42 (v := 0) rfl ?_
            refine k_istore_n C dX12_layCouples_43 (by decide) [1, 0] (L' := [(0, .ref (w.2.1 0)), (2, .int (0 : Int32))]) rfl ?_
            obtain ⟨b44, eb44, h⟩ := k_lp_e h
            have K44 : ∀ (n : Nat) (v2_44 : Int32) (s_44 : k_St), k_loop b44 n (v2_44, s_44) = some (r, σ') → k_K (k_PM w) X (k_MQ X (k_Qi (k_PM w) r σ') (k_PM w).2.2.1) 44 [(0, .ref (w.2.1 0)), (2, .int v2_44)] [] s_44 := by
              intro n
              induction n with
              | zero => intro v2_44 s_44 h; cases h
              | succ n ih44 =>
                intro v2_44 s_44 h
                obtain ⟨g44, eg44, h⟩ := k_lp_s h
                rw [← eg44] at ih44
                rw [eb44] at h
                refine k_iload_n C dX12_layCouples_44 1 rfl ?_
                refine k_iconst C dX12_layCouples_45 (v := 4) rfl ?_
                refine k_icmp_ge C dX12_layCouples_46 (tgt := 106) (by decide) (fun c46 => ?_) (fun c46 => ?_)
                · replace h := k_if_t h c46
                  refine k_iconst C dX12_layCouples_106 (v := 1) rfl ?_
                  exact k_zret C dX12_layCouples_107 hr rfl (Option.some.inj h)
                · replace h := k_if_f h c46
                  refine k_aload_n C dX12_layCouples_49 0 rfl ?_
                  refine k_get C dX12_layCouples_50 (k_gM0_48 w) k_fX12_106 (Or.inl rfl) ?_
                  refine k_iload_n C dX12_layCouples_53 1 rfl ?_
                  obtain ⟨q54, h⟩ := k_gd_e h
                  refine k_iald C dX12_layCouples_54 (k_aM31 w) q54 ?_
                  refine k_topi (fun y55 ey55 => ?_)
                  replace h := k_nm_e h y55 ey55
                  refine k_istore_n C dX12_layCouples_55 (by decide) [1, 2, 0] (L' := [(0, .ref (w.2.1 0)), (2, .int v2_44), (3, .int y55)]) rfl ?_
                  refine k_iload_n C dX12_layCouples_56 2 rfl ?_
                  refine k_bipush C dX12_layCouples_57 (v := 9) rfl ?_
                  refine k_icmp_ne C dX12_layCouples_59 (tgt := 72) (by decide) (fun c59 => ?_) (fun c59 => ?_)
                  · replace h := k_if_f h c59
                    refine k_aload_n C dX12_layCouples_72 0 rfl ?_
                    refine k_iload_n C dX12_layCouples_73 1 rfl ?_
                    refine k_iload_n C dX12_layCouples_74 2 rfl ?_
                    obtain ⟨v75, h75, h⟩ := k_bd_e h
                    refine k_goI (k_runV C dX12_layCouples_75 (e_X12_areShelved (d := 3) (Nat.le_refl _) h75) k_lX12_422 k_yX12_areShelved (k_oM0 w) (by omega) rfl (Nat.le_of_ble_eq_true rfl)) ?_
                    refine k_if_eq C dX12_layCouples_78 (tgt := 91) (by decide) (fun c78 => ?_) (fun c78 => ?_)
                    · replace h := k_if_t h c78
                      refine k_iconst C dX12_layCouples_91 (v := 0) rfl ?_
                      exact k_zret C dX12_layCouples_92 hr rfl (Option.some.inj h)
                    · replace h := k_if_f h c78
                      refine k_aload_n C dX12_layCouples_81 0 rfl ?_
                      refine k_get C dX12_layCouples_82 (k_gM0_49 w) k_fX12_109 (Or.inl rfl) ?_
                      refine k_iload_n C dX12_layCouples_85 2 rfl ?_
                      obtain ⟨q86, h⟩ := k_gd_e h
                      refine k_iald C dX12_layCouples_86 (k_aM32 w) q86 ?_
                      refine k_iconst C dX12_layCouples_87 (v := -1) rfl ?_
                      refine k_icmp_eq C dX12_layCouples_88 (tgt := 93) (by decide) (fun c88 => ?_) (fun c88 => ?_)
                      · replace h := k_if_t h c88
                        refine k_aload_n C dX12_layCouples_93 0 rfl ?_
                        refine k_get C dX12_layCouples_94 (k_gM0_49 w) k_fX12_109 (Or.inl rfl) ?_
                        refine k_iload_n C dX12_layCouples_97 2 rfl ?_
                        refine k_iload_n C dX12_layCouples_98 1 rfl ?_
                        obtain ⟨q99, h⟩ := k_gd_e h
                        refine k_iast C dX12_layCouples_99 (k_aM32 w) q99 ?_
                        refine k_st (fun s99 es99 => ?_)
                        replace h := k_nm_e h s99 es99
                        refine k_iinc C dX12_layCouples_100 1 rfl (v := 1) rfl (by decide) [1, 0, 2] (L' := fun z9 => [(0, .ref (w.2.1 0)), (2, .int z9), (3, .int y55)]) (fun z9 => rfl) (fun y100 ey100 => ?_)
                        replace h := k_nm_e h y100 ey100
                        refine k_goto C dX12_layCouples_103 (tgt := 44) (by decide) ?_
                        refine k_sub (L' := [(0, .ref (w.2.1 0)), (2, .int y100)]) [0, 1] rfl ?_
                        exact ih44 _ _ h
                      · replace h := k_if_f h c88
                        refine k_iconst C dX12_layCouples_91 (v := 0) rfl ?_
                        exact k_zret C dX12_layCouples_92 hr rfl (Option.some.inj h)
                  · replace h := k_if_t h c59
                    refine k_aload_n C dX12_layCouples_62 0 rfl ?_
                    refine k_get C dX12_layCouples_63 (k_gM0_48 w) k_fX12_106 (Or.inl rfl) ?_
                    refine k_iload_n C dX12_layCouples_66 1 rfl ?_
                    refine k_iconst C dX12_layCouples_67 (v := -1) rfl ?_
                    obtain ⟨q68, h⟩ := k_gd_e h
                    refine k_iast C dX12_layCouples_68 (k_aM31 w) q68 ?_
                    refine k_st (fun s68 es68 => ?_)
                    replace h := k_nm_e h s68 es68
                    refine k_goto C dX12_layCouples_69 (tgt := 100) (by decide) ?_
                    refine k_iinc C dX12_layCouples_100 1 rfl (v := 1) rfl (by decide) [1, 0, 2] (L' := fun z9 => [(0, .ref (w.2.1 0)), (2, .int z9), (3, .int y55)]) (fun z9 => rfl) (fun y100 ey100 => ?_)
                    replace h := k_nm_e h y100 ey100
                    refine k_goto C dX12_layCouples_103 (tgt := 44) (by decide) ?_
                    refine k_sub (L' := [(0, .ref (w.2.1 0)), (2, .int y100)]) [0, 1] rfl ?_
                    exact ih44 _ _ h
            exact K44 _ _ _ h
          · replace h := k_if_f h c26
            refine k_aload_n C dX12_layCouples_29 0 rfl ?_
            refine k_get C dX12_layCouples_30 (k_gM0_49 w) k_fX12_109 (Or.inl rfl) ?_
            refine k_iload_n C dX12_layCouples_33 1 rfl ?_
            refine k_iconst C dX12_layCouples_34 (v := -1) rfl ?_
            obtain ⟨q35, h⟩ := k_gd_e h
            refine k_iast C dX12_layCouples_35 (k_aM32 w) q35 ?_
            refine k_st (fun s35 es35 => ?_)
            replace h := k_nm_e h s35 es35
            refine k_iinc C dX12_layCouples_36 1 rfl (v := 1) rfl (by decide) [1, 0] (L' := fun z9 => [(0, .ref (w.2.1 0)), (2, .int z9)]) (fun z9 => rfl) (fun y36 ey36 => ?_)
            replace h := k_nm_e h y36 ey36
            refine k_goto C dX12_layCouples_39 (tgt := 24) (by decide) ?_
            exact ih24 _ _ h
      refine k_sub (L' := [(0, .ref (w.2.1 0)), (2, .int (0 : Int32))]) [0, 2] rfl ?_
      exact K24 _ _ _ h
    · replace h := k_if_t h c17
      refine k_iconst C dX12_layCouples_20 (v := 0) rfl ?_
      exact k_zret C dX12_layCouples_21 hr rfl (Option.some.inj h)
def f_X12_leavers (x1 : Int32) (x2 : Int32) (σ : k_St) : Option (Int32 × k_St) :=
  k_if (x2 < (-1 : Int32))
    (some ((-1 : Int32), σ))
    (k_b2 (f_X12_layCouples x1 σ) fun v7 s7 =>
    k_if (v7 = (0 : Int32))
      (some ((-1 : Int32), s7))
      (k_loop (fun (g20 : Int32 × Int32 × k_St → Option (Int32 × k_St)) (z20 : Int32 × Int32 × k_St) => match z20 with
        | (v3_20, v4_20, s_20) =>
          k_if ((4 : Int32) ≤ v4_20)
            (k_if (x2 = (-1 : Int32))
              (some (v3_20, s_20))
              (some ((-1 : Int32), s_20)))
            (k_loop (fun (g29 : Int32 × Int32 × k_St → Option (Int32 × k_St)) (z29 : Int32 × Int32 × k_St) => match z29 with
              | (v3_29, v5_29, s_29) =>
                k_if ((4 : Int32) ≤ v5_29)
                  (k_nm (v4_20 + (1 : Int32)) fun y171 =>
                  g20 (v3_29, y171, s_29))
                  (k_bd (f_X12_areShelved v4_20 v5_29 s_29) fun v40 =>
                  k_if (v40 = (0 : Int32))
                    (k_nm (v5_29 + (1 : Int32)) fun y165 =>
                    g29 (v3_29, y165, s_29))
                    (k_gd (k_ix v4_20 4 = true) <|
                    k_if ((k_rd s_29 31 v4_20.toNatClampNeg) = v5_29)
                      (k_nm (v5_29 + (1 : Int32)) fun y165 =>
                      g29 (v3_29, y165, s_29))
                      (k_b2 (f_X12_fitOf v4_20 v5_29 s_29) fun v63 s63 =>
                      k_gd (k_ix v4_20 4 = true) <|
                      k_jn (fun (t0_131 : Int32) (s_131 : k_St) =>
                        k_jn (fun (_ : Unit) =>
                          k_if (t0_131 = (0 : Int32))
                            (k_nm ((v3_29 + (0 : Int32))) fun y164 =>
                            k_nm (v5_29 + (1 : Int32)) fun y165 =>
                            g29 (y164, y165, s_131))
                            (k_nm ((v3_29 + (1 : Int32))) fun y164 =>
                            k_nm (v5_29 + (1 : Int32)) fun y165 =>
                            g29 (y164, y165, s_131))) fun j152 =>
                        k_if (t0_131 = (0 : Int32))
                          (j152 ())
                          (k_if (v3_29 = x2)
                            (some ((((10 : Int32) * v4_20) + v5_29), s_131))
                            (j152 ()))) fun j131 =>
                      k_jn (fun (s_130 : k_St) =>
                        j131 (0 : Int32) s_130) fun j130 =>
                      k_jn (fun (s_97 : k_St) =>
                        k_gd (k_ix v5_29 4 = true) <|
                        k_if ((k_rd s_97 32 v5_29.toNatClampNeg) = (-1 : Int32))
                          (j131 (1 : Int32) s_97)
                          (k_gd (k_ix v5_29 4 = true) <|
                          k_b2 (f_X12_fitOf (k_rd s_97 32 v5_29.toNatClampNeg) v5_29 s_97) fun v120 s120 =>
                          k_if (v63 ≤ v120)
                            (j130 s120)
                            (j131 (1 : Int32) s120))) fun j97 =>
                      k_if ((k_rd s63 31 v4_20.toNatClampNeg) = (-1 : Int32))
                        (j97 s63)
                        (k_gd (k_ix v4_20 4 = true) <|
                        k_b2 (f_X12_fitOf v4_20 (k_rd s63 31 v4_20.toNatClampNeg) s63) fun v91 s91 =>
                        k_if (v63 ≤ v91)
                          (j130 s91)
                          (j97 s91)))))) 100000 (v3_20, (0 : Int32), s_20))) 100000 ((0 : Int32), (0 : Int32), s7)))
set_option maxHeartbeats 4000000 in
set_option maxRecDepth 100000 in
theorem e_X12_leavers {l : Launch} {w : k_WC} {d : Nat} (hd : 10 ≤ d) {x1 : Int32} {x2 : Int32}  {σ σ' : k_St} {r : Int32} (h : f_X12_leavers x1 x2 σ = some (r, σ')) : k_EI l (k_PM w) yX12_leavers cX12_leavers 8 (some .int) d [.ref (w.2.1 0), .int x1, .int x2] σ r σ' := by
  refine k_of (own := RX12) rfl (by decide) (Nat.le_of_ble_eq_true rfl) (fun X hX C hr => ?_)
  show k_K (k_PM w) X (k_MQ X (k_Qi (k_PM w) r σ') (k_PM w).2.2.1) 0 [(0, .ref (w.2.1 0)), (1, .int x1), (2, .int x2)] [] σ
  unfold f_X12_leavers at h
  refine k_iload_n C dX12_leavers_0 2 rfl ?_
  refine k_iconst C dX12_leavers_1 (v := -1) rfl ?_
  refine k_icmp_lt C dX12_leavers_2 (tgt := 13) (by decide) (fun c2 => ?_) (fun c2 => ?_)
  · replace h := k_if_t h c2
    refine k_iconst C dX12_leavers_13 (v := -1) rfl ?_
    exact k_iret C dX12_leavers_14 hr (Option.some.inj h)
  · replace h := k_if_f h c2
    refine k_aload_n C dX12_leavers_5 0 rfl ?_
    refine k_iload_n C dX12_leavers_6 1 rfl ?_
    obtain ⟨v7, s7, h7, h⟩ := k_b2_e h
    refine k_goI (k_runV C dX12_leavers_7 (e_X12_layCouples (d := 4) (Nat.le_refl _) h7) k_lX12_486 k_yX12_layCouples (k_oM0 w) (by omega) rfl (Nat.le_of_ble_eq_true rfl)) ?_
    refine k_if_ne C dX12_leavers_10 (tgt := 15) (by decide) (fun c10 => ?_) (fun c10 => ?_)
    · replace h := k_if_f h c10
      refine k_iconst C dX12_leavers_15 (v := 0) rfl ?_
      refine k_istore_n C dX12_leavers_16 (by decide) [1, 2, 3, 0] (L' := [(0, .ref (w.2.1 0)), (1, .int x1), (2, .int x2), (3, .int (0 : Int32))]) rfl ?_
      refine k_iconst C dX12_leavers_17 (v := 0) rfl ?_
      refine k_istore C dX12_leavers_18 (by decide) [1, 2, 3, 4, 0] (L' := [(0, .ref (w.2.1 0)), (1, .int x1), (2, .int x2), (3, .int (0 : Int32)), (4, .int (0 : Int32))]) rfl ?_
      obtain ⟨b20, eb20, h⟩ := k_lp_e h
      have K20 : ∀ (n : Nat) (v3_20 : Int32) (v4_20 : Int32) (s_20 : k_St), k_loop b20 n (v3_20, v4_20, s_20) = some (r, σ') → k_K (k_PM w) X (k_MQ X (k_Qi (k_PM w) r σ') (k_PM w).2.2.1) 20 [(0, .ref (w.2.1 0)), (2, .int x2), (3, .int v3_20), (4, .int v4_20)] [] s_20 := by
        intro n
        induction n with
        | zero => intro v3_20 v4_20 s_20 h; cases h
        | succ n ih20 =>
          intro v3_20 v4_20 s_20 h
          obtain ⟨g20, eg20, h⟩ := k_lp_s h
          rw [← eg20] at ih20
          rw [eb20] at h
          refine k_iload C dX12_leavers_20 3 rfl ?_
          refine k_iconst C dX12_leavers_22 (v := 4) rfl ?_
          refine k_icmp_ge C dX12_leavers_23 (tgt := 177) (by decide) (fun c23 => ?_) (fun c23 => ?_)
          · replace h := k_if_t h c23
            refine k_iload_n C dX12_leavers_177 1 rfl ?_
            refine k_iconst C dX12_leavers_178 (v := -1) rfl ?_
            refine k_icmp_ne C dX12_leavers_179 (tgt := 186) (by decide) (fun c179 => ?_) (fun c179 => ?_)
            · replace h := k_if_f h c179
              refine k_iconst C dX12_leavers_186 (v := -1) rfl ?_
              exact k_iret C dX12_leavers_187 hr (Option.some.inj h)
            · replace h := k_if_t h c179
              refine k_iload_n C dX12_leavers_182 2 rfl ?_
              refine k_goto C dX12_leavers_183 (tgt := 187) (by decide) ?_
              exact k_iret C dX12_leavers_187 hr (Option.some.inj h)
          · replace h := k_if_f h c23
            refine k_iconst C dX12_leavers_26 (v := 0) rfl ?_
            refine k_istore C dX12_leavers_27 (by decide) [1, 2, 3, 4, 0] (L' := [(0, .ref (w.2.1 0)), (2, .int x2), (3, .int v3_20), (4, .int v4_20), (5, .int (0 : Int32))]) rfl ?_
            obtain ⟨b29, eb29, h⟩ := k_lp_e h
            have K29 : ∀ (n : Nat) (v3_29 : Int32) (v5_29 : Int32) (s_29 : k_St), k_loop b29 n (v3_29, v5_29, s_29) = some (r, σ') → k_K (k_PM w) X (k_MQ X (k_Qi (k_PM w) r σ') (k_PM w).2.2.1) 29 [(0, .ref (w.2.1 0)), (2, .int x2), (3, .int v3_29), (4, .int v4_20), (5, .int v5_29)] [] s_29 := by
              intro n
              induction n with
              | zero => intro v3_29 v5_29 s_29 h; cases h
              | succ n ih29 =>
                intro v3_29 v5_29 s_29 h
                obtain ⟨g29, eg29, h⟩ := k_lp_s h
                rw [← eg29] at ih29
                rw [eb29] at h
                refine k_iload C dX12_leavers_29 4 rfl ?_
                refine k_iconst C dX12_leavers_31 (v := 4) rfl ?_
                refine k_icmp_ge C dX12_leavers_32 (tgt := 171) (by decide) (fun c32 => ?_) (fun c32 => ?_)
                · replace h := k_if_t h c32
                  refine k_iinc C dX12_leavers_171 3 rfl (v := 1) rfl (by decide) [1, 2, 3, 0, 4] (L' := fun z9 => [(0, .ref (w.2.1 0)), (2, .int x2), (3, .int v3_29), (4, .int z9), (5, .int v5_29)]) (fun z9 => rfl) (fun y171 ey171 => ?_)
                  replace h := k_nm_e h y171 ey171
                  refine k_goto C dX12_leavers_174 (tgt := 20) (by decide) ?_
                  refine k_sub (L' := [(0, .ref (w.2.1 0)), (2, .int x2), (3, .int v3_29), (4, .int y171)]) [0, 1, 2, 3] rfl ?_
                  exact ih20 _ _ _ h
                · replace h := k_if_f h c32
                  refine k_aload_n C dX12_leavers_35 0 rfl ?_
                  refine k_iload C dX12_leavers_36 3 rfl ?_
                  refine k_iload C dX12_leavers_38 4 rfl ?_
                  obtain ⟨v40, h40, h⟩ := k_bd_e h
                  refine k_goI (k_runV C dX12_leavers_40 (e_X12_areShelved (d := 3) (Nat.le_refl _) h40) k_lX12_422 k_yX12_areShelved (k_oM0 w) (by omega) rfl (Nat.le_of_ble_eq_true rfl)) ?_
                  refine k_if_eq C dX12_leavers_43 (tgt := 165) (by decide) (fun c43 => ?_) (fun c43 => ?_)
                  · replace h := k_if_t h c43
                    refine k_iinc C dX12_leavers_165 4 rfl (v := 1) rfl (by decide) [1, 2, 3, 4, 0] (L' := fun z9 => [(0, .ref (w.2.1 0)), (2, .int x2), (3, .int v3_29), (4, .int v4_20), (5, .int z9)]) (fun z9 => rfl) (fun y165 ey165 => ?_)
                    replace h := k_nm_e h y165 ey165
                    refine k_goto C dX12_leavers_168 (tgt := 29) (by decide) ?_
                    exact ih29 _ _ _ h
                  · replace h := k_if_f h c43
                    refine k_aload_n C dX12_leavers_46 0 rfl ?_
                    refine k_get C dX12_leavers_47 (k_gM0_48 w) k_fX12_106 (Or.inl rfl) ?_
                    refine k_iload C dX12_leavers_50 3 rfl ?_
                    obtain ⟨q52, h⟩ := k_gd_e h
                    refine k_iald C dX12_leavers_52 (k_aM31 w) q52 ?_
                    refine k_iload C dX12_leavers_53 4 rfl ?_
                    refine k_icmp_eq C dX12_leavers_55 (tgt := 165) (by decide) (fun c55 => ?_) (fun c55 => ?_)
                    · replace h := k_if_t h c55
                      refine k_iinc C dX12_leavers_165 4 rfl (v := 1) rfl (by decide) [1, 2, 3, 4, 0] (L' := fun z9 => [(0, .ref (w.2.1 0)), (2, .int x2), (3, .int v3_29), (4, .int v4_20), (5, .int z9)]) (fun z9 => rfl) (fun y165 ey165 => ?_)
                      replace h := k_nm_e h y165 ey165
                      refine k_goto C dX12_leavers_168 (tgt := 29) (by decide) ?_
                      exact ih29 _ _ _ h
                    · replace h := k_if_f h c55
                      refine k_aload_n C dX12_leavers_58 0 rfl ?_
                      refine k_iload C dX12_leavers_59 3 rfl ?_
                      refine k_iload C dX12_leavers_61 4 rfl ?_
                      obtain ⟨v63, s63, h63, h⟩ := k_b2_e h
                      refine k_goI (k_runV C dX12_leavers_63 (e_X12_fitOf (d := 9) (Nat.le_refl _) h63) k_lX12_425 k_yX12_fitOf (k_oM0 w) (by omega) rfl (Nat.le_of_ble_eq_true rfl)) ?_
                      refine k_istore C dX12_leavers_66 (by decide) [1, 2, 3, 4, 5, 0] (L' := [(0, .ref (w.2.1 0)), (2, .int x2), (3, .int v3_29), (4, .int v4_20), (5, .int v5_29), (6, .int v63)]) rfl ?_
                      refine k_aload_n C dX12_leavers_68 0 rfl ?_
                      refine k_get C dX12_leavers_69 (k_gM0_48 w) k_fX12_106 (Or.inl rfl) ?_
                      refine k_iload C dX12_leavers_72 3 rfl ?_
                      obtain ⟨q74, h⟩ := k_gd_e h
                      refine k_iald C dX12_leavers_74 (k_aM31 w) q74 ?_
                      refine k_iconst C dX12_leavers_75 (v := -1) rfl ?_
                      obtain ⟨j131, ej131, h⟩ := k_jn_e h
                      have Jj131 : ∀ (t0_131 : Int32) (s_131 : k_St), j131 t0_131 s_131 = some (r, σ') → k_K (k_PM w) X (k_MQ X (k_Qi (k_PM w) r σ') (k_PM w).2.2.1) 131 [(0, .ref (w.2.1 0)), (2, .int x2), (3, .int v3_29), (4, .int v4_20), (5, .int v5_29)] [.int t0_131] s_131 := by
                        intro t0_131 s_131 h
                        rw [ej131] at h
                        refine k_istore C dX12_leavers_131 (by decide) [1, 2, 3, 4, 5, 0] (L' := [(0, .ref (w.2.1 0)), (2, .int x2), (3, .int v3_29), (4, .int v4_20), (5, .int v5_29), (7, .int t0_131)]) rfl ?_
                        refine k_iload C dX12_leavers_133 5 rfl ?_
                        obtain ⟨j152, ej152, h⟩ := k_jn_e h
                        have Jj152 : j152 () = some (r, σ') → k_K (k_PM w) X (k_MQ X (k_Qi (k_PM w) r σ') (k_PM w).2.2.1) 152 [(0, .ref (w.2.1 0)), (2, .int x2), (3, .int v3_29), (4, .int v4_20), (5, .int v5_29), (7, .int t0_131)] [] s_131 := by
                          intro  h
                          rw [ej152] at h
                          refine k_iload_n C dX12_leavers_152 2 rfl ?_
                          refine k_iload C dX12_leavers_153 5 rfl ?_
                          refine k_if_eq C dX12_leavers_155 (tgt := 162) (by decide) (fun c155 => ?_) (fun c155 => ?_)
                          · replace h := k_if_t h c155
                            refine k_iconst C dX12_leavers_162 (v := 0) rfl ?_
                            refine k_iadd C dX12_leavers_163 ?_
                            refine k_topi (fun y164 ey164 => ?_)
                            replace h := k_nm_e h y164 ey164
                            refine k_istore_n C dX12_leavers_164 (by decide) [1, 2, 0, 3, 4, 5] (L' := [(0, .ref (w.2.1 0)), (2, .int x2), (3, .int y164), (4, .int v4_20), (5, .int v5_29), (7, .int t0_131)]) rfl ?_
                            refine k_iinc C dX12_leavers_165 4 rfl (v := 1) rfl (by decide) [1, 2, 3, 4, 0, 5] (L' := fun z9 => [(0, .ref (w.2.1 0)), (2, .int x2), (3, .int y164), (4, .int v4_20), (5, .int z9), (7, .int t0_131)]) (fun z9 => rfl) (fun y165 ey165 => ?_)
                            replace h := k_nm_e h y165 ey165
                            refine k_goto C dX12_leavers_168 (tgt := 29) (by decide) ?_
                            refine k_sub (L' := [(0, .ref (w.2.1 0)), (2, .int x2), (3, .int y164), (4, .int v4_20), (5, .int y165)]) [0, 1, 2, 3, 4] rfl ?_
                            exact ih29 _ _ _ h
                          · replace h := k_if_f h c155
                            refine k_iconst C dX12_leavers_158 (v := 1) rfl ?_
                            refine k_goto C dX12_leavers_159 (tgt := 163) (by decide) ?_
                            refine k_iadd C dX12_leavers_163 ?_
                            refine k_topi (fun y164 ey164 => ?_)
                            replace h := k_nm_e h y164 ey164
                            refine k_istore_n C dX12_leavers_164 (by decide) [1, 2, 0, 3, 4, 5] (L' := [(0, .ref (w.2.1 0)), (2, .int x2), (3, .int y164), (4, .int v4_20), (5, .int v5_29), (7, .int t0_131)]) rfl ?_
                            refine k_iinc C dX12_leavers_165 4 rfl (v := 1) rfl (by decide) [1, 2, 3, 4, 0, 5] (L' := fun z9 => [(0, .ref (w.2.1 0)), (2, .int x2), (3, .int y164), (4, .int v4_20), (5, .int z9), (7, .int t0_131)]) (fun z9 => rfl) (fun y165 ey165 => ?_)
                            replace h := k_nm_e h y165 ey165
                            refine k_goto C dX12_leavers_168 (tgt := 29) (by decide) ?_
                            refine k_sub (L' := [(0, .ref (w.2.1 0)), (2, .int x2), (3, .int y164), (4, .int v4_20), (5, .int y165)]) [0, 1, 2, 3, 4] rfl ?_
                            exact ih29 _ _ _ h
                        refine k_if_eq C dX12_leavers_135 (tgt := 152) (by decide) (fun c135 => ?_) (fun c135 => ?_)
                        · replace h := k_if_t h c135
                          exact Jj152 h
                        · replace h := k_if_f h c135
                          refine k_iload_n C dX12_leavers_138 2 rfl ?_
                          refine k_iload_n C dX12_leavers_139 1 rfl ?_
                          refine k_icmp_ne C dX12_leavers_140 (tgt := 152) (by decide) (fun c140 => ?_) (fun c140 => ?_)
                          · replace h := k_if_f h c140
                            exact Jj152 h
                          · replace h := k_if_t h c140
                            refine k_bipush C dX12_leavers_143 (v := 10) rfl ?_
                            refine k_iload C dX12_leavers_145 3 rfl ?_
                            refine k_imul C dX12_leavers_147 ?_
                            refine k_iload C dX12_leavers_148 4 rfl ?_
                            refine k_iadd C dX12_leavers_150 ?_
                            exact k_iret C dX12_leavers_151 hr (Option.some.inj h)
                      obtain ⟨j130, ej130, h⟩ := k_jn_e h
                      have Jj130 : ∀ (s_130 : k_St), j130 s_130 = some (r, σ') → k_K (k_PM w) X (k_MQ X (k_Qi (k_PM w) r σ') (k_PM w).2.2.1) 130 [(0, .ref (w.2.1 0)), (2, .int x2), (3, .int v3_29), (4, .int v4_20), (5, .int v5_29)] [] s_130 := by
                        intro s_130 h
                        rw [ej130] at h
                        refine k_iconst C dX12_leavers_130 (v := 0) rfl ?_
                        exact Jj131 _ _ h
                      obtain ⟨j97, ej97, h⟩ := k_jn_e h
                      have Jj97 : ∀ (s_97 : k_St), j97 s_97 = some (r, σ') → k_K (k_PM w) X (k_MQ X (k_Qi (k_PM w) r σ') (k_PM w).2.2.1) 97 [(0, .ref (w.2.1 0)), (2, .int x2), (3, .int v3_29), (4, .int v4_20), (5, .int v5_29), (6, .int v63)] [] s_97 := by
                        intro s_97 h
                        rw [ej97] at h
                        refine k_aload_n C dX12_leavers_97 0 rfl ?_
                        refine k_get C dX12_leavers_98 (k_gM0_49 w) k_fX12_109 (Or.inl rfl) ?_
                        refine k_iload C dX12_leavers_101 4 rfl ?_
                        obtain ⟨q103, h⟩ := k_gd_e h
                        refine k_iald C dX12_leavers_103 (k_aM32 w) q103 ?_
                        refine k_iconst C dX12_leavers_104 (v := -1) rfl ?_
                        refine k_icmp_eq C dX12_leavers_105 (tgt := 126) (by decide) (fun c105 => ?_) (fun c105 => ?_)
                        · replace h := k_if_t h c105
                          refine k_iconst C dX12_leavers_126 (v := 1) rfl ?_
                          refine k_goto C dX12_leavers_127 (tgt := 131) (by decide) ?_
                          refine k_sub (L' := [(0, .ref (w.2.1 0)), (2, .int x2), (3, .int v3_29), (4, .int v4_20), (5, .int v5_29)]) [0, 1, 2, 3, 4] rfl ?_
                          exact Jj131 _ _ h
                        · replace h := k_if_f h c105
                          refine k_iload C dX12_leavers_108 5 rfl ?_
                          refine k_aload_n C dX12_leavers_110 0 rfl ?_
                          refine k_aload_n C dX12_leavers_111 0 rfl ?_
                          refine k_get C dX12_leavers_112 (k_gM0_49 w) k_fX12_109 (Or.inl rfl) ?_
                          refine k_iload C dX12_leavers_115 4 rfl ?_
                          obtain ⟨q117, h⟩ := k_gd_e h
                          refine k_iald C dX12_leavers_117 (k_aM32 w) q117 ?_
                          refine k_iload C dX12_leavers_118 4 rfl ?_
                          obtain ⟨v120, s120, h120, h⟩ := k_b2_e h
                          refine k_goI (k_runV C dX12_leavers_120 (e_X12_fitOf (d := 9) (Nat.le_refl _) h120) k_lX12_425 k_yX12_fitOf (k_oM0 w) (by omega) rfl (Nat.le_of_ble_eq_true rfl)) ?_
                          refine k_icmp_le C dX12_leavers_123 (tgt := 130) (by decide) (fun c123 => ?_) (fun c123 => ?_)
                          · replace h := k_if_t h c123
                            refine k_sub (L' := [(0, .ref (w.2.1 0)), (2, .int x2), (3, .int v3_29), (4, .int v4_20), (5, .int v5_29)]) [0, 1, 2, 3, 4] rfl ?_
                            exact Jj130 _ h
                          · replace h := k_if_f h c123
                            refine k_iconst C dX12_leavers_126 (v := 1) rfl ?_
                            refine k_goto C dX12_leavers_127 (tgt := 131) (by decide) ?_
                            refine k_sub (L' := [(0, .ref (w.2.1 0)), (2, .int x2), (3, .int v3_29), (4, .int v4_20), (5, .int v5_29)]) [0, 1, 2, 3, 4] rfl ?_
                            exact Jj131 _ _ h
                      refine k_icmp_eq C dX12_leavers_76 (tgt := 97) (by decide) (fun c76 => ?_) (fun c76 => ?_)
                      · replace h := k_if_t h c76
                        exact Jj97 _ h
                      · replace h := k_if_f h c76
                        refine k_iload C dX12_leavers_79 5 rfl ?_
                        refine k_aload_n C dX12_leavers_81 0 rfl ?_
                        refine k_iload C dX12_leavers_82 3 rfl ?_
                        refine k_aload_n C dX12_leavers_84 0 rfl ?_
                        refine k_get C dX12_leavers_85 (k_gM0_48 w) k_fX12_106 (Or.inl rfl) ?_
                        refine k_iload C dX12_leavers_88 3 rfl ?_
                        obtain ⟨q90, h⟩ := k_gd_e h
                        refine k_iald C dX12_leavers_90 (k_aM31 w) q90 ?_
                        obtain ⟨v91, s91, h91, h⟩ := k_b2_e h
                        refine k_goI (k_runV C dX12_leavers_91 (e_X12_fitOf (d := 9) (Nat.le_refl _) h91) k_lX12_425 k_yX12_fitOf (k_oM0 w) (by omega) rfl (Nat.le_of_ble_eq_true rfl)) ?_
                        refine k_icmp_le C dX12_leavers_94 (tgt := 130) (by decide) (fun c94 => ?_) (fun c94 => ?_)
                        · replace h := k_if_t h c94
                          refine k_sub (L' := [(0, .ref (w.2.1 0)), (2, .int x2), (3, .int v3_29), (4, .int v4_20), (5, .int v5_29)]) [0, 1, 2, 3, 4] rfl ?_
                          exact Jj130 _ h
                        · replace h := k_if_f h c94
                          exact Jj97 _ h
            exact K29 _ _ _ _ h
      refine k_sub (L' := [(0, .ref (w.2.1 0)), (2, .int x2), (3, .int (0 : Int32)), (4, .int (0 : Int32))]) [0, 2, 3, 4] rfl ?_
      exact K20 _ _ _ _ h
    · replace h := k_if_t h c10
      refine k_iconst C dX12_leavers_13 (v := -1) rfl ?_
      exact k_iret C dX12_leavers_14 hr (Option.some.inj h)
def f_X12_read (x1 : Int32) (x2 : Int32) (x3 : Int32) (σ : k_St) : Option (Int32 × k_St) :=
  k_b2 (f_X12_code x1 x2 (-1 : Int32) σ) fun v4 s4 =>
  k_if (v4 = (-1 : Int32))
    (some ((-1 : Int32), s4))
    (k_bd (f_X12_in x3 (0 : Int32) ((o_shl (1 : Int32) v4) - (1 : Int32))) fun v23 =>
    k_if (v23 = (0 : Int32))
      (some ((-1 : Int32), s4))
      (k_loop (fun (g41 : Int32 × Int32 × Int32 → Option (Int32 × k_St)) (z41 : Int32 × Int32 × Int32) => match z41 with
        | (v5_41, v6_41, v7_41) =>
          k_if (x1 ≤ v7_41)
            (some (v5_41, s4))
            (k_gd (k_ix v7_41 256 = true) <|
            k_bd (f_J6_bitCount_0f7a4 ((k_rd s4 21 v7_41.toNatClampNeg) ^^^ x3)) fun v56 =>
            k_jn (fun (t0_86 : Int32) =>
              k_nm ((o_min v6_41 v56)) fun y95 =>
              k_nm (v7_41 + (1 : Int32)) fun y97 =>
              g41 (t0_86, y95, y97)) fun j86 =>
            k_if (v6_41 ≤ v56)
              (k_if (v56 = v6_41)
                (j86 (-1 : Int32))
                (j86 v5_41))
              (j86 v7_41))) 100000 ((-1 : Int32), (9 : Int32), (0 : Int32))))
set_option maxHeartbeats 4000000 in
set_option maxRecDepth 100000 in
theorem e_X12_read {l : Launch} {w : k_WC} {d : Nat} (hd : 5 ≤ d) {x1 : Int32} {x2 : Int32} {x3 : Int32}  {σ σ' : k_St} {r : Int32} (h : f_X12_read x1 x2 x3 σ = some (r, σ')) : k_EI l (k_PM w) yX12_read cX12_read 9 (some .int) d [.ref (w.2.1 0), .int x1, .int x2, .int x3] σ r σ' := by
  refine k_of (own := RX12) rfl (by decide) (Nat.le_of_ble_eq_true rfl) (fun X hX C hr => ?_)
  show k_K (k_PM w) X (k_MQ X (k_Qi (k_PM w) r σ') (k_PM w).2.2.1) 0 [(0, .ref (w.2.1 0)), (1, .int x1), (2, .int x2), (3, .int x3)] [] σ
  unfold f_X12_read at h
  refine k_aload_n C dX12_read_0 0 rfl ?_
  refine k_iload_n C dX12_read_1 1 rfl ?_
  refine k_iload_n C dX12_read_2 2 rfl ?_
  refine k_iconst C dX12_read_3 (v := -1) rfl ?_
  obtain ⟨v4, s4, h4, h⟩ := k_b2_e h
  refine k_goI (k_runV C dX12_read_4 (e_X12_code (d := 4) (Nat.le_refl _) h4) k_lX12_489 k_yX12_code (k_oM0 w) (by omega) rfl (Nat.le_of_ble_eq_true rfl)) ?_
  refine k_istore C dX12_read_7 (by decide) [1, 2, 3, 4, 0] (L' := [(0, .ref (w.2.1 0)), (1, .int x1), (2, .int x2), (3, .int x3), (4, .int v4)]) rfl ?_
  refine k_iload C dX12_read_9 4 rfl ?_
  refine k_iconst C dX12_read_11 (v := -1) rfl ?_
  refine k_icmp_eq C dX12_read_12 (tgt := 29) (by decide) (fun c12 => ?_) (fun c12 => ?_)
  · replace h := k_if_t h c12
    refine k_iconst C dX12_read_29 (v := -1) rfl ?_
    exact k_iret C dX12_read_30 hr (Option.some.inj h)
  · replace h := k_if_f h c12
    refine k_iload_n C dX12_read_15 3 rfl ?_
    refine k_iconst C dX12_read_16 (v := 0) rfl ?_
    refine k_iconst C dX12_read_17 (v := 1) rfl ?_
    refine k_iload C dX12_read_18 4 rfl ?_
    refine k_ishl C dX12_read_20 ?_
    refine k_iconst C dX12_read_21 (v := 1) rfl ?_
    refine k_isub C dX12_read_22 ?_
    obtain ⟨v23, h23, h⟩ := k_bd_e h
    refine k_goI (k_runS C dX12_read_23 (e_X12_in (d := 2) (Nat.le_refl _) h23) k_lX12_269 k_yX12_in (by omega) rfl (Nat.le_of_ble_eq_true rfl)) ?_
    refine k_if_ne C dX12_read_26 (tgt := 31) (by decide) (fun c26 => ?_) (fun c26 => ?_)
    · replace h := k_if_f h c26
      refine k_iconst C dX12_read_31 (v := -1) rfl ?_
      refine k_istore C dX12_read_32 (by decide) [1, 2, 3, 4, 5, 0] (L' := [(0, .ref (w.2.1 0)), (1, .int x1), (2, .int x2), (3, .int x3), (4, .int v4), (5, .int (-1 : Int32))]) rfl ?_
      refine k_bipush C dX12_read_34 (v := 9) rfl ?_
      refine k_istore C dX12_read_36 (by decide) [1, 2, 3, 4, 5, 6, 0] (L' := [(0, .ref (w.2.1 0)), (1, .int x1), (2, .int x2), (3, .int x3), (4, .int v4), (5, .int (-1 : Int32)), (6, .int (9 : Int32))]) rfl ?_
      refine k_iconst C dX12_read_38 (v := 0) rfl ?_
      refine k_istore C dX12_read_39 (by decide) [1, 2, 3, 4, 5, 6, 7, 0] (L' := [(0, .ref (w.2.1 0)), (1, .int x1), (2, .int x2), (3, .int x3), (4, .int v4), (5, .int (-1 : Int32)), (6, .int (9 : Int32)), (7, .int (0 : Int32))]) rfl ?_
      obtain ⟨b41, eb41, h⟩ := k_lp_e h
      have K41 : ∀ (n : Nat) (v5_41 : Int32) (v6_41 : Int32) (v7_41 : Int32), k_loop b41 n (v5_41, v6_41, v7_41) = some (r, σ') → k_K (k_PM w) X (k_MQ X (k_Qi (k_PM w) r σ') (k_PM w).2.2.1) 41 [(0, .ref (w.2.1 0)), (1, .int x1), (3, .int x3), (5, .int v5_41), (6, .int v6_41), (7, .int v7_41)] [] s4 := by
        intro n
        induction n with
        | zero => intro v5_41 v6_41 v7_41 h; cases h
        | succ n ih41 =>
          intro v5_41 v6_41 v7_41 h
          obtain ⟨g41, eg41, h⟩ := k_lp_s h
          rw [← eg41] at ih41
          rw [eb41] at h
          refine k_iload C dX12_read_41 5 rfl ?_
          refine k_iload_n C dX12_read_43 1 rfl ?_
          refine k_icmp_ge C dX12_read_44 (tgt := 103) (by decide) (fun c44 => ?_) (fun c44 => ?_)
          · replace h := k_if_t h c44
            refine k_iload C dX12_read_103 3 rfl ?_
            exact k_iret C dX12_read_105 hr (Option.some.inj h)
          · replace h := k_if_f h c44
            refine k_aload_n C dX12_read_47 0 rfl ?_
            refine k_get C dX12_read_48 (k_gM0_38 w) k_fX12_74 (Or.inl rfl) ?_
            refine k_iload C dX12_read_51 5 rfl ?_
            obtain ⟨q53, h⟩ := k_gd_e h
            refine k_iald C dX12_read_53 (k_aM21 w) q53 ?_
            refine k_iload_n C dX12_read_54 2 rfl ?_
            refine k_ixor C dX12_read_55 ?_
            obtain ⟨v56, h56, h⟩ := k_bd_e h
            refine k_goI (k_runS C dX12_read_56 (e_J6_bitCount_0f7a4_M (d := 2) (Nat.le_refl _) h56) k_lX12_414 k_yJ6_bitCount_0f7a4 (by omega) rfl (Nat.le_of_ble_eq_true rfl)) ?_
            refine k_istore C dX12_read_59 (by decide) [1, 2, 3, 4, 5, 6, 0] (L' := [(0, .ref (w.2.1 0)), (1, .int x1), (3, .int x3), (5, .int v5_41), (6, .int v6_41), (7, .int v7_41), (8, .int v56)]) rfl ?_
            refine k_iload C dX12_read_61 6 rfl ?_
            refine k_iload C dX12_read_63 4 rfl ?_
            obtain ⟨j86, ej86, h⟩ := k_jn_e h
            have Jj86 : ∀ (t0_86 : Int32), j86 t0_86 = some (r, σ') → k_K (k_PM w) X (k_MQ X (k_Qi (k_PM w) r σ') (k_PM w).2.2.1) 86 [(0, .ref (w.2.1 0)), (1, .int x1), (3, .int x3), (6, .int v6_41), (7, .int v7_41), (8, .int v56)] [.int t0_86] s4 := by
              intro t0_86 h
              rw [ej86] at h
              refine k_istore C dX12_read_86 (by decide) [1, 2, 3, 0, 4, 5, 6] (L' := [(0, .ref (w.2.1 0)), (1, .int x1), (3, .int x3), (5, .int t0_86), (6, .int v6_41), (7, .int v7_41), (8, .int v56)]) rfl ?_
              refine k_iload C dX12_read_88 4 rfl ?_
              refine k_iload C dX12_read_90 6 rfl ?_
              refine k_mmin C dX12_read_92 k_lX12_349 k_ym_min (by omega) (Nat.le_of_ble_eq_true rfl) ?_
              refine k_topi (fun y95 ey95 => ?_)
              replace h := k_nm_e h y95 ey95
              refine k_istore C dX12_read_95 (by decide) [1, 2, 3, 4, 0, 5, 6] (L' := [(0, .ref (w.2.1 0)), (1, .int x1), (3, .int x3), (5, .int t0_86), (6, .int y95), (7, .int v7_41), (8, .int v56)]) rfl ?_
              refine k_iinc C dX12_read_97 5 rfl (v := 1) rfl (by decide) [1, 2, 3, 4, 5, 0, 6] (L' := fun z9 => [(0, .ref (w.2.1 0)), (1, .int x1), (3, .int x3), (5, .int t0_86), (6, .int y95), (7, .int z9), (8, .int v56)]) (fun z9 => rfl) (fun y97 ey97 => ?_)
              replace h := k_nm_e h y97 ey97
              refine k_goto C dX12_read_100 (tgt := 41) (by decide) ?_
              refine k_sub (L' := [(0, .ref (w.2.1 0)), (1, .int x1), (3, .int x3), (5, .int t0_86), (6, .int y95), (7, .int y97)]) [0, 1, 2, 3, 4, 5] rfl ?_
              exact ih41 _ _ _ h
            refine k_icmp_ge C dX12_read_65 (tgt := 73) (by decide) (fun c65 => ?_) (fun c65 => ?_)
            · replace h := k_if_t h c65
              refine k_iload C dX12_read_73 6 rfl ?_
              refine k_iload C dX12_read_75 4 rfl ?_
              refine k_icmp_ne C dX12_read_77 (tgt := 84) (by decide) (fun c77 => ?_) (fun c77 => ?_)
              · replace h := k_if_f h c77
                refine k_iload C dX12_read_84 3 rfl ?_
                refine k_sub (L' := [(0, .ref (w.2.1 0)), (1, .int x1), (3, .int x3), (6, .int v6_41), (7, .int v7_41), (8, .int v56)]) [0, 1, 2, 4, 5, 6] rfl ?_
                exact Jj86 _ h
              · replace h := k_if_t h c77
                refine k_iconst C dX12_read_80 (v := -1) rfl ?_
                refine k_goto C dX12_read_81 (tgt := 86) (by decide) ?_
                refine k_sub (L' := [(0, .ref (w.2.1 0)), (1, .int x1), (3, .int x3), (6, .int v6_41), (7, .int v7_41), (8, .int v56)]) [0, 1, 2, 4, 5, 6] rfl ?_
                exact Jj86 _ h
            · replace h := k_if_f h c65
              refine k_iload C dX12_read_68 5 rfl ?_
              refine k_goto C dX12_read_70 (tgt := 86) (by decide) ?_
              refine k_sub (L' := [(0, .ref (w.2.1 0)), (1, .int x1), (3, .int x3), (6, .int v6_41), (7, .int v7_41), (8, .int v56)]) [0, 1, 2, 4, 5, 6] rfl ?_
              exact Jj86 _ h
      refine k_sub (L' := [(0, .ref (w.2.1 0)), (1, .int x1), (3, .int x3), (5, .int (-1 : Int32)), (6, .int (9 : Int32)), (7, .int (0 : Int32))]) [0, 1, 3, 5, 6, 7] rfl ?_
      exact K41 _ _ _ _ h
    · replace h := k_if_t h c26
      refine k_iconst C dX12_read_29 (v := -1) rfl ?_
      exact k_iret C dX12_read_30 hr (Option.some.inj h)
def f_X12_spread (x1 : Int32) (x2 : Int32) (σ : k_St) : Option (Int32 × k_St) :=
  k_if (x1 < (2 : Int32))
    (some ((-1 : Int32), σ))
    (k_b2 (f_X12_code x1 x2 (-1 : Int32) σ) fun v9 s9 =>
    k_if (v9 = (-1 : Int32))
      (some ((-1 : Int32), s9))
      (k_loop (fun (g24 : Int32 × Int32 → Option (Int32 × k_St)) (z24 : Int32 × Int32) => match z24 with
        | (v3_24, v4_24) =>
          k_if (x1 ≤ v4_24)
            (some (v3_24, s9))
            (k_loop (fun (g33 : Int32 × Int32 → Option (Int32 × k_St)) (z33 : Int32 × Int32) => match z33 with
              | (v3_33, v5_33) =>
                k_if (v4_24 ≤ v5_33)
                  (k_nm (v4_24 + (1 : Int32)) fun y69 =>
                  g24 (v3_33, y69))
                  (k_gd (k_ix v4_24 256 = true) <|
                  k_gd (k_ix v5_33 256 = true) <|
                  k_bd (f_J6_bitCount_0f7a4 ((k_rd s9 21 v4_24.toNatClampNeg) ^^^ (k_rd s9 21 v5_33.toNatClampNeg))) fun v56 =>
                  k_nm ((o_min v3_33 v56)) fun y62 =>
                  k_nm (v5_33 + (1 : Int32)) fun y63 =>
                  g33 (y62, y63))) 100000 (v3_24, (0 : Int32)))) 100000 ((9 : Int32), (0 : Int32))))
set_option maxHeartbeats 4000000 in
set_option maxRecDepth 100000 in
theorem e_X12_spread {l : Launch} {w : k_WC} {d : Nat} (hd : 5 ≤ d) {x1 : Int32} {x2 : Int32}  {σ σ' : k_St} {r : Int32} (h : f_X12_spread x1 x2 σ = some (r, σ')) : k_EI l (k_PM w) yX12_spread cX12_spread 6 (some .int) d [.ref (w.2.1 0), .int x1, .int x2] σ r σ' := by
  refine k_of (own := RX12) rfl (by decide) (Nat.le_of_ble_eq_true rfl) (fun X hX C hr => ?_)
  show k_K (k_PM w) X (k_MQ X (k_Qi (k_PM w) r σ') (k_PM w).2.2.1) 0 [(0, .ref (w.2.1 0)), (1, .int x1), (2, .int x2)] [] σ
  unfold f_X12_spread at h
  refine k_iload_n C dX12_spread_0 1 rfl ?_
  refine k_iconst C dX12_spread_1 (v := 2) rfl ?_
  refine k_icmp_lt C dX12_spread_2 (tgt := 16) (by decide) (fun c2 => ?_) (fun c2 => ?_)
  · replace h := k_if_t h c2
    refine k_iconst C dX12_spread_16 (v := -1) rfl ?_
    exact k_iret C dX12_spread_17 hr (Option.some.inj h)
  · replace h := k_if_f h c2
    refine k_aload_n C dX12_spread_5 0 rfl ?_
    refine k_iload_n C dX12_spread_6 1 rfl ?_
    refine k_iload_n C dX12_spread_7 2 rfl ?_
    refine k_iconst C dX12_spread_8 (v := -1) rfl ?_
    obtain ⟨v9, s9, h9, h⟩ := k_b2_e h
    refine k_goI (k_runV C dX12_spread_9 (e_X12_code (d := 4) (Nat.le_refl _) h9) k_lX12_489 k_yX12_code (k_oM0 w) (by omega) rfl (Nat.le_of_ble_eq_true rfl)) ?_
    refine k_iconst C dX12_spread_12 (v := -1) rfl ?_
    refine k_icmp_ne C dX12_spread_13 (tgt := 18) (by decide) (fun c13 => ?_) (fun c13 => ?_)
    · replace h := k_if_f h c13
      refine k_bipush C dX12_spread_18 (v := 9) rfl ?_
      refine k_istore_n C dX12_spread_20 (by decide) [1, 2, 3, 0] (L' := [(0, .ref (w.2.1 0)), (1, .int x1), (2, .int x2), (3, .int (9 : Int32))]) rfl ?_
      refine k_iconst C dX12_spread_21 (v := 0) rfl ?_
      refine k_istore C dX12_spread_22 (by decide) [1, 2, 3, 4, 0] (L' := [(0, .ref (w.2.1 0)), (1, .int x1), (2, .int x2), (3, .int (9 : Int32)), (4, .int (0 : Int32))]) rfl ?_
      obtain ⟨b24, eb24, h⟩ := k_lp_e h
      have K24 : ∀ (n : Nat) (v3_24 : Int32) (v4_24 : Int32), k_loop b24 n (v3_24, v4_24) = some (r, σ') → k_K (k_PM w) X (k_MQ X (k_Qi (k_PM w) r σ') (k_PM w).2.2.1) 24 [(0, .ref (w.2.1 0)), (1, .int x1), (3, .int v3_24), (4, .int v4_24)] [] s9 := by
        intro n
        induction n with
        | zero => intro v3_24 v4_24 h; cases h
        | succ n ih24 =>
          intro v3_24 v4_24 h
          obtain ⟨g24, eg24, h⟩ := k_lp_s h
          rw [← eg24] at ih24
          rw [eb24] at h
          refine k_iload C dX12_spread_24 3 rfl ?_
          refine k_iload_n C dX12_spread_26 1 rfl ?_
          refine k_icmp_ge C dX12_spread_27 (tgt := 75) (by decide) (fun c27 => ?_) (fun c27 => ?_)
          · replace h := k_if_t h c27
            refine k_iload_n C dX12_spread_75 2 rfl ?_
            exact k_iret C dX12_spread_76 hr (Option.some.inj h)
          · replace h := k_if_f h c27
            refine k_iconst C dX12_spread_30 (v := 0) rfl ?_
            refine k_istore C dX12_spread_31 (by decide) [1, 2, 3, 4, 0] (L' := [(0, .ref (w.2.1 0)), (1, .int x1), (3, .int v3_24), (4, .int v4_24), (5, .int (0 : Int32))]) rfl ?_
            obtain ⟨b33, eb33, h⟩ := k_lp_e h
            have K33 : ∀ (n : Nat) (v3_33 : Int32) (v5_33 : Int32), k_loop b33 n (v3_33, v5_33) = some (r, σ') → k_K (k_PM w) X (k_MQ X (k_Qi (k_PM w) r σ') (k_PM w).2.2.1) 33 [(0, .ref (w.2.1 0)), (1, .int x1), (3, .int v3_33), (4, .int v4_24), (5, .int v5_33)] [] s9 := by
              intro n
              induction n with
              | zero => intro v3_33 v5_33 h; cases h
              | succ n ih33 =>
                intro v3_33 v5_33 h
                obtain ⟨g33, eg33, h⟩ := k_lp_s h
                rw [← eg33] at ih33
                rw [eb33] at h
                refine k_iload C dX12_spread_33 4 rfl ?_
                refine k_iload C dX12_spread_35 3 rfl ?_
                refine k_icmp_ge C dX12_spread_37 (tgt := 69) (by decide) (fun c37 => ?_) (fun c37 => ?_)
                · replace h := k_if_t h c37
                  refine k_iinc C dX12_spread_69 3 rfl (v := 1) rfl (by decide) [1, 2, 3, 0, 4] (L' := fun z9 => [(0, .ref (w.2.1 0)), (1, .int x1), (3, .int v3_33), (4, .int z9), (5, .int v5_33)]) (fun z9 => rfl) (fun y69 ey69 => ?_)
                  replace h := k_nm_e h y69 ey69
                  refine k_goto C dX12_spread_72 (tgt := 24) (by decide) ?_
                  refine k_sub (L' := [(0, .ref (w.2.1 0)), (1, .int x1), (3, .int v3_33), (4, .int y69)]) [0, 1, 2, 3] rfl ?_
                  exact ih24 _ _ h
                · replace h := k_if_f h c37
                  refine k_iload_n C dX12_spread_40 2 rfl ?_
                  refine k_aload_n C dX12_spread_41 0 rfl ?_
                  refine k_get C dX12_spread_42 (k_gM0_38 w) k_fX12_74 (Or.inl rfl) ?_
                  refine k_iload C dX12_spread_45 3 rfl ?_
                  obtain ⟨q47, h⟩ := k_gd_e h
                  refine k_iald C dX12_spread_47 (k_aM21 w) q47 ?_
                  refine k_aload_n C dX12_spread_48 0 rfl ?_
                  refine k_get C dX12_spread_49 (k_gM0_38 w) k_fX12_74 (Or.inl rfl) ?_
                  refine k_iload C dX12_spread_52 4 rfl ?_
                  obtain ⟨q54, h⟩ := k_gd_e h
                  refine k_iald C dX12_spread_54 (k_aM21 w) q54 ?_
                  refine k_ixor C dX12_spread_55 ?_
                  obtain ⟨v56, h56, h⟩ := k_bd_e h
                  refine k_goI (k_runS C dX12_spread_56 (e_J6_bitCount_0f7a4_M (d := 2) (Nat.le_refl _) h56) k_lX12_414 k_yJ6_bitCount_0f7a4 (by omega) rfl (Nat.le_of_ble_eq_true rfl)) ?_
                  refine k_mmin C dX12_spread_59 k_lX12_349 k_ym_min (by omega) (Nat.le_of_ble_eq_true rfl) ?_
                  refine k_topi (fun y62 ey62 => ?_)
                  replace h := k_nm_e h y62 ey62
                  refine k_istore_n C dX12_spread_62 (by decide) [1, 2, 0, 3, 4] (L' := [(0, .ref (w.2.1 0)), (1, .int x1), (3, .int y62), (4, .int v4_24), (5, .int v5_33)]) rfl ?_
                  refine k_iinc C dX12_spread_63 4 rfl (v := 1) rfl (by decide) [1, 2, 3, 4, 0] (L' := fun z9 => [(0, .ref (w.2.1 0)), (1, .int x1), (3, .int y62), (4, .int v4_24), (5, .int z9)]) (fun z9 => rfl) (fun y63 ey63 => ?_)
                  replace h := k_nm_e h y63 ey63
                  refine k_goto C dX12_spread_66 (tgt := 33) (by decide) ?_
                  exact ih33 _ _ h
            exact K33 _ _ _ h
      refine k_sub (L' := [(0, .ref (w.2.1 0)), (1, .int x1), (3, .int (9 : Int32)), (4, .int (0 : Int32))]) [0, 1, 3, 4] rfl ?_
      exact K24 _ _ _ h
    · replace h := k_if_t h c13
      refine k_iconst C dX12_spread_16 (v := -1) rfl ?_
      exact k_iret C dX12_spread_17 hr (Option.some.inj h)
def f_X12_hoard (x1 : Int32) (x2 : Int32) (σ : k_St) : Option (Int32) :=
  k_bd (f_X12_isPlace x1 σ) fun v2 =>
  k_if (v2 = (0 : Int32))
    (some (-1 : Int32))
    (k_bd (f_X12_in x2 (0 : Int32) (1 : Int32)) fun v11 =>
    k_if (v11 = (0 : Int32))
      (some (-1 : Int32))
      (k_loop (fun (g24 : Int32 × Int32 → Option (Int32)) (z24 : Int32 × Int32) => match z24 with
        | (v3_24, v4_24) =>
          k_if ((k_rd σ 0 59) ≤ v4_24)
            (some v3_24)
            (k_gd (k_ix v4_24 40 = true) <|
            k_if ((k_rd σ 35 v4_24.toNatClampNeg) = x1)
              (k_if (x2 = (0 : Int32))
                (k_gd (k_ix v4_24 40 = true) <|
                k_nm ((v3_24 + (k_rd σ 37 v4_24.toNatClampNeg))) fun y65 =>
                k_nm (v4_24 + (1 : Int32)) fun y66 =>
                g24 (y65, y66))
                (k_nm ((v3_24 + (1 : Int32))) fun y65 =>
                k_nm (v4_24 + (1 : Int32)) fun y66 =>
                g24 (y65, y66)))
              (k_nm ((v3_24 + (0 : Int32))) fun y65 =>
              k_nm (v4_24 + (1 : Int32)) fun y66 =>
              g24 (y65, y66)))) 100000 ((0 : Int32), (0 : Int32))))
set_option maxHeartbeats 4000000 in
set_option maxRecDepth 100000 in
theorem e_X12_hoard {l : Launch} {w : k_WC} {d : Nat} (hd : 4 ≤ d) {x1 : Int32} {x2 : Int32}  {σ : k_St} {r : Int32} (h : f_X12_hoard x1 x2 σ = some r) : k_EI l (k_PM w) yX12_hoard cX12_hoard 5 (some .int) d [.ref (w.2.1 0), .int x1, .int x2] σ r σ := by
  refine k_of (own := RX12) rfl (by decide) (Nat.le_of_ble_eq_true rfl) (fun X hX C hr => ?_)
  show k_K (k_PM w) X (k_MQ X (k_Qi (k_PM w) r σ) (k_PM w).2.2.1) 0 [(0, .ref (w.2.1 0)), (1, .int x1), (2, .int x2)] [] σ
  unfold f_X12_hoard at h
  refine k_aload_n C dX12_hoard_0 0 rfl ?_
  refine k_iload_n C dX12_hoard_1 1 rfl ?_
  obtain ⟨v2, h2, h⟩ := k_bd_e h
  refine k_goI (k_runV C dX12_hoard_2 (e_X12_isPlace (d := 3) (Nat.le_refl _) h2) k_lX12_353 k_yX12_isPlace (k_oM0 w) (by omega) rfl (Nat.le_of_ble_eq_true rfl)) ?_
  refine k_if_eq C dX12_hoard_5 (tgt := 17) (by decide) (fun c5 => ?_) (fun c5 => ?_)
  · replace h := k_if_t h c5
    refine k_iconst C dX12_hoard_17 (v := -1) rfl ?_
    exact k_iret C dX12_hoard_18 hr (k_p1 h)
  · replace h := k_if_f h c5
    refine k_iload_n C dX12_hoard_8 2 rfl ?_
    refine k_iconst C dX12_hoard_9 (v := 0) rfl ?_
    refine k_iconst C dX12_hoard_10 (v := 1) rfl ?_
    obtain ⟨v11, h11, h⟩ := k_bd_e h
    refine k_goI (k_runS C dX12_hoard_11 (e_X12_in (d := 2) (Nat.le_refl _) h11) k_lX12_269 k_yX12_in (by omega) rfl (Nat.le_of_ble_eq_true rfl)) ?_
    refine k_if_ne C dX12_hoard_14 (tgt := 19) (by decide) (fun c14 => ?_) (fun c14 => ?_)
    · replace h := k_if_f h c14
      refine k_iconst C dX12_hoard_19 (v := 0) rfl ?_
      refine k_istore_n C dX12_hoard_20 (by decide) [1, 2, 3, 0] (L' := [(0, .ref (w.2.1 0)), (1, .int x1), (2, .int x2), (3, .int (0 : Int32))]) rfl ?_
      refine k_iconst C dX12_hoard_21 (v := 0) rfl ?_
      refine k_istore C dX12_hoard_22 (by decide) [1, 2, 3, 4, 0] (L' := [(0, .ref (w.2.1 0)), (1, .int x1), (2, .int x2), (3, .int (0 : Int32)), (4, .int (0 : Int32))]) rfl ?_
      obtain ⟨b24, eb24, h⟩ := k_lp_e h
      have K24 : ∀ (n : Nat) (v3_24 : Int32) (v4_24 : Int32), k_loop b24 n (v3_24, v4_24) = some r → k_K (k_PM w) X (k_MQ X (k_Qi (k_PM w) r σ) (k_PM w).2.2.1) 24 [(0, .ref (w.2.1 0)), (1, .int x1), (2, .int x2), (3, .int v3_24), (4, .int v4_24)] [] σ := by
        intro n
        induction n with
        | zero => intro v3_24 v4_24 h; cases h
        | succ n ih24 =>
          intro v3_24 v4_24 h
          obtain ⟨g24, eg24, h⟩ := k_lp_s h
          rw [← eg24] at ih24
          rw [eb24] at h
          refine k_iload C dX12_hoard_24 4 rfl ?_
          refine k_aload_n C dX12_hoard_26 0 rfl ?_
          refine k_get C dX12_hoard_27 (k_gM0_59 w) k_fX12_331 (Or.inl rfl) ?_
          refine k_icmp_ge C dX12_hoard_30 (tgt := 72) (by decide) (fun c30 => ?_) (fun c30 => ?_)
          · replace h := k_if_t h c30
            refine k_iload_n C dX12_hoard_72 3 rfl ?_
            exact k_iret C dX12_hoard_73 hr (k_p1 h)
          · replace h := k_if_f h c30
            refine k_iload_n C dX12_hoard_33 3 rfl ?_
            refine k_aload_n C dX12_hoard_34 0 rfl ?_
            refine k_get C dX12_hoard_35 (k_gM0_53 w) k_fX12_118 (Or.inl rfl) ?_
            refine k_iload C dX12_hoard_38 4 rfl ?_
            obtain ⟨q40, h⟩ := k_gd_e h
            refine k_iald C dX12_hoard_40 (k_aM35 w) q40 ?_
            refine k_iload_n C dX12_hoard_41 1 rfl ?_
            refine k_icmp_ne C dX12_hoard_42 (tgt := 63) (by decide) (fun c42 => ?_) (fun c42 => ?_)
            · replace h := k_if_f h c42
              refine k_iconst C dX12_hoard_63 (v := 0) rfl ?_
              refine k_iadd C dX12_hoard_64 ?_
              refine k_topi (fun y65 ey65 => ?_)
              replace h := k_nm_e h y65 ey65
              refine k_istore_n C dX12_hoard_65 (by decide) [1, 2, 3, 0, 4] (L' := [(0, .ref (w.2.1 0)), (1, .int x1), (2, .int x2), (3, .int y65), (4, .int v4_24)]) rfl ?_
              refine k_iinc C dX12_hoard_66 4 rfl (v := 1) rfl (by decide) [1, 2, 3, 4, 0] (L' := fun z9 => [(0, .ref (w.2.1 0)), (1, .int x1), (2, .int x2), (3, .int y65), (4, .int z9)]) (fun z9 => rfl) (fun y66 ey66 => ?_)
              replace h := k_nm_e h y66 ey66
              refine k_goto C dX12_hoard_69 (tgt := 24) (by decide) ?_
              exact ih24 _ _ h
            · replace h := k_if_t h c42
              refine k_iload_n C dX12_hoard_45 2 rfl ?_
              refine k_if_ne C dX12_hoard_46 (tgt := 59) (by decide) (fun c46 => ?_) (fun c46 => ?_)
              · replace h := k_if_f h c46
                refine k_iconst C dX12_hoard_59 (v := 1) rfl ?_
                refine k_goto C dX12_hoard_60 (tgt := 64) (by decide) ?_
                refine k_iadd C dX12_hoard_64 ?_
                refine k_topi (fun y65 ey65 => ?_)
                replace h := k_nm_e h y65 ey65
                refine k_istore_n C dX12_hoard_65 (by decide) [1, 2, 3, 0, 4] (L' := [(0, .ref (w.2.1 0)), (1, .int x1), (2, .int x2), (3, .int y65), (4, .int v4_24)]) rfl ?_
                refine k_iinc C dX12_hoard_66 4 rfl (v := 1) rfl (by decide) [1, 2, 3, 4, 0] (L' := fun z9 => [(0, .ref (w.2.1 0)), (1, .int x1), (2, .int x2), (3, .int y65), (4, .int z9)]) (fun z9 => rfl) (fun y66 ey66 => ?_)
                replace h := k_nm_e h y66 ey66
                refine k_goto C dX12_hoard_69 (tgt := 24) (by decide) ?_
                exact ih24 _ _ h
              · replace h := k_if_t h c46
                refine k_aload_n C dX12_hoard_49 0 rfl ?_
                refine k_get C dX12_hoard_50 (k_gM0_55 w) k_fX12_124 (Or.inl rfl) ?_
                refine k_iload C dX12_hoard_53 4 rfl ?_
                obtain ⟨q55, h⟩ := k_gd_e h
                refine k_iald C dX12_hoard_55 (k_aM37 w) q55 ?_
                refine k_goto C dX12_hoard_56 (tgt := 64) (by decide) ?_
                refine k_iadd C dX12_hoard_64 ?_
                refine k_topi (fun y65 ey65 => ?_)
                replace h := k_nm_e h y65 ey65
                refine k_istore_n C dX12_hoard_65 (by decide) [1, 2, 3, 0, 4] (L' := [(0, .ref (w.2.1 0)), (1, .int x1), (2, .int x2), (3, .int y65), (4, .int v4_24)]) rfl ?_
                refine k_iinc C dX12_hoard_66 4 rfl (v := 1) rfl (by decide) [1, 2, 3, 4, 0] (L' := fun z9 => [(0, .ref (w.2.1 0)), (1, .int x1), (2, .int x2), (3, .int y65), (4, .int z9)]) (fun z9 => rfl) (fun y66 ey66 => ?_)
                replace h := k_nm_e h y66 ey66
                refine k_goto C dX12_hoard_69 (tgt := 24) (by decide) ?_
                exact ih24 _ _ h
      exact K24 _ _ _ h
    · replace h := k_if_t h c14
      refine k_iconst C dX12_hoard_17 (v := -1) rfl ?_
      exact k_iret C dX12_hoard_18 hr (k_p1 h)
def f_X12_said (x1 : Int32) (x2 : Int32) (σ : k_St) : Option (Int32) :=
  k_if ((k_rd σ 0 21) = (0 : Int32))
    (some (-1 : Int32))
    (k_bd (f_X12_in x1 (0 : Int32) (3 : Int32)) fun v10 =>
    k_if (v10 = (0 : Int32))
      (some (-1 : Int32))
      (k_bd (f_X12_in x2 (0 : Int32) (3 : Int32)) fun v19 =>
      k_if (v19 = (0 : Int32))
        (some (-1 : Int32))
        (k_loop (fun (g32 : Int32 × Int32 → Option (Int32)) (z32 : Int32 × Int32) => match z32 with
          | (v3_32, v4_32) =>
            k_if ((k_rd σ 0 59) ≤ v4_32)
              (some v3_32)
              (k_gd (k_ix v4_32 40 = true) <|
              k_bd (f_X12_of (k_rd σ 35 v4_32.toNatClampNeg) (1 : Int32) σ) fun v51 =>
              k_if (v51 = x1)
                (k_gd (k_ix v4_32 40 = true) <|
                k_if ((k_rd σ 36 v4_32.toNatClampNeg) = x2)
                  (k_nm ((v3_32 + (1 : Int32))) fun y75 =>
                  k_nm (v4_32 + (1 : Int32)) fun y76 =>
                  g32 (y75, y76))
                  (k_nm ((v3_32 + (0 : Int32))) fun y75 =>
                  k_nm (v4_32 + (1 : Int32)) fun y76 =>
                  g32 (y75, y76)))
                (k_nm ((v3_32 + (0 : Int32))) fun y75 =>
                k_nm (v4_32 + (1 : Int32)) fun y76 =>
                g32 (y75, y76)))) 100000 ((0 : Int32), (0 : Int32)))))
set_option maxHeartbeats 4000000 in
set_option maxRecDepth 100000 in
theorem e_X12_said {l : Launch} {w : k_WC} {d : Nat} (hd : 3 ≤ d) {x1 : Int32} {x2 : Int32}  {σ : k_St} {r : Int32} (h : f_X12_said x1 x2 σ = some r) : k_EI l (k_PM w) yX12_said cX12_said 5 (some .int) d [.ref (w.2.1 0), .int x1, .int x2] σ r σ := by
  refine k_of (own := RX12) rfl (by decide) (Nat.le_of_ble_eq_true rfl) (fun X hX C hr => ?_)
  show k_K (k_PM w) X (k_MQ X (k_Qi (k_PM w) r σ) (k_PM w).2.2.1) 0 [(0, .ref (w.2.1 0)), (1, .int x1), (2, .int x2)] [] σ
  unfold f_X12_said at h
  refine k_aload_n C dX12_said_0 0 rfl ?_
  refine k_get C dX12_said_1 (k_gM0_21 w) k_fX12_306 (Or.inl rfl) ?_
  refine k_if_eq C dX12_said_4 (tgt := 25) (by decide) (fun c4 => ?_) (fun c4 => ?_)
  · replace h := k_if_t h c4
    refine k_iconst C dX12_said_25 (v := -1) rfl ?_
    exact k_iret C dX12_said_26 hr (k_p1 h)
  · replace h := k_if_f h c4
    refine k_iload_n C dX12_said_7 1 rfl ?_
    refine k_iconst C dX12_said_8 (v := 0) rfl ?_
    refine k_iconst C dX12_said_9 (v := 3) rfl ?_
    obtain ⟨v10, h10, h⟩ := k_bd_e h
    refine k_goI (k_runS C dX12_said_10 (e_X12_in (d := 2) (Nat.le_refl _) h10) k_lX12_269 k_yX12_in (by omega) rfl (Nat.le_of_ble_eq_true rfl)) ?_
    refine k_if_eq C dX12_said_13 (tgt := 25) (by decide) (fun c13 => ?_) (fun c13 => ?_)
    · replace h := k_if_t h c13
      refine k_iconst C dX12_said_25 (v := -1) rfl ?_
      exact k_iret C dX12_said_26 hr (k_p1 h)
    · replace h := k_if_f h c13
      refine k_iload_n C dX12_said_16 2 rfl ?_
      refine k_iconst C dX12_said_17 (v := 0) rfl ?_
      refine k_iconst C dX12_said_18 (v := 3) rfl ?_
      obtain ⟨v19, h19, h⟩ := k_bd_e h
      refine k_goI (k_runS C dX12_said_19 (e_X12_in (d := 2) (Nat.le_refl _) h19) k_lX12_269 k_yX12_in (by omega) rfl (Nat.le_of_ble_eq_true rfl)) ?_
      refine k_if_ne C dX12_said_22 (tgt := 27) (by decide) (fun c22 => ?_) (fun c22 => ?_)
      · replace h := k_if_f h c22
        refine k_iconst C dX12_said_27 (v := 0) rfl ?_
        refine k_istore_n C dX12_said_28 (by decide) [1, 2, 3, 0] (L' := [(0, .ref (w.2.1 0)), (1, .int x1), (2, .int x2), (3, .int (0 : Int32))]) rfl ?_
        refine k_iconst C dX12_said_29 (v := 0) rfl ?_
        refine k_istore C dX12_said_30 (by decide) [1, 2, 3, 4, 0] (L' := [(0, .ref (w.2.1 0)), (1, .int x1), (2, .int x2), (3, .int (0 : Int32)), (4, .int (0 : Int32))]) rfl ?_
        obtain ⟨b32, eb32, h⟩ := k_lp_e h
        have K32 : ∀ (n : Nat) (v3_32 : Int32) (v4_32 : Int32), k_loop b32 n (v3_32, v4_32) = some r → k_K (k_PM w) X (k_MQ X (k_Qi (k_PM w) r σ) (k_PM w).2.2.1) 32 [(0, .ref (w.2.1 0)), (1, .int x1), (2, .int x2), (3, .int v3_32), (4, .int v4_32)] [] σ := by
          intro n
          induction n with
          | zero => intro v3_32 v4_32 h; cases h
          | succ n ih32 =>
            intro v3_32 v4_32 h
            obtain ⟨g32, eg32, h⟩ := k_lp_s h
            rw [← eg32] at ih32
            rw [eb32] at h
            refine k_iload C dX12_said_32 4 rfl ?_
            refine k_aload_n C dX12_said_34 0 rfl ?_
            refine k_get C dX12_said_35 (k_gM0_59 w) k_fX12_331 (Or.inl rfl) ?_
            refine k_icmp_ge C dX12_said_38 (tgt := 82) (by decide) (fun c38 => ?_) (fun c38 => ?_)
            · replace h := k_if_t h c38
              refine k_iload_n C dX12_said_82 3 rfl ?_
              exact k_iret C dX12_said_83 hr (k_p1 h)
            · replace h := k_if_f h c38
              refine k_iload_n C dX12_said_41 3 rfl ?_
              refine k_aload_n C dX12_said_42 0 rfl ?_
              refine k_aload_n C dX12_said_43 0 rfl ?_
              refine k_get C dX12_said_44 (k_gM0_53 w) k_fX12_118 (Or.inl rfl) ?_
              refine k_iload C dX12_said_47 4 rfl ?_
              obtain ⟨q49, h⟩ := k_gd_e h
              refine k_iald C dX12_said_49 (k_aM35 w) q49 ?_
              refine k_iconst C dX12_said_50 (v := 1) rfl ?_
              obtain ⟨v51, h51, h⟩ := k_bd_e h
              refine k_goI (k_runV C dX12_said_51 (e_X12_of (d := 2) (Nat.le_refl _) h51) k_lX12_343 k_yX12_of (k_oM0 w) (by omega) rfl (Nat.le_of_ble_eq_true rfl)) ?_
              refine k_iload_n C dX12_said_54 1 rfl ?_
              refine k_icmp_ne C dX12_said_55 (tgt := 73) (by decide) (fun c55 => ?_) (fun c55 => ?_)
              · replace h := k_if_f h c55
                refine k_iconst C dX12_said_73 (v := 0) rfl ?_
                refine k_iadd C dX12_said_74 ?_
                refine k_topi (fun y75 ey75 => ?_)
                replace h := k_nm_e h y75 ey75
                refine k_istore_n C dX12_said_75 (by decide) [1, 2, 3, 0, 4] (L' := [(0, .ref (w.2.1 0)), (1, .int x1), (2, .int x2), (3, .int y75), (4, .int v4_32)]) rfl ?_
                refine k_iinc C dX12_said_76 4 rfl (v := 1) rfl (by decide) [1, 2, 3, 4, 0] (L' := fun z9 => [(0, .ref (w.2.1 0)), (1, .int x1), (2, .int x2), (3, .int y75), (4, .int z9)]) (fun z9 => rfl) (fun y76 ey76 => ?_)
                replace h := k_nm_e h y76 ey76
                refine k_goto C dX12_said_79 (tgt := 32) (by decide) ?_
                exact ih32 _ _ h
              · replace h := k_if_t h c55
                refine k_aload_n C dX12_said_58 0 rfl ?_
                refine k_get C dX12_said_59 (k_gM0_54 w) k_fX12_121 (Or.inl rfl) ?_
                refine k_iload C dX12_said_62 4 rfl ?_
                obtain ⟨q64, h⟩ := k_gd_e h
                refine k_iald C dX12_said_64 (k_aM36 w) q64 ?_
                refine k_iload_n C dX12_said_65 2 rfl ?_
                refine k_icmp_ne C dX12_said_66 (tgt := 73) (by decide) (fun c66 => ?_) (fun c66 => ?_)
                · replace h := k_if_f h c66
                  refine k_iconst C dX12_said_73 (v := 0) rfl ?_
                  refine k_iadd C dX12_said_74 ?_
                  refine k_topi (fun y75 ey75 => ?_)
                  replace h := k_nm_e h y75 ey75
                  refine k_istore_n C dX12_said_75 (by decide) [1, 2, 3, 0, 4] (L' := [(0, .ref (w.2.1 0)), (1, .int x1), (2, .int x2), (3, .int y75), (4, .int v4_32)]) rfl ?_
                  refine k_iinc C dX12_said_76 4 rfl (v := 1) rfl (by decide) [1, 2, 3, 4, 0] (L' := fun z9 => [(0, .ref (w.2.1 0)), (1, .int x1), (2, .int x2), (3, .int y75), (4, .int z9)]) (fun z9 => rfl) (fun y76 ey76 => ?_)
                  replace h := k_nm_e h y76 ey76
                  refine k_goto C dX12_said_79 (tgt := 32) (by decide) ?_
                  exact ih32 _ _ h
                · replace h := k_if_t h c66
                  refine k_iconst C dX12_said_69 (v := 1) rfl ?_
                  refine k_goto C dX12_said_70 (tgt := 74) (by decide) ?_
                  refine k_iadd C dX12_said_74 ?_
                  refine k_topi (fun y75 ey75 => ?_)
                  replace h := k_nm_e h y75 ey75
                  refine k_istore_n C dX12_said_75 (by decide) [1, 2, 3, 0, 4] (L' := [(0, .ref (w.2.1 0)), (1, .int x1), (2, .int x2), (3, .int y75), (4, .int v4_32)]) rfl ?_
                  refine k_iinc C dX12_said_76 4 rfl (v := 1) rfl (by decide) [1, 2, 3, 4, 0] (L' := fun z9 => [(0, .ref (w.2.1 0)), (1, .int x1), (2, .int x2), (3, .int y75), (4, .int z9)]) (fun z9 => rfl) (fun y76 ey76 => ?_)
                  replace h := k_nm_e h y76 ey76
                  refine k_goto C dX12_said_79 (tgt := 32) (by decide) ?_
                  exact ih32 _ _ h
        exact K32 _ _ _ h
      · replace h := k_if_t h c22
        refine k_iconst C dX12_said_25 (v := -1) rfl ?_
        exact k_iret C dX12_said_26 hr (k_p1 h)
def f_X12_run  (σ : k_St) : Option (Int32) :=
  k_if ((k_rd σ 0 21) = (0 : Int32))
    (some (-1 : Int32))
    (k_loop (fun (g15 : Int32 × Int32 × Int32 → Option (Int32)) (z15 : Int32 × Int32 × Int32) => match z15 with
      | (v1_15, v2_15, v3_15) =>
        k_if ((k_rd σ 0 59) ≤ v3_15)
          (some v1_15)
          (k_gd (k_ix v3_15 40 = true) <|
          k_jn (fun (t0_39 : Int32) =>
            k_nm ((o_max v1_15 t0_39)) fun y45 =>
            k_nm (v3_15 + (1 : Int32)) fun y46 =>
            g15 (y45, t0_39, y46)) fun j39 =>
          k_if ((k_rd σ 37 v3_15.toNatClampNeg) = (0 : Int32))
            (j39 (v2_15 + (1 : Int32)))
            (j39 (0 : Int32)))) 100000 ((0 : Int32), (0 : Int32), (0 : Int32)))
set_option maxHeartbeats 4000000 in
set_option maxRecDepth 100000 in
theorem e_X12_run {l : Launch} {w : k_WC} {d : Nat} (hd : 3 ≤ d)   {σ : k_St} {r : Int32} (h : f_X12_run σ = some r) : k_EI l (k_PM w) yX12_run cX12_run 4 (some .int) d [.ref (w.2.1 0)] σ r σ := by
  refine k_of (own := RX12) rfl (by decide) (Nat.le_of_ble_eq_true rfl) (fun X hX C hr => ?_)
  show k_K (k_PM w) X (k_MQ X (k_Qi (k_PM w) r σ) (k_PM w).2.2.1) 0 [(0, .ref (w.2.1 0))] [] σ
  unfold f_X12_run at h
  refine k_aload_n C dX12_run_0 0 rfl ?_
  refine k_get C dX12_run_1 (k_gM0_21 w) k_fX12_306 (Or.inl rfl) ?_
  refine k_if_ne C dX12_run_4 (tgt := 9) (by decide) (fun c4 => ?_) (fun c4 => ?_)
  · replace h := k_if_f h c4
    refine k_iconst C dX12_run_9 (v := 0) rfl ?_
    refine k_istore_n C dX12_run_10 (by decide) [1, 0] (L' := [(0, .ref (w.2.1 0)), (1, .int (0 : Int32))]) rfl ?_
    refine k_iconst C dX12_run_11 (v := 0) rfl ?_
    refine k_istore_n C dX12_run_12 (by decide) [1, 2, 0] (L' := [(0, .ref (w.2.1 0)), (1, .int (0 : Int32)), (2, .int (0 : Int32))]) rfl ?_
    refine k_iconst C dX12_run_13 (v := 0) rfl ?_
    refine k_istore_n C dX12_run_14 (by decide) [1, 2, 3, 0] (L' := [(0, .ref (w.2.1 0)), (1, .int (0 : Int32)), (2, .int (0 : Int32)), (3, .int (0 : Int32))]) rfl ?_
    obtain ⟨b15, eb15, h⟩ := k_lp_e h
    have K15 : ∀ (n : Nat) (v1_15 : Int32) (v2_15 : Int32) (v3_15 : Int32), k_loop b15 n (v1_15, v2_15, v3_15) = some r → k_K (k_PM w) X (k_MQ X (k_Qi (k_PM w) r σ) (k_PM w).2.2.1) 15 [(0, .ref (w.2.1 0)), (1, .int v1_15), (2, .int v2_15), (3, .int v3_15)] [] σ := by
      intro n
      induction n with
      | zero => intro v1_15 v2_15 v3_15 h; cases h
      | succ n ih15 =>
        intro v1_15 v2_15 v3_15 h
        obtain ⟨g15, eg15, h⟩ := k_lp_s h
        rw [← eg15] at ih15
        rw [eb15] at h
        refine k_iload_n C dX12_run_15 3 rfl ?_
        refine k_aload_n C dX12_run_16 0 rfl ?_
        refine k_get C dX12_run_17 (k_gM0_59 w) k_fX12_331 (Or.inl rfl) ?_
        refine k_icmp_ge C dX12_run_20 (tgt := 52) (by decide) (fun c20 => ?_) (fun c20 => ?_)
        · replace h := k_if_t h c20
          refine k_iload_n C dX12_run_52 1 rfl ?_
          exact k_iret C dX12_run_53 hr (k_p1 h)
        · replace h := k_if_f h c20
          refine k_aload_n C dX12_run_23 0 rfl ?_
          refine k_get C dX12_run_24 (k_gM0_55 w) k_fX12_124 (Or.inl rfl) ?_
          refine k_iload_n C dX12_run_27 3 rfl ?_
          obtain ⟨q28, h⟩ := k_gd_e h
          refine k_iald C dX12_run_28 (k_aM37 w) q28 ?_
          obtain ⟨j39, ej39, h⟩ := k_jn_e h
          have Jj39 : ∀ (t0_39 : Int32), j39 t0_39 = some r → k_K (k_PM w) X (k_MQ X (k_Qi (k_PM w) r σ) (k_PM w).2.2.1) 39 [(0, .ref (w.2.1 0)), (1, .int v1_15), (3, .int v3_15)] [.int t0_39] σ := by
            intro t0_39 h
            rw [ej39] at h
            refine k_istore_n C dX12_run_39 (by decide) [1, 2, 0, 3] (L' := [(0, .ref (w.2.1 0)), (1, .int v1_15), (2, .int t0_39), (3, .int v3_15)]) rfl ?_
            refine k_iload_n C dX12_run_40 1 rfl ?_
            refine k_iload_n C dX12_run_41 2 rfl ?_
            refine k_mmax C dX12_run_42 k_lX12_351 k_ym_max (by omega) (Nat.le_of_ble_eq_true rfl) ?_
            refine k_topi (fun y45 ey45 => ?_)
            replace h := k_nm_e h y45 ey45
            refine k_istore_n C dX12_run_45 (by decide) [1, 0, 2, 3] (L' := [(0, .ref (w.2.1 0)), (1, .int y45), (2, .int t0_39), (3, .int v3_15)]) rfl ?_
            refine k_iinc C dX12_run_46 3 rfl (v := 1) rfl (by decide) [1, 2, 3, 0] (L' := fun z9 => [(0, .ref (w.2.1 0)), (1, .int y45), (2, .int t0_39), (3, .int z9)]) (fun z9 => rfl) (fun y46 ey46 => ?_)
            replace h := k_nm_e h y46 ey46
            refine k_goto C dX12_run_49 (tgt := 15) (by decide) ?_
            exact ih15 _ _ _ h
          refine k_if_ne C dX12_run_29 (tgt := 38) (by decide) (fun c29 => ?_) (fun c29 => ?_)
          · replace h := k_if_f h c29
            refine k_iconst C dX12_run_38 (v := 0) rfl ?_
            refine k_sub (L' := [(0, .ref (w.2.1 0)), (1, .int v1_15), (3, .int v3_15)]) [0, 1, 3] rfl ?_
            exact Jj39 _ h
          · replace h := k_if_t h c29
            refine k_iload_n C dX12_run_32 2 rfl ?_
            refine k_iconst C dX12_run_33 (v := 1) rfl ?_
            refine k_iadd C dX12_run_34 ?_
            refine k_goto C dX12_run_35 (tgt := 39) (by decide) ?_
            refine k_sub (L' := [(0, .ref (w.2.1 0)), (1, .int v1_15), (3, .int v3_15)]) [0, 1, 3] rfl ?_
            exact Jj39 _ h
    exact K15 _ _ _ _ h
  · replace h := k_if_t h c4
    refine k_iconst C dX12_run_7 (v := -1) rfl ?_
    exact k_iret C dX12_run_8 hr (k_p1 h)
def f_X12_copy  (σ : k_St) : Option (Int32 × k_St) :=
  k_if ((k_rd σ 0 21) = (0 : Int32))
    (some ((-1 : Int32), σ))
    (k_bd (f_X12_layBrings 14 σ) fun s14 =>
    k_bd (f_X12_layAnswers s14) fun s18 =>
    k_loop (fun (g25 : Int32 × Int32 → Option (Int32 × k_St)) (z25 : Int32 × Int32) => match z25 with
      | (v1_25, v2_25) =>
        k_if ((4 : Int32) ≤ v2_25)
          (some (v1_25, s18))
          (k_loop (fun (g32 : Int32 × Int32 → Option (Int32 × k_St)) (z32 : Int32 × Int32) => match z32 with
            | (v1_32, v3_32) =>
              k_if ((k_rd s18 0 22) ≤ v3_32)
                (k_nm (v2_25 + (1 : Int32)) fun y77 =>
                g25 (v1_32, y77))
                (k_gd (k_ix (((4 : Int32) * v2_25) + v3_32) 16 = true) <|
                k_gd (k_ix (((4 : Int32) * v2_25) + v3_32) 16 = true) <|
                k_if ((k_rd s18 15 (((4 : Int32) * v2_25) + v3_32).toNatClampNeg) = (k_rd s18 18 (((4 : Int32) * v2_25) + v3_32).toNatClampNeg))
                  (k_nm ((v1_32 + (1 : Int32))) fun y70 =>
                  k_nm (v3_32 + (1 : Int32)) fun y71 =>
                  g32 (y70, y71))
                  (k_nm ((v1_32 + (0 : Int32))) fun y70 =>
                  k_nm (v3_32 + (1 : Int32)) fun y71 =>
                  g32 (y70, y71)))) 100000 (v1_25, (0 : Int32)))) 100000 ((0 : Int32), (0 : Int32)))
set_option maxHeartbeats 4000000 in
set_option maxRecDepth 100000 in
theorem e_X12_copy {l : Launch} {w : k_WC} {d : Nat} (hd : 9 ≤ d)   {σ σ' : k_St} {r : Int32} (h : f_X12_copy σ = some (r, σ')) : k_EI l (k_PM w) yX12_copy cX12_copy 4 (some .int) d [.ref (w.2.1 0)] σ r σ' := by
  refine k_of (own := RX12) rfl (by decide) (Nat.le_of_ble_eq_true rfl) (fun X hX C hr => ?_)
  show k_K (k_PM w) X (k_MQ X (k_Qi (k_PM w) r σ') (k_PM w).2.2.1) 0 [(0, .ref (w.2.1 0))] [] σ
  unfold f_X12_copy at h
  refine k_aload_n C dX12_copy_0 0 rfl ?_
  refine k_get C dX12_copy_1 (k_gM0_21 w) k_fX12_306 (Or.inl rfl) ?_
  refine k_if_ne C dX12_copy_4 (tgt := 9) (by decide) (fun c4 => ?_) (fun c4 => ?_)
  · replace h := k_if_f h c4
    refine k_aload_n C dX12_copy_9 0 rfl ?_
    refine k_aload_n C dX12_copy_10 0 rfl ?_
    refine k_get C dX12_copy_11 (k_gM0_24 w) k_fX12_49 (Or.inl rfl) ?_
    obtain ⟨s14, h14, h⟩ := k_bd_e h
    refine k_goV (k_runV C dX12_copy_14 (e_X12_layBrings (d := 8) (Nat.le_refl _) (k_aM14 w) h14) k_lX12_378 k_yX12_layBrings (k_oM0 w) (by omega) rfl (Nat.le_of_ble_eq_true rfl)) ?_
    refine k_aload_n C dX12_copy_17 0 rfl ?_
    obtain ⟨s18, h18, h⟩ := k_bd_e h
    refine k_goV (k_runV C dX12_copy_18 (e_X12_layAnswers (d := 2) (Nat.le_refl _) h18) k_lX12_389 k_yX12_layAnswers (k_oM0 w) (by omega) rfl (Nat.le_of_ble_eq_true rfl)) ?_
    refine k_iconst C dX12_copy_21 (v := 0) rfl ?_
    refine k_istore_n C dX12_copy_22 (by decide) [1, 0] (L' := [(0, .ref (w.2.1 0)), (1, .int (0 : Int32))]) rfl ?_
    refine k_iconst C dX12_copy_23 (v := 0) rfl ?_
    refine k_istore_n C dX12_copy_24 (by decide) [1, 2, 0] (L' := [(0, .ref (w.2.1 0)), (1, .int (0 : Int32)), (2, .int (0 : Int32))]) rfl ?_
    obtain ⟨b25, eb25, h⟩ := k_lp_e h
    have K25 : ∀ (n : Nat) (v1_25 : Int32) (v2_25 : Int32), k_loop b25 n (v1_25, v2_25) = some (r, σ') → k_K (k_PM w) X (k_MQ X (k_Qi (k_PM w) r σ') (k_PM w).2.2.1) 25 [(0, .ref (w.2.1 0)), (1, .int v1_25), (2, .int v2_25)] [] s18 := by
      intro n
      induction n with
      | zero => intro v1_25 v2_25 h; cases h
      | succ n ih25 =>
        intro v1_25 v2_25 h
        obtain ⟨g25, eg25, h⟩ := k_lp_s h
        rw [← eg25] at ih25
        rw [eb25] at h
        refine k_iload_n C dX12_copy_25 2 rfl ?_
        refine k_iconst C dX12_copy_26 (v := 4) rfl ?_
        refine k_icmp_ge C dX12_copy_27 (tgt := 83) (by decide) (fun c27 => ?_) (fun c27 => ?_)
        · replace h := k_if_t h c27
          refine k_iload_n C dX12_copy_83 1 rfl ?_
          exact k_iret C dX12_copy_84 hr (Option.some.inj h)
        · replace h := k_if_f h c27
          refine k_iconst C dX12_copy_30 (v := 0) rfl ?_
          refine k_istore_n C dX12_copy_31 (by decide) [1, 2, 3, 0] (L' := [(0, .ref (w.2.1 0)), (1, .int v1_25), (2, .int v2_25), (3, .int (0 : Int32))]) rfl ?_
          obtain ⟨b32, eb32, h⟩ := k_lp_e h
          have K32 : ∀ (n : Nat) (v1_32 : Int32) (v3_32 : Int32), k_loop b32 n (v1_32, v3_32) = some (r, σ') → k_K (k_PM w) X (k_MQ X (k_Qi (k_PM w) r σ') (k_PM w).2.2.1) 32 [(0, .ref (w.2.1 0)), (1, .int v1_32), (2, .int v2_25), (3, .int v3_32)] [] s18 := by
            intro n
            induction n with
            | zero => intro v1_32 v3_32 h; cases h
            | succ n ih32 =>
              intro v1_32 v3_32 h
              obtain ⟨g32, eg32, h⟩ := k_lp_s h
              rw [← eg32] at ih32
              rw [eb32] at h
              refine k_iload_n C dX12_copy_32 3 rfl ?_
              refine k_aload_n C dX12_copy_33 0 rfl ?_
              refine k_get C dX12_copy_34 (k_gM0_22 w) k_fX12_309 (Or.inl rfl) ?_
              refine k_icmp_ge C dX12_copy_37 (tgt := 77) (by decide) (fun c37 => ?_) (fun c37 => ?_)
              · replace h := k_if_t h c37
                refine k_iinc C dX12_copy_77 2 rfl (v := 1) rfl (by decide) [1, 2, 0, 3] (L' := fun z9 => [(0, .ref (w.2.1 0)), (1, .int v1_32), (2, .int z9), (3, .int v3_32)]) (fun z9 => rfl) (fun y77 ey77 => ?_)
                replace h := k_nm_e h y77 ey77
                refine k_goto C dX12_copy_80 (tgt := 25) (by decide) ?_
                refine k_sub (L' := [(0, .ref (w.2.1 0)), (1, .int v1_32), (2, .int y77)]) [0, 1, 2] rfl ?_
                exact ih25 _ _ h
              · replace h := k_if_f h c37
                refine k_iload_n C dX12_copy_40 1 rfl ?_
                refine k_aload_n C dX12_copy_41 0 rfl ?_
                refine k_get C dX12_copy_42 (k_gM0_25 w) k_fX12_52 (Or.inl rfl) ?_
                refine k_iconst C dX12_copy_45 (v := 4) rfl ?_
                refine k_iload_n C dX12_copy_46 2 rfl ?_
                refine k_imul C dX12_copy_47 ?_
                refine k_iload_n C dX12_copy_48 3 rfl ?_
                refine k_iadd C dX12_copy_49 ?_
                obtain ⟨q50, h⟩ := k_gd_e h
                refine k_iald C dX12_copy_50 (k_aM15 w) q50 ?_
                refine k_aload_n C dX12_copy_51 0 rfl ?_
                refine k_get C dX12_copy_52 (k_gM0_33 w) k_fX12_65 (Or.inl rfl) ?_
                refine k_iconst C dX12_copy_55 (v := 4) rfl ?_
                refine k_iload_n C dX12_copy_56 2 rfl ?_
                refine k_imul C dX12_copy_57 ?_
                refine k_iload_n C dX12_copy_58 3 rfl ?_
                refine k_iadd C dX12_copy_59 ?_
                obtain ⟨q60, h⟩ := k_gd_e h
                refine k_iald C dX12_copy_60 (k_aM18 w) q60 ?_
                refine k_icmp_ne C dX12_copy_61 (tgt := 68) (by decide) (fun c61 => ?_) (fun c61 => ?_)
                · replace h := k_if_f h c61
                  refine k_iconst C dX12_copy_68 (v := 0) rfl ?_
                  refine k_iadd C dX12_copy_69 ?_
                  refine k_topi (fun y70 ey70 => ?_)
                  replace h := k_nm_e h y70 ey70
                  refine k_istore_n C dX12_copy_70 (by decide) [1, 0, 2, 3] (L' := [(0, .ref (w.2.1 0)), (1, .int y70), (2, .int v2_25), (3, .int v3_32)]) rfl ?_
                  refine k_iinc C dX12_copy_71 3 rfl (v := 1) rfl (by decide) [1, 2, 3, 0] (L' := fun z9 => [(0, .ref (w.2.1 0)), (1, .int y70), (2, .int v2_25), (3, .int z9)]) (fun z9 => rfl) (fun y71 ey71 => ?_)
                  replace h := k_nm_e h y71 ey71
                  refine k_goto C dX12_copy_74 (tgt := 32) (by decide) ?_
                  exact ih32 _ _ h
                · replace h := k_if_t h c61
                  refine k_iconst C dX12_copy_64 (v := 1) rfl ?_
                  refine k_goto C dX12_copy_65 (tgt := 69) (by decide) ?_
                  refine k_iadd C dX12_copy_69 ?_
                  refine k_topi (fun y70 ey70 => ?_)
                  replace h := k_nm_e h y70 ey70
                  refine k_istore_n C dX12_copy_70 (by decide) [1, 0, 2, 3] (L' := [(0, .ref (w.2.1 0)), (1, .int y70), (2, .int v2_25), (3, .int v3_32)]) rfl ?_
                  refine k_iinc C dX12_copy_71 3 rfl (v := 1) rfl (by decide) [1, 2, 3, 0] (L' := fun z9 => [(0, .ref (w.2.1 0)), (1, .int y70), (2, .int v2_25), (3, .int z9)]) (fun z9 => rfl) (fun y71 ey71 => ?_)
                  replace h := k_nm_e h y71 ey71
                  refine k_goto C dX12_copy_74 (tgt := 32) (by decide) ?_
                  exact ih32 _ _ h
          exact K32 _ _ _ h
    exact K25 _ _ _ h
  · replace h := k_if_t h c4
    refine k_iconst C dX12_copy_7 (v := -1) rfl ?_
    exact k_iret C dX12_copy_8 hr (Option.some.inj h)
def f_X12_wet (x1 : Int32) (σ : k_St) : Option (Int32 × k_St) :=
  k_if ((k_rd σ 0 21) = (0 : Int32))
    (some ((0 : Int32), σ))
    (k_bd (f_X12_in x1 (0 : Int32) (99 : Int32)) fun v11 =>
    k_if (v11 = (0 : Int32))
      (some ((0 : Int32), σ))
      (k_if (x1 = (k_rd σ 0 23))
        (some ((0 : Int32), σ))
        (k_nm (k_wr σ 0 23 x1) fun s29 =>
        some ((1 : Int32), s29))))
set_option maxHeartbeats 4000000 in
set_option maxRecDepth 100000 in
theorem e_X12_wet {l : Launch} {w : k_WC} {d : Nat} (hd : 3 ≤ d) {x1 : Int32}  {σ σ' : k_St} {r : Int32} (h : f_X12_wet x1 σ = some (r, σ')) : k_EI l (k_PM w) yX12_wet cX12_wet 2 (some .boolean) d [.ref (w.2.1 0), .int x1] σ r σ' := by
  refine k_of (own := RX12) rfl (by decide) (Nat.le_of_ble_eq_true rfl) (fun X hX C hr => ?_)
  show k_K (k_PM w) X (k_MQ X (k_Qi (k_PM w) r σ') (k_PM w).2.2.1) 0 [(0, .ref (w.2.1 0)), (1, .int x1)] [] σ
  unfold f_X12_wet at h
  refine k_aload_n C dX12_wet_0 0 rfl ?_
  refine k_get C dX12_wet_1 (k_gM0_21 w) k_fX12_306 (Or.inl rfl) ?_
  refine k_if_eq C dX12_wet_4 (tgt := 25) (by decide) (fun c4 => ?_) (fun c4 => ?_)
  · replace h := k_if_t h c4
    refine k_iconst C dX12_wet_25 (v := 0) rfl ?_
    exact k_zret C dX12_wet_26 hr rfl (Option.some.inj h)
  · replace h := k_if_f h c4
    refine k_iload_n C dX12_wet_7 1 rfl ?_
    refine k_iconst C dX12_wet_8 (v := 0) rfl ?_
    refine k_bipush C dX12_wet_9 (v := 99) rfl ?_
    obtain ⟨v11, h11, h⟩ := k_bd_e h
    refine k_goI (k_runS C dX12_wet_11 (e_X12_in (d := 2) (Nat.le_refl _) h11) k_lX12_269 k_yX12_in (by omega) rfl (Nat.le_of_ble_eq_true rfl)) ?_
    refine k_if_eq C dX12_wet_14 (tgt := 25) (by decide) (fun c14 => ?_) (fun c14 => ?_)
    · replace h := k_if_t h c14
      refine k_iconst C dX12_wet_25 (v := 0) rfl ?_
      exact k_zret C dX12_wet_26 hr rfl (Option.some.inj h)
    · replace h := k_if_f h c14
      refine k_iload_n C dX12_wet_17 1 rfl ?_
      refine k_aload_n C dX12_wet_18 0 rfl ?_
      refine k_get C dX12_wet_19 (k_gM0_23 w) k_fX12_312 (Or.inl rfl) ?_
      refine k_icmp_ne C dX12_wet_22 (tgt := 27) (by decide) (fun c22 => ?_) (fun c22 => ?_)
      · replace h := k_if_f h c22
        refine k_aload_n C dX12_wet_27 0 rfl ?_
        refine k_iload_n C dX12_wet_28 1 rfl ?_
        refine k_puti C dX12_wet_29 (k_pM0_23 w) k_fX12_312 (Or.inl rfl) k_xi ?_
        refine k_st (fun s29 es29 => ?_)
        replace h := k_nm_e h s29 es29
        refine k_iconst C dX12_wet_32 (v := 1) rfl ?_
        exact k_zret C dX12_wet_33 hr rfl (Option.some.inj h)
      · replace h := k_if_t h c22
        refine k_iconst C dX12_wet_25 (v := 0) rfl ?_
        exact k_zret C dX12_wet_26 hr rfl (Option.some.inj h)
def f_X12_see (x1 : Int32) (x2 : Int32) (σ : k_St) : Option (Int32 × k_St) :=
  k_bd (f_X12_isPlace x1 σ) fun v2 =>
  k_if (v2 = (0 : Int32))
    (some ((-1 : Int32), σ))
    (k_bd (f_X12_isPlace x2 σ) fun v10 =>
    k_if (v10 = (0 : Int32))
      (some ((-1 : Int32), σ))
      (k_if ((k_rd σ 0 52) = (20 : Int32))
        (some ((-1 : Int32), σ))
        (k_gd (k_ix (k_rd σ 0 52) 20 = true) <|
        k_nm (k_wr σ 33 (k_rd σ 0 52).toNatClampNeg x1) fun s36 =>
        k_gd (k_ix (k_rd s36 0 52) 20 = true) <|
        k_nm (k_wr s36 34 (k_rd s36 0 52).toNatClampNeg x2) fun s46 =>
        k_nm (k_wr s46 0 52 ((k_rd s46 0 52) + (1 : Int32))) fun s54 =>
        some ((k_rd s54 0 52), s54))))
set_option maxHeartbeats 4000000 in
set_option maxRecDepth 100000 in
theorem e_X12_see {l : Launch} {w : k_WC} {d : Nat} (hd : 4 ≤ d) {x1 : Int32} {x2 : Int32}  {σ σ' : k_St} {r : Int32} (h : f_X12_see x1 x2 σ = some (r, σ')) : k_EI l (k_PM w) yX12_see cX12_see 3 (some .int) d [.ref (w.2.1 0), .int x1, .int x2] σ r σ' := by
  refine k_of (own := RX12) rfl (by decide) (Nat.le_of_ble_eq_true rfl) (fun X hX C hr => ?_)
  show k_K (k_PM w) X (k_MQ X (k_Qi (k_PM w) r σ') (k_PM w).2.2.1) 0 [(0, .ref (w.2.1 0)), (1, .int x1), (2, .int x2)] [] σ
  unfold f_X12_see at h
  refine k_aload_n C dX12_see_0 0 rfl ?_
  refine k_iload_n C dX12_see_1 1 rfl ?_
  obtain ⟨v2, h2, h⟩ := k_bd_e h
  refine k_goI (k_runV C dX12_see_2 (e_X12_isPlace (d := 3) (Nat.le_refl _) h2) k_lX12_353 k_yX12_isPlace (k_oM0 w) (by omega) rfl (Nat.le_of_ble_eq_true rfl)) ?_
  refine k_if_eq C dX12_see_5 (tgt := 25) (by decide) (fun c5 => ?_) (fun c5 => ?_)
  · replace h := k_if_t h c5
    refine k_iconst C dX12_see_25 (v := -1) rfl ?_
    exact k_iret C dX12_see_26 hr (Option.some.inj h)
  · replace h := k_if_f h c5
    refine k_aload_n C dX12_see_8 0 rfl ?_
    refine k_iload_n C dX12_see_9 2 rfl ?_
    obtain ⟨v10, h10, h⟩ := k_bd_e h
    refine k_goI (k_runV C dX12_see_10 (e_X12_isPlace (d := 3) (Nat.le_refl _) h10) k_lX12_353 k_yX12_isPlace (k_oM0 w) (by omega) rfl (Nat.le_of_ble_eq_true rfl)) ?_
    refine k_if_eq C dX12_see_13 (tgt := 25) (by decide) (fun c13 => ?_) (fun c13 => ?_)
    · replace h := k_if_t h c13
      refine k_iconst C dX12_see_25 (v := -1) rfl ?_
      exact k_iret C dX12_see_26 hr (Option.some.inj h)
    · replace h := k_if_f h c13
      refine k_aload_n C dX12_see_16 0 rfl ?_
      refine k_get C dX12_see_17 (k_gM0_52 w) k_fX12_328 (Or.inl rfl) ?_
      refine k_bipush C dX12_see_20 (v := 20) rfl ?_
      refine k_icmp_ne C dX12_see_22 (tgt := 27) (by decide) (fun c22 => ?_) (fun c22 => ?_)
      · replace h := k_if_f h c22
        refine k_aload_n C dX12_see_27 0 rfl ?_
        refine k_get C dX12_see_28 (k_gM0_50 w) k_fX12_112 (Or.inl rfl) ?_
        refine k_aload_n C dX12_see_31 0 rfl ?_
        refine k_get C dX12_see_32 (k_gM0_52 w) k_fX12_328 (Or.inl rfl) ?_
        refine k_iload_n C dX12_see_35 1 rfl ?_
        obtain ⟨q36, h⟩ := k_gd_e h
        refine k_iast C dX12_see_36 (k_aM33 w) q36 ?_
        refine k_st (fun s36 es36 => ?_)
        replace h := k_nm_e h s36 es36
        refine k_aload_n C dX12_see_37 0 rfl ?_
        refine k_get C dX12_see_38 (k_gM0_51 w) k_fX12_115 (Or.inl rfl) ?_
        refine k_aload_n C dX12_see_41 0 rfl ?_
        refine k_get C dX12_see_42 (k_gM0_52 w) k_fX12_328 (Or.inl rfl) ?_
        refine k_iload_n C dX12_see_45 2 rfl ?_
        obtain ⟨q46, h⟩ := k_gd_e h
        refine k_iast C dX12_see_46 (k_aM34 w) q46 ?_
        refine k_st (fun s46 es46 => ?_)
        replace h := k_nm_e h s46 es46
        refine k_aload_n C dX12_see_47 0 rfl ?_
        refine k_dup C dX12_see_48 rfl ?_
        refine k_get C dX12_see_49 (k_gM0_52 w) k_fX12_328 (Or.inl rfl) ?_
        refine k_iconst C dX12_see_52 (v := 1) rfl ?_
        refine k_iadd C dX12_see_53 ?_
        refine k_puti C dX12_see_54 (k_pM0_52 w) k_fX12_328 (Or.inl rfl) k_xi ?_
        refine k_st (fun s54 es54 => ?_)
        replace h := k_nm_e h s54 es54
        refine k_aload_n C dX12_see_57 0 rfl ?_
        refine k_get C dX12_see_58 (k_gM0_52 w) k_fX12_328 (Or.inl rfl) ?_
        exact k_iret C dX12_see_61 hr (Option.some.inj h)
      · replace h := k_if_t h c22
        refine k_iconst C dX12_see_25 (v := -1) rfl ?_
        exact k_iret C dX12_see_26 hr (Option.some.inj h)
def f_X12_agrees (a1 : Nat) (σ : k_St) : Option (Int32) :=
  k_loop (fun (g2 : Int32 → Option (Int32)) (z2 : Int32) => match z2 with
    | v2_2 =>
      k_if ((k_rd σ 0 52) ≤ v2_2)
        (some (1 : Int32))
        (k_gd (k_ix v2_2 20 = true) <|
        k_nm ((k_rd σ 33 v2_2.toNatClampNeg)) fun y16 =>
        k_bd (f_X12_seenAt y16 σ) fun v24 =>
        k_bd (f_X12_heard y16 σ) fun v31 =>
        k_gd (k_ix v31 (k_nM a1) = true) <|
        k_gd (k_ix (((4 : Int32) * v24) + (k_rd σ a1 v31.toNatClampNeg)) 16 = true) <|
        k_gd (k_ix v2_2 20 = true) <|
        k_if ((k_rd σ 15 (((4 : Int32) * v24) + (k_rd σ a1 v31.toNatClampNeg)).toNatClampNeg) = (k_rd σ 34 v2_2.toNatClampNeg))
          (k_nm (v2_2 + (1 : Int32)) fun y48 =>
          g2 y48)
          (some (0 : Int32)))) 100000 (0 : Int32)
set_option maxHeartbeats 4000000 in
set_option maxRecDepth 100000 in
theorem e_X12_agrees {l : Launch} {w : k_WC} {d : Nat} (hd : 4 ≤ d) {a1 : Nat} (ha1 : k_AI (k_PM w) .int a1 (w.2.1 a1) (k_nM a1)) {σ : k_St} {r : Int32} (h : f_X12_agrees a1 σ = some r) : k_EI l (k_PM w) yX12_agrees cX12_agrees 4 (some .boolean) d [.ref (w.2.1 0), .ref (w.2.1 a1)] σ r σ := by
  refine k_of (own := RX12) rfl (by decide) (Nat.le_of_ble_eq_true rfl) (fun X hX C hr => ?_)
  show k_K (k_PM w) X (k_MQ X (k_Qi (k_PM w) r σ) (k_PM w).2.2.1) 0 [(0, .ref (w.2.1 0)), (1, .ref (w.2.1 a1))] [] σ
  unfold f_X12_agrees at h
  refine k_iconst C dX12_agrees_0 (v := 0) rfl ?_
  refine k_istore_n C dX12_agrees_1 (by decide) [1, 2, 0] (L' := [(0, .ref (w.2.1 0)), (1, .ref (w.2.1 a1)), (2, .int (0 : Int32))]) rfl ?_
  obtain ⟨b2, eb2, h⟩ := k_lp_e h
  have K2 : ∀ (n : Nat) (v2_2 : Int32), k_loop b2 n v2_2 = some r → k_K (k_PM w) X (k_MQ X (k_Qi (k_PM w) r σ) (k_PM w).2.2.1) 2 [(0, .ref (w.2.1 0)), (1, .ref (w.2.1 a1)), (2, .int v2_2)] [] σ := by
    intro n
    induction n with
    | zero => intro v2_2 h; cases h
    | succ n ih2 =>
      intro v2_2 h
      obtain ⟨g2, eg2, h⟩ := k_lp_s h
      rw [← eg2] at ih2
      rw [eb2] at h
      refine k_iload_n C dX12_agrees_2 2 rfl ?_
      refine k_aload_n C dX12_agrees_3 0 rfl ?_
      refine k_get C dX12_agrees_4 (k_gM0_52 w) k_fX12_328 (Or.inl rfl) ?_
      refine k_icmp_ge C dX12_agrees_7 (tgt := 54) (by decide) (fun c7 => ?_) (fun c7 => ?_)
      · replace h := k_if_t h c7
        refine k_iconst C dX12_agrees_54 (v := 1) rfl ?_
        exact k_zret C dX12_agrees_55 hr rfl (k_p1 h)
      · replace h := k_if_f h c7
        refine k_aload_n C dX12_agrees_10 0 rfl ?_
        refine k_get C dX12_agrees_11 (k_gM0_50 w) k_fX12_112 (Or.inl rfl) ?_
        refine k_iload_n C dX12_agrees_14 2 rfl ?_
        obtain ⟨q15, h⟩ := k_gd_e h
        refine k_iald C dX12_agrees_15 (k_aM33 w) q15 ?_
        refine k_topi (fun y16 ey16 => ?_)
        replace h := k_nm_e h y16 ey16
        refine k_istore_n C dX12_agrees_16 (by decide) [1, 2, 3, 0] (L' := [(0, .ref (w.2.1 0)), (1, .ref (w.2.1 a1)), (2, .int v2_2), (3, .int y16)]) rfl ?_
        refine k_aload_n C dX12_agrees_17 0 rfl ?_
        refine k_get C dX12_agrees_18 (k_gM0_25 w) k_fX12_52 (Or.inl rfl) ?_
        refine k_iconst C dX12_agrees_21 (v := 4) rfl ?_
        refine k_aload_n C dX12_agrees_22 0 rfl ?_
        refine k_iload_n C dX12_agrees_23 3 rfl ?_
        obtain ⟨v24, h24, h⟩ := k_bd_e h
        refine k_goI (k_runV C dX12_agrees_24 (e_X12_seenAt (d := 3) (Nat.le_refl _) h24) k_lX12_369 k_yX12_seenAt (k_oM0 w) (by omega) rfl (Nat.le_of_ble_eq_true rfl)) ?_
        refine k_imul C dX12_agrees_27 ?_
        refine k_aload_n C dX12_agrees_28 1 rfl ?_
        refine k_aload_n C dX12_agrees_29 0 rfl ?_
        refine k_iload_n C dX12_agrees_30 3 rfl ?_
        obtain ⟨v31, h31, h⟩ := k_bd_e h
        refine k_goI (k_runV C dX12_agrees_31 (e_X12_heard (d := 3) (Nat.le_refl _) h31) k_lX12_366 k_yX12_heard (k_oM0 w) (by omega) rfl (Nat.le_of_ble_eq_true rfl)) ?_
        obtain ⟨q34, h⟩ := k_gd_e h
        refine k_iald C dX12_agrees_34 ha1 q34 ?_
        refine k_iadd C dX12_agrees_35 ?_
        obtain ⟨q36, h⟩ := k_gd_e h
        refine k_iald C dX12_agrees_36 (k_aM15 w) q36 ?_
        refine k_aload_n C dX12_agrees_37 0 rfl ?_
        refine k_get C dX12_agrees_38 (k_gM0_51 w) k_fX12_115 (Or.inl rfl) ?_
        refine k_iload_n C dX12_agrees_41 2 rfl ?_
        obtain ⟨q42, h⟩ := k_gd_e h
        refine k_iald C dX12_agrees_42 (k_aM34 w) q42 ?_
        refine k_icmp_eq C dX12_agrees_43 (tgt := 48) (by decide) (fun c43 => ?_) (fun c43 => ?_)
        · replace h := k_if_t h c43
          refine k_iinc C dX12_agrees_48 2 rfl (v := 1) rfl (by decide) [1, 2, 0, 3] (L' := fun z9 => [(0, .ref (w.2.1 0)), (1, .ref (w.2.1 a1)), (2, .int z9), (3, .int y16)]) (fun z9 => rfl) (fun y48 ey48 => ?_)
          replace h := k_nm_e h y48 ey48
          refine k_goto C dX12_agrees_51 (tgt := 2) (by decide) ?_
          refine k_sub (L' := [(0, .ref (w.2.1 0)), (1, .ref (w.2.1 a1)), (2, .int y48)]) [0, 1, 2] rfl ?_
          exact ih2 _ h
        · replace h := k_if_f h c43
          refine k_iconst C dX12_agrees_46 (v := 0) rfl ?_
          exact k_zret C dX12_agrees_47 hr rfl (k_p1 h)
  exact K2 _ _ h
def f_X12_meant (x1 : Int32) (σ : k_St) : Option (Int32 × k_St) :=
  k_if ((k_rd σ 0 21) = (0 : Int32))
    (some ((-1 : Int32), σ))
    (k_if ((-1 : Int32) ≤ x1)
      (k_loop (fun (g18 : Int32 × Int32 × k_St → Option (Int32 × k_St)) (z18 : Int32 × Int32 × k_St) => match z18 with
        | (v2_18, v3_18, s_18) =>
          k_if (((((k_rd s_18 0 22) * (k_rd s_18 0 22)) * (k_rd s_18 0 22)) * (k_rd s_18 0 22)) ≤ v3_18)
            (k_if (x1 = (-1 : Int32))
              (some (v2_18, s_18))
              (some ((-1 : Int32), s_18)))
            (k_bd (f_X12_nth v3_18 (k_rd s_18 0 22) 16 s_18) fun s51 =>
            k_bd (f_X12_agrees 16 s51) fun v59 =>
            k_if (v59 = (0 : Int32))
              (k_nm (v3_18 + (1 : Int32)) fun y81 =>
              g18 (v2_18, y81, s51))
              (k_if (v2_18 = x1)
                (k_bd (f_X12_packed 16 s51) fun v74 =>
                some (v74, s51))
                (k_nm (v2_18 + (1 : Int32)) fun y78 =>
                k_nm (v3_18 + (1 : Int32)) fun y81 =>
                g18 (y78, y81, s51))))) 100000 ((0 : Int32), (0 : Int32), σ))
      (some ((-1 : Int32), σ)))
set_option maxHeartbeats 4000000 in
set_option maxRecDepth 100000 in
theorem e_X12_meant {l : Launch} {w : k_WC} {d : Nat} (hd : 5 ≤ d) {x1 : Int32}  {σ σ' : k_St} {r : Int32} (h : f_X12_meant x1 σ = some (r, σ')) : k_EI l (k_PM w) yX12_meant cX12_meant 4 (some .int) d [.ref (w.2.1 0), .int x1] σ r σ' := by
  refine k_of (own := RX12) rfl (by decide) (Nat.le_of_ble_eq_true rfl) (fun X hX C hr => ?_)
  show k_K (k_PM w) X (k_MQ X (k_Qi (k_PM w) r σ') (k_PM w).2.2.1) 0 [(0, .ref (w.2.1 0)), (1, .int x1)] [] σ
  unfold f_X12_meant at h
  refine k_aload_n C dX12_meant_0 0 rfl ?_
  refine k_get C dX12_meant_1 (k_gM0_21 w) k_fX12_306 (Or.inl rfl) ?_
  refine k_if_eq C dX12_meant_4 (tgt := 12) (by decide) (fun c4 => ?_) (fun c4 => ?_)
  · replace h := k_if_t h c4
    refine k_iconst C dX12_meant_12 (v := -1) rfl ?_
    exact k_iret C dX12_meant_13 hr (Option.some.inj h)
  · replace h := k_if_f h c4
    refine k_iload_n C dX12_meant_7 1 rfl ?_
    refine k_iconst C dX12_meant_8 (v := -1) rfl ?_
    refine k_icmp_ge C dX12_meant_9 (tgt := 14) (by decide) (fun c9 => ?_) (fun c9 => ?_)
    · replace h := k_if_t h c9
      refine k_iconst C dX12_meant_14 (v := 0) rfl ?_
      refine k_istore_n C dX12_meant_15 (by decide) [1, 2, 0] (L' := [(0, .ref (w.2.1 0)), (1, .int x1), (2, .int (0 : Int32))]) rfl ?_
      refine k_iconst C dX12_meant_16 (v := 0) rfl ?_
      refine k_istore_n C dX12_meant_17 (by decide) [1, 2, 3, 0] (L' := [(0, .ref (w.2.1 0)), (1, .int x1), (2, .int (0 : Int32)), (3, .int (0 : Int32))]) rfl ?_
      obtain ⟨b18, eb18, h⟩ := k_lp_e h
      have K18 : ∀ (n : Nat) (v2_18 : Int32) (v3_18 : Int32) (s_18 : k_St), k_loop b18 n (v2_18, v3_18, s_18) = some (r, σ') → k_K (k_PM w) X (k_MQ X (k_Qi (k_PM w) r σ') (k_PM w).2.2.1) 18 [(0, .ref (w.2.1 0)), (1, .int x1), (2, .int v2_18), (3, .int v3_18)] [] s_18 := by
        intro n
        induction n with
        | zero => intro v2_18 v3_18 s_18 h; cases h
        | succ n ih18 =>
          intro v2_18 v3_18 s_18 h
          obtain ⟨g18, eg18, h⟩ := k_lp_s h
          rw [← eg18] at ih18
          rw [eb18] at h
          refine k_iload_n C dX12_meant_18 3 rfl ?_
          refine k_aload_n C dX12_meant_19 0 rfl ?_
          refine k_get C dX12_meant_20 (k_gM0_22 w) k_fX12_309 (Or.inl rfl) ?_
          refine k_aload_n C dX12_meant_23 0 rfl ?_
          refine k_get C dX12_meant_24 (k_gM0_22 w) k_fX12_309 (Or.inl rfl) ?_
          refine k_imul C dX12_meant_27 ?_
          refine k_aload_n C dX12_meant_28 0 rfl ?_
          refine k_get C dX12_meant_29 (k_gM0_22 w) k_fX12_309 (Or.inl rfl) ?_
          refine k_imul C dX12_meant_32 ?_
          refine k_aload_n C dX12_meant_33 0 rfl ?_
          refine k_get C dX12_meant_34 (k_gM0_22 w) k_fX12_309 (Or.inl rfl) ?_
          refine k_imul C dX12_meant_37 ?_
          refine k_icmp_ge C dX12_meant_38 (tgt := 87) (by decide) (fun c38 => ?_) (fun c38 => ?_)
          · replace h := k_if_t h c38
            refine k_iload_n C dX12_meant_87 1 rfl ?_
            refine k_iconst C dX12_meant_88 (v := -1) rfl ?_
            refine k_icmp_ne C dX12_meant_89 (tgt := 96) (by decide) (fun c89 => ?_) (fun c89 => ?_)
            · replace h := k_if_f h c89
              refine k_iconst C dX12_meant_96 (v := -1) rfl ?_
              exact k_iret C dX12_meant_97 hr (Option.some.inj h)
            · replace h := k_if_t h c89
              refine k_iload_n C dX12_meant_92 2 rfl ?_
              refine k_goto C dX12_meant_93 (tgt := 97) (by decide) ?_
              exact k_iret C dX12_meant_97 hr (Option.some.inj h)
          · replace h := k_if_f h c38
            refine k_aload_n C dX12_meant_41 0 rfl ?_
            refine k_iload_n C dX12_meant_42 3 rfl ?_
            refine k_aload_n C dX12_meant_43 0 rfl ?_
            refine k_get C dX12_meant_44 (k_gM0_22 w) k_fX12_309 (Or.inl rfl) ?_
            refine k_aload_n C dX12_meant_47 0 rfl ?_
            refine k_get C dX12_meant_48 (k_gM0_31 w) k_fX12_59 (Or.inl rfl) ?_
            obtain ⟨s51, h51, h⟩ := k_bd_e h
            refine k_goV (k_runV C dX12_meant_51 (e_X12_nth (d := 2) (Nat.le_refl _) (k_aM16 w) h51) k_lX12_395 k_yX12_nth (k_oM0 w) (by omega) rfl (Nat.le_of_ble_eq_true rfl)) ?_
            refine k_aload_n C dX12_meant_54 0 rfl ?_
            refine k_aload_n C dX12_meant_55 0 rfl ?_
            refine k_get C dX12_meant_56 (k_gM0_31 w) k_fX12_59 (Or.inl rfl) ?_
            obtain ⟨v59, h59, h⟩ := k_bd_e h
            refine k_goI (k_runV C dX12_meant_59 (e_X12_agrees (d := 4) (Nat.le_refl _) (k_aM16 w) h59) k_lX12_491 k_yX12_agrees (k_oM0 w) (by omega) rfl (Nat.le_of_ble_eq_true rfl)) ?_
            refine k_if_eq C dX12_meant_62 (tgt := 81) (by decide) (fun c62 => ?_) (fun c62 => ?_)
            · replace h := k_if_t h c62
              refine k_iinc C dX12_meant_81 3 rfl (v := 1) rfl (by decide) [1, 2, 3, 0] (L' := fun z9 => [(0, .ref (w.2.1 0)), (1, .int x1), (2, .int v2_18), (3, .int z9)]) (fun z9 => rfl) (fun y81 ey81 => ?_)
              replace h := k_nm_e h y81 ey81
              refine k_goto C dX12_meant_84 (tgt := 18) (by decide) ?_
              exact ih18 _ _ _ h
            · replace h := k_if_f h c62
              refine k_iload_n C dX12_meant_65 2 rfl ?_
              refine k_iload_n C dX12_meant_66 1 rfl ?_
              refine k_icmp_ne C dX12_meant_67 (tgt := 78) (by decide) (fun c67 => ?_) (fun c67 => ?_)
              · replace h := k_if_f h c67
                refine k_iinc C dX12_meant_78 2 rfl (v := 1) rfl (by decide) [1, 2, 0, 3] (L' := fun z9 => [(0, .ref (w.2.1 0)), (1, .int x1), (2, .int z9), (3, .int v3_18)]) (fun z9 => rfl) (fun y78 ey78 => ?_)
                replace h := k_nm_e h y78 ey78
                refine k_iinc C dX12_meant_81 3 rfl (v := 1) rfl (by decide) [1, 2, 3, 0] (L' := fun z9 => [(0, .ref (w.2.1 0)), (1, .int x1), (2, .int y78), (3, .int z9)]) (fun z9 => rfl) (fun y81 ey81 => ?_)
                replace h := k_nm_e h y81 ey81
                refine k_goto C dX12_meant_84 (tgt := 18) (by decide) ?_
                exact ih18 _ _ _ h
              · replace h := k_if_t h c67
                refine k_aload_n C dX12_meant_70 0 rfl ?_
                refine k_get C dX12_meant_71 (k_gM0_31 w) k_fX12_59 (Or.inl rfl) ?_
                obtain ⟨v74, h74, h⟩ := k_bd_e h
                refine k_goI (k_runS C dX12_meant_74 (e_X12_packed (d := 2) (Nat.le_refl _) (k_aM16 w) h74) k_lX12_402 k_yX12_packed (by omega) rfl (Nat.le_of_ble_eq_true rfl)) ?_
                exact k_iret C dX12_meant_77 hr (Option.some.inj h)
      exact K18 _ _ _ _ h
    · replace h := k_if_f h c9
      refine k_iconst C dX12_meant_12 (v := -1) rfl ?_
      exact k_iret C dX12_meant_13 hr (Option.some.inj h)
def f_X12_seed (x1 : Int64) (σ : k_St) : Option (Int32 × k_St) :=
  k_nm (k_wl σ 0 60 x1) fun s2 =>
  some ((1 : Int32), s2)
set_option maxHeartbeats 4000000 in
set_option maxRecDepth 100000 in
theorem e_X12_seed {l : Launch} {w : k_WC} {d : Nat} (hd : 2 ≤ d) {x1 : Int64}  {σ σ' : k_St} {r : Int32} (h : f_X12_seed x1 σ = some (r, σ')) : k_EI l (k_PM w) yX12_seed cX12_seed 3 (some .boolean) d [.ref (w.2.1 0), .long x1] σ r σ' := by
  refine k_of (own := RX12) rfl (by decide) (Nat.le_of_ble_eq_true rfl) (fun X hX C hr => ?_)
  show k_K (k_PM w) X (k_MQ X (k_Qi (k_PM w) r σ') (k_PM w).2.2.1) 0 [(0, .ref (w.2.1 0)), (1, .long x1)] [] σ
  unfold f_X12_seed at h
  refine k_aload_n C dX12_seed_0 0 rfl ?_
  refine k_lload_n C dX12_seed_1 1 rfl ?_
  refine k_putl C dX12_seed_2 (k_pM0_60 w) k_fX12_495 rfl ?_
  refine k_st (fun s2 es2 => ?_)
  replace h := k_nm_e h s2 es2
  refine k_iconst C dX12_seed_5 (v := 1) rfl ?_
  exact k_zret C dX12_seed_6 hr rfl (Option.some.inj h)
def f_X12_draw (x1 : Int32) (σ : k_St) : Option (Int32 × k_St) :=
  k_nm (k_wl σ 0 60 (((k_rl σ 0 60) * (6364136223846793005 : Int64)) + (1442695040888963407 : Int64))) fun s13 =>
  k_gd (¬ x1.toInt64 = 0) <|
  some ((o_lrem (o_lushr (k_rl s13 0 60) (33 : Int32)) x1.toInt64).toInt32, s13)
set_option maxHeartbeats 4000000 in
set_option maxRecDepth 100000 in
theorem e_X12_draw {l : Launch} {w : k_WC} {d : Nat} (hd : 2 ≤ d) {x1 : Int32}  {σ σ' : k_St} {r : Int32} (h : f_X12_draw x1 σ = some (r, σ')) : k_EI l (k_PM w) yX12_draw cX12_draw 2 (some .int) d [.ref (w.2.1 0), .int x1] σ r σ' := by
  refine k_of (own := RX12) rfl (by decide) (Nat.le_of_ble_eq_true rfl) (fun X hX C hr => ?_)
  show k_K (k_PM w) X (k_MQ X (k_Qi (k_PM w) r σ') (k_PM w).2.2.1) 0 [(0, .ref (w.2.1 0)), (1, .int x1)] [] σ
  unfold f_X12_draw at h
  refine k_aload_n C dX12_draw_0 0 rfl ?_
  refine k_aload_n C dX12_draw_1 0 rfl ?_
  refine k_get C dX12_draw_2 (k_gM0_60 w) k_fX12_495 (Or.inl rfl) ?_
  refine k_ldc2 C dX12_draw_5 k_cX12_499 ?_
  refine k_lmul C dX12_draw_8 ?_
  refine k_ldc2 C dX12_draw_9 k_cX12_501 ?_
  refine k_ladd C dX12_draw_12 ?_
  refine k_putl C dX12_draw_13 (k_pM0_60 w) k_fX12_495 rfl ?_
  refine k_st (fun s13 es13 => ?_)
  replace h := k_nm_e h s13 es13
  refine k_aload_n C dX12_draw_16 0 rfl ?_
  refine k_get C dX12_draw_17 (k_gM0_60 w) k_fX12_495 (Or.inl rfl) ?_
  refine k_bipush C dX12_draw_20 (v := 33) rfl ?_
  refine k_lushr C dX12_draw_22 ?_
  refine k_iload_n C dX12_draw_23 1 rfl ?_
  refine k_i2l C dX12_draw_24 ?_
  obtain ⟨q25, h⟩ := k_gd_e h
  refine k_lrem C dX12_draw_25 q25 ?_
  refine k_l2i C dX12_draw_26 ?_
  exact k_iret C dX12_draw_27 hr (Option.some.inj h)
def f_X12_day  (σ : k_St) : Option (Int32 × k_St) :=
  k_if ((k_rd σ 0 21) = (0 : Int32))
    (some ((-1 : Int32), σ))
    (k_if ((k_rd σ 0 59) = (40 : Int32))
      (some ((-1 : Int32), σ))
      (k_gd (k_ix (k_rd σ 0 59) 40 = true) <|
      k_nm (k_wl σ 38 (k_rd σ 0 59).toNatClampNeg (k_rl σ 0 60)) fun s30 =>
      k_bd (f_X12_packed 14 s30) fun v43 =>
      k_gd (k_ix (k_rd s30 0 59) 40 = true) <|
      k_nm (k_wr s30 40 (k_rd s30 0 59).toNatClampNeg v43) fun s46 =>
      k_loop (fun (g49 : Int32 × k_St → Option (Int32 × k_St)) (z49 : Int32 × k_St) => match z49 with
        | (v1_49, s_49) =>
          k_if ((16 : Int32) ≤ v1_49)
            (k_bd (f_X12_below s_49) fun v83 =>
            k_b2 (f_X12_draw (v83 / (100 : Int32)) s_49) fun v89 s89 =>
            k_loop (fun (g95 : Int32 × Int32 → Option (Int32 × k_St)) (z95 : Int32 × Int32) => match z95 with
              | (v1_95, v2_95) =>
                k_bd (f_X12_of v2_95 (0 : Int32) s89) fun v99 =>
                k_if (v1_95 < v99)
                  (k_bd (f_X12_heard v2_95 s89) fun v126 =>
                  k_gd (k_ix v126 4 = true) <|
                  k_nm ((k_rd s89 14 v126.toNatClampNeg)) fun y130 =>
                  k_jn (fun (v3_150 : Int32) (s_150 : k_St) =>
                    k_bd (f_X12_seenAt v2_95 s_150) fun v153 =>
                    k_nm ((((4 : Int32) * v153) + v3_150)) fun y159 =>
                    k_gd (k_ix y159 16 = true) <|
                    k_jn (fun (t0_177 : Int32) =>
                      k_jn (fun (t2_203 : Int32) =>
                        k_gd (k_ix y159 16 = true) <|
                        k_nm (k_wr s_150 15 y159.toNatClampNeg t2_203) fun s203 =>
                        k_jn (fun (s_243 : k_St) =>
                          k_gd (k_ix (k_rd s_243 0 59) 40 = true) <|
                          k_nm (k_wr s_243 35 (k_rd s_243 0 59).toNatClampNeg v2_95) fun s252 =>
                          k_gd (k_ix (k_rd s252 0 59) 40 = true) <|
                          k_nm (k_wr s252 36 (k_rd s252 0 59).toNatClampNeg v3_150) fun s262 =>
                          k_jn (fun (t2_285 : Int32) (s_285 : k_St) =>
                            k_gd (k_ix (k_rd s262 0 59) 40 = true) <|
                            k_nm (k_wr s_285 37 (k_rd s262 0 59).toNatClampNeg t2_285) fun s285 =>
                            k_nm (k_wr s285 0 59 ((k_rd s285 0 59) + (1 : Int32))) fun s293 =>
                            k_gd (k_ix ((k_rd s293 0 59) - (1 : Int32)) 40 = true) <|
                            some ((k_rd s293 37 ((k_rd s293 0 59) - (1 : Int32)).toNatClampNeg), s293)) fun j285 =>
                          k_if (t0_177 = (0 : Int32))
                            (j285 (0 : Int32) s262)
                            (k_b2 (f_X12_worthAt v2_95 s262) fun v278 s278 =>
                            j285 v278 s278)) fun j243 =>
                        k_if ((k_rd s203 0 29) = (0 : Int32))
                          (j243 s203)
                          (k_if (t0_177 = (0 : Int32))
                            (k_bd (f_X12_heard v2_95 s203) fun v222 =>
                            k_bd (f_X12_heard v2_95 s203) fun v231 =>
                            k_gd (k_ix v231 4 = true) <|
                            k_gd (¬ (k_rd s203 0 22) = 0) <|
                            k_gd (k_ix v222 4 = true) <|
                            k_nm (k_wr s203 14 v222.toNatClampNeg (o_rem ((k_rd s203 14 v231.toNatClampNeg) + (1 : Int32)) (k_rd s203 0 22))) fun s242 =>
                            j243 s242)
                            (j243 s203))) fun j203 =>
                      k_if ((k_rd s_150 0 28) = (0 : Int32))
                        (k_gd (k_ix y159 16 = true) <|
                        j203 (k_rd s_150 15 y159.toNatClampNeg))
                        (j203 v2_95)) fun j177 =>
                    k_if ((k_rd s_150 15 y159.toNatClampNeg) = v2_95)
                      (j177 (1 : Int32))
                      (j177 (0 : Int32))) fun j150 =>
                  k_if (y130 = (0 : Int32))
                    (j150 y130 s89)
                    (k_b2 (f_X12_draw (100 : Int32) s89) fun v138 s138 =>
                    k_if ((k_rd s138 0 23) ≤ v138)
                      (j150 y130 s138)
                      (j150 (0 : Int32) s138)))
                  (k_bd (f_X12_of v2_95 (0 : Int32) s89) fun v109 =>
                  k_nm ((v1_95 - v109)) fun y113 =>
                  k_nm (v2_95 + (1 : Int32)) fun y114 =>
                  g95 (y113, y114))) 100000 (v89, (0 : Int32)))
            (k_gd (k_ix v1_49 16 = true) <|
            k_gd (k_ix (((16 : Int32) * (k_rd s_49 0 59)) + v1_49) 640 = true) <|
            k_nm (k_wr s_49 39 (((16 : Int32) * (k_rd s_49 0 59)) + v1_49).toNatClampNeg (k_rd s_49 15 v1_49.toNatClampNeg)) fun s74 =>
            k_nm (v1_49 + (1 : Int32)) fun y75 =>
            g49 (y75, s74))) 100000 ((0 : Int32), s46)))
set_option maxHeartbeats 4000000 in
set_option maxRecDepth 100000 in
theorem e_X12_day {l : Launch} {w : k_WC} {d : Nat} (hd : 8 ≤ d)   {σ σ' : k_St} {r : Int32} (h : f_X12_day σ = some (r, σ')) : k_EI l (k_PM w) yX12_day cX12_day 6 (some .int) d [.ref (w.2.1 0)] σ r σ' := by
  refine k_of (own := RX12) rfl (by decide) (Nat.le_of_ble_eq_true rfl) (fun X hX C hr => ?_)
  show k_K (k_PM w) X (k_MQ X (k_Qi (k_PM w) r σ') (k_PM w).2.2.1) 0 [(0, .ref (w.2.1 0))] [] σ
  unfold f_X12_day at h
  refine k_aload_n C dX12_day_0 0 rfl ?_
  refine k_get C dX12_day_1 (k_gM0_21 w) k_fX12_306 (Or.inl rfl) ?_
  refine k_if_eq C dX12_day_4 (tgt := 16) (by decide) (fun c4 => ?_) (fun c4 => ?_)
  · replace h := k_if_t h c4
    refine k_iconst C dX12_day_16 (v := -1) rfl ?_
    exact k_iret C dX12_day_17 hr (Option.some.inj h)
  · replace h := k_if_f h c4
    refine k_aload_n C dX12_day_7 0 rfl ?_
    refine k_get C dX12_day_8 (k_gM0_59 w) k_fX12_331 (Or.inl rfl) ?_
    refine k_bipush C dX12_day_11 (v := 40) rfl ?_
    refine k_icmp_ne C dX12_day_13 (tgt := 18) (by decide) (fun c13 => ?_) (fun c13 => ?_)
    · replace h := k_if_f h c13
      refine k_aload_n C dX12_day_18 0 rfl ?_
      refine k_get C dX12_day_19 (k_gM0_56 w) k_fX12_127 (Or.inl rfl) ?_
      refine k_aload_n C dX12_day_22 0 rfl ?_
      refine k_get C dX12_day_23 (k_gM0_59 w) k_fX12_331 (Or.inl rfl) ?_
      refine k_aload_n C dX12_day_26 0 rfl ?_
      refine k_get C dX12_day_27 (k_gM0_60 w) k_fX12_495 (Or.inl rfl) ?_
      obtain ⟨q30, h⟩ := k_gd_e h
      refine k_last C dX12_day_30 (k_aM38 w) q30 ?_
      refine k_st (fun s30 es30 => ?_)
      replace h := k_nm_e h s30 es30
      refine k_aload_n C dX12_day_31 0 rfl ?_
      refine k_get C dX12_day_32 (k_gM0_58 w) k_fX12_133 (Or.inl rfl) ?_
      refine k_aload_n C dX12_day_35 0 rfl ?_
      refine k_get C dX12_day_36 (k_gM0_59 w) k_fX12_331 (Or.inl rfl) ?_
      refine k_aload_n C dX12_day_39 0 rfl ?_
      refine k_get C dX12_day_40 (k_gM0_24 w) k_fX12_49 (Or.inl rfl) ?_
      obtain ⟨v43, h43, h⟩ := k_bd_e h
      refine k_goI (k_runS C dX12_day_43 (e_X12_packed (d := 2) (Nat.le_refl _) (k_aM14 w) h43) k_lX12_402 k_yX12_packed (by omega) rfl (Nat.le_of_ble_eq_true rfl)) ?_
      obtain ⟨q46, h⟩ := k_gd_e h
      refine k_iast C dX12_day_46 (k_aM40 w) q46 ?_
      refine k_st (fun s46 es46 => ?_)
      replace h := k_nm_e h s46 es46
      refine k_iconst C dX12_day_47 (v := 0) rfl ?_
      refine k_istore_n C dX12_day_48 (by decide) [1, 0] (L' := [(0, .ref (w.2.1 0)), (1, .int (0 : Int32))]) rfl ?_
      obtain ⟨b49, eb49, h⟩ := k_lp_e h
      have K49 : ∀ (n : Nat) (v1_49 : Int32) (s_49 : k_St), k_loop b49 n (v1_49, s_49) = some (r, σ') → k_K (k_PM w) X (k_MQ X (k_Qi (k_PM w) r σ') (k_PM w).2.2.1) 49 [(0, .ref (w.2.1 0)), (1, .int v1_49)] [] s_49 := by
        intro n
        induction n with
        | zero => intro v1_49 s_49 h; cases h
        | succ n ih49 =>
          intro v1_49 s_49 h
          obtain ⟨g49, eg49, h⟩ := k_lp_s h
          rw [← eg49] at ih49
          rw [eb49] at h
          refine k_iload_n C dX12_day_49 1 rfl ?_
          refine k_bipush C dX12_day_50 (v := 16) rfl ?_
          refine k_icmp_ge C dX12_day_52 (tgt := 81) (by decide) (fun c52 => ?_) (fun c52 => ?_)
          · replace h := k_if_t h c52
            refine k_aload_n C dX12_day_81 0 rfl ?_
            refine k_aload_n C dX12_day_82 0 rfl ?_
            obtain ⟨v83, h83, h⟩ := k_bd_e h
            refine k_goI (k_runV C dX12_day_83 (e_X12_below (d := 3) (Nat.le_refl _) h83) k_lX12_375 k_yX12_below (k_oM0 w) (by omega) rfl (Nat.le_of_ble_eq_true rfl)) ?_
            refine k_bipush C dX12_day_86 (v := 100) rfl ?_
            refine k_idiv C dX12_day_88 (by decide) ?_
            obtain ⟨v89, s89, h89, h⟩ := k_b2_e h
            refine k_goI (k_runV C dX12_day_89 (e_X12_draw (d := 2) (Nat.le_refl _) h89) k_lX12_503 k_yX12_draw (k_oM0 w) (by omega) rfl (Nat.le_of_ble_eq_true rfl)) ?_
            refine k_istore_n C dX12_day_92 (by decide) [1, 0] (L' := [(0, .ref (w.2.1 0)), (1, .int v89)]) rfl ?_
            refine k_iconst C dX12_day_93 (v := 0) rfl ?_
            refine k_istore_n C dX12_day_94 (by decide) [1, 2, 0] (L' := [(0, .ref (w.2.1 0)), (1, .int v89), (2, .int (0 : Int32))]) rfl ?_
            obtain ⟨b95, eb95, h⟩ := k_lp_e h
            have K95 : ∀ (n : Nat) (v1_95 : Int32) (v2_95 : Int32), k_loop b95 n (v1_95, v2_95) = some (r, σ') → k_K (k_PM w) X (k_MQ X (k_Qi (k_PM w) r σ') (k_PM w).2.2.1) 95 [(0, .ref (w.2.1 0)), (1, .int v1_95), (2, .int v2_95)] [] s89 := by
              intro n
              induction n with
              | zero => intro v1_95 v2_95 h; cases h
              | succ n ih95 =>
                intro v1_95 v2_95 h
                obtain ⟨g95, eg95, h⟩ := k_lp_s h
                rw [← eg95] at ih95
                rw [eb95] at h
                refine k_iload_n C dX12_day_95 1 rfl ?_
                refine k_aload_n C dX12_day_96 0 rfl ?_
                refine k_iload_n C dX12_day_97 2 rfl ?_
                refine k_iconst C dX12_day_98 (v := 0) rfl ?_
                obtain ⟨v99, h99, h⟩ := k_bd_e h
                refine k_goI (k_runV C dX12_day_99 (e_X12_of (d := 2) (Nat.le_refl _) h99) k_lX12_343 k_yX12_of (k_oM0 w) (by omega) rfl (Nat.le_of_ble_eq_true rfl)) ?_
                refine k_icmp_lt C dX12_day_102 (tgt := 120) (by decide) (fun c102 => ?_) (fun c102 => ?_)
                · replace h := k_if_t h c102
                  refine k_aload_n C dX12_day_120 0 rfl ?_
                  refine k_get C dX12_day_121 (k_gM0_24 w) k_fX12_49 (Or.inl rfl) ?_
                  refine k_aload_n C dX12_day_124 0 rfl ?_
                  refine k_iload_n C dX12_day_125 2 rfl ?_
                  obtain ⟨v126, h126, h⟩ := k_bd_e h
                  refine k_goI (k_runV C dX12_day_126 (e_X12_heard (d := 3) (Nat.le_refl _) h126) k_lX12_366 k_yX12_heard (k_oM0 w) (by omega) rfl (Nat.le_of_ble_eq_true rfl)) ?_
                  obtain ⟨q129, h⟩ := k_gd_e h
                  refine k_iald C dX12_day_129 (k_aM14 w) q129 ?_
                  refine k_topi (fun y130 ey130 => ?_)
                  replace h := k_nm_e h y130 ey130
                  refine k_istore_n C dX12_day_130 (by decide) [1, 2, 3, 0] (L' := [(0, .ref (w.2.1 0)), (1, .int v1_95), (2, .int v2_95), (3, .int y130)]) rfl ?_
                  refine k_iload_n C dX12_day_131 3 rfl ?_
                  obtain ⟨j150, ej150, h⟩ := k_jn_e h
                  have Jj150 : ∀ (v3_150 : Int32) (s_150 : k_St), j150 v3_150 s_150 = some (r, σ') → k_K (k_PM w) X (k_MQ X (k_Qi (k_PM w) r σ') (k_PM w).2.2.1) 150 [(0, .ref (w.2.1 0)), (2, .int v2_95), (3, .int v3_150)] [] s_150 := by
                    intro v3_150 s_150 h
                    rw [ej150] at h
                    refine k_iconst C dX12_day_150 (v := 4) rfl ?_
                    refine k_aload_n C dX12_day_151 0 rfl ?_
                    refine k_iload_n C dX12_day_152 1 rfl ?_
                    obtain ⟨v153, h153, h⟩ := k_bd_e h
                    refine k_goI (k_runV C dX12_day_153 (e_X12_seenAt (d := 3) (Nat.le_refl _) h153) k_lX12_369 k_yX12_seenAt (k_oM0 w) (by omega) rfl (Nat.le_of_ble_eq_true rfl)) ?_
                    refine k_imul C dX12_day_156 ?_
                    refine k_iload_n C dX12_day_157 2 rfl ?_
                    refine k_iadd C dX12_day_158 ?_
                    refine k_topi (fun y159 ey159 => ?_)
                    replace h := k_nm_e h y159 ey159
                    refine k_istore C dX12_day_159 (by decide) [1, 2, 3, 0] (L' := [(0, .ref (w.2.1 0)), (2, .int v2_95), (3, .int v3_150), (4, .int y159)]) rfl ?_
                    refine k_aload_n C dX12_day_161 0 rfl ?_
                    refine k_get C dX12_day_162 (k_gM0_25 w) k_fX12_52 (Or.inl rfl) ?_
                    refine k_iload C dX12_day_165 3 rfl ?_
                    obtain ⟨q167, h⟩ := k_gd_e h
                    refine k_iald C dX12_day_167 (k_aM15 w) q167 ?_
                    refine k_iload_n C dX12_day_168 1 rfl ?_
                    obtain ⟨j177, ej177, h⟩ := k_jn_e h
                    have Jj177 : ∀ (t0_177 : Int32), j177 t0_177 = some (r, σ') → k_K (k_PM w) X (k_MQ X (k_Qi (k_PM w) r σ') (k_PM w).2.2.1) 177 [(0, .ref (w.2.1 0)), (2, .int v2_95), (3, .int v3_150), (4, .int y159)] [.int t0_177] s_150 := by
                      intro t0_177 h
                      rw [ej177] at h
                      refine k_istore C dX12_day_177 (by decide) [1, 2, 3, 4, 0] (L' := [(0, .ref (w.2.1 0)), (2, .int v2_95), (3, .int v3_150), (4, .int y159), (5, .int t0_177)]) rfl ?_
                      refine k_aload_n C dX12_day_179 0 rfl ?_
                      refine k_get C dX12_day_180 (k_gM0_25 w) k_fX12_52 (Or.inl rfl) ?_
                      refine k_iload C dX12_day_183 3 rfl ?_
                      refine k_aload_n C dX12_day_185 0 rfl ?_
                      refine k_get C dX12_day_186 (k_gM0_28 w) k_fX12_322 (Or.inl rfl) ?_
                      obtain ⟨j203, ej203, h⟩ := k_jn_e h
                      have Jj203 : ∀ (t2_203 : Int32), j203 t2_203 = some (r, σ') → k_K (k_PM w) X (k_MQ X (k_Qi (k_PM w) r σ') (k_PM w).2.2.1) 203 [(0, .ref (w.2.1 0)), (2, .int v2_95), (3, .int v3_150), (5, .int t0_177)] [.int t2_203, .int y159, .ref (w.2.1 15)] s_150 := by
                        intro t2_203 h
                        rw [ej203] at h
                        obtain ⟨q203, h⟩ := k_gd_e h
                        refine k_iast C dX12_day_203 (k_aM15 w) q203 ?_
                        refine k_st (fun s203 es203 => ?_)
                        replace h := k_nm_e h s203 es203
                        refine k_aload_n C dX12_day_204 0 rfl ?_
                        refine k_get C dX12_day_205 (k_gM0_29 w) k_fX12_325 (Or.inl rfl) ?_
                        obtain ⟨j243, ej243, h⟩ := k_jn_e h
                        have Jj243 : ∀ (s_243 : k_St), j243 s_243 = some (r, σ') → k_K (k_PM w) X (k_MQ X (k_Qi (k_PM w) r σ') (k_PM w).2.2.1) 243 [(0, .ref (w.2.1 0)), (2, .int v2_95), (3, .int v3_150), (5, .int t0_177)] [] s_243 := by
                          intro s_243 h
                          rw [ej243] at h
                          refine k_aload_n C dX12_day_243 0 rfl ?_
                          refine k_get C dX12_day_244 (k_gM0_53 w) k_fX12_118 (Or.inl rfl) ?_
                          refine k_aload_n C dX12_day_247 0 rfl ?_
                          refine k_get C dX12_day_248 (k_gM0_59 w) k_fX12_331 (Or.inl rfl) ?_
                          refine k_iload_n C dX12_day_251 1 rfl ?_
                          obtain ⟨q252, h⟩ := k_gd_e h
                          refine k_iast C dX12_day_252 (k_aM35 w) q252 ?_
                          refine k_st (fun s252 es252 => ?_)
                          replace h := k_nm_e h s252 es252
                          refine k_aload_n C dX12_day_253 0 rfl ?_
                          refine k_get C dX12_day_254 (k_gM0_54 w) k_fX12_121 (Or.inl rfl) ?_
                          refine k_aload_n C dX12_day_257 0 rfl ?_
                          refine k_get C dX12_day_258 (k_gM0_59 w) k_fX12_331 (Or.inl rfl) ?_
                          refine k_iload_n C dX12_day_261 2 rfl ?_
                          obtain ⟨q262, h⟩ := k_gd_e h
                          refine k_iast C dX12_day_262 (k_aM36 w) q262 ?_
                          refine k_st (fun s262 es262 => ?_)
                          replace h := k_nm_e h s262 es262
                          refine k_aload_n C dX12_day_263 0 rfl ?_
                          refine k_get C dX12_day_264 (k_gM0_55 w) k_fX12_124 (Or.inl rfl) ?_
                          refine k_aload_n C dX12_day_267 0 rfl ?_
                          refine k_get C dX12_day_268 (k_gM0_59 w) k_fX12_331 (Or.inl rfl) ?_
                          refine k_iload C dX12_day_271 3 rfl ?_
                          obtain ⟨j285, ej285, h⟩ := k_jn_e h
                          have Jj285 : ∀ (t2_285 : Int32) (s_285 : k_St), j285 t2_285 s_285 = some (r, σ') → k_K (k_PM w) X (k_MQ X (k_Qi (k_PM w) r σ') (k_PM w).2.2.1) 285 [(0, .ref (w.2.1 0))] [.int t2_285, .int (k_rd s262 0 59), .ref (w.2.1 37)] s_285 := by
                            intro t2_285 s_285 h
                            rw [ej285] at h
                            obtain ⟨q285, h⟩ := k_gd_e h
                            refine k_iast C dX12_day_285 (k_aM37 w) q285 ?_
                            refine k_st (fun s285 es285 => ?_)
                            replace h := k_nm_e h s285 es285
                            refine k_aload_n C dX12_day_286 0 rfl ?_
                            refine k_dup C dX12_day_287 rfl ?_
                            refine k_get C dX12_day_288 (k_gM0_59 w) k_fX12_331 (Or.inl rfl) ?_
                            refine k_iconst C dX12_day_291 (v := 1) rfl ?_
                            refine k_iadd C dX12_day_292 ?_
                            refine k_puti C dX12_day_293 (k_pM0_59 w) k_fX12_331 (Or.inl rfl) k_xi ?_
                            refine k_st (fun s293 es293 => ?_)
                            replace h := k_nm_e h s293 es293
                            refine k_aload_n C dX12_day_296 0 rfl ?_
                            refine k_get C dX12_day_297 (k_gM0_55 w) k_fX12_124 (Or.inl rfl) ?_
                            refine k_aload_n C dX12_day_300 0 rfl ?_
                            refine k_get C dX12_day_301 (k_gM0_59 w) k_fX12_331 (Or.inl rfl) ?_
                            refine k_iconst C dX12_day_304 (v := 1) rfl ?_
                            refine k_isub C dX12_day_305 ?_
                            obtain ⟨q306, h⟩ := k_gd_e h
                            refine k_iald C dX12_day_306 (k_aM37 w) q306 ?_
                            exact k_iret C dX12_day_307 hr (Option.some.inj h)
                          refine k_if_eq C dX12_day_273 (tgt := 284) (by decide) (fun c273 => ?_) (fun c273 => ?_)
                          · replace h := k_if_t h c273
                            refine k_iconst C dX12_day_284 (v := 0) rfl ?_
                            refine k_sub (L' := [(0, .ref (w.2.1 0))]) [0] rfl ?_
                            exact Jj285 _ _ h
                          · replace h := k_if_f h c273
                            refine k_aload_n C dX12_day_276 0 rfl ?_
                            refine k_iload_n C dX12_day_277 1 rfl ?_
                            obtain ⟨v278, s278, h278, h⟩ := k_b2_e h
                            refine k_goI (k_runV C dX12_day_278 (e_X12_worthAt (d := 7) (Nat.le_refl _) h278) k_lX12_356 k_yX12_worthAt (k_oM0 w) (by omega) rfl (Nat.le_of_ble_eq_true rfl)) ?_
                            refine k_goto C dX12_day_281 (tgt := 285) (by decide) ?_
                            refine k_sub (L' := [(0, .ref (w.2.1 0))]) [0] rfl ?_
                            exact Jj285 _ _ h
                        refine k_if_eq C dX12_day_208 (tgt := 243) (by decide) (fun c208 => ?_) (fun c208 => ?_)
                        · replace h := k_if_t h c208
                          exact Jj243 _ h
                        · replace h := k_if_f h c208
                          refine k_iload C dX12_day_211 3 rfl ?_
                          refine k_if_ne C dX12_day_213 (tgt := 243) (by decide) (fun c213 => ?_) (fun c213 => ?_)
                          · replace h := k_if_f h c213
                            exact Jj243 _ h
                          · replace h := k_if_t h c213
                            refine k_aload_n C dX12_day_216 0 rfl ?_
                            refine k_get C dX12_day_217 (k_gM0_24 w) k_fX12_49 (Or.inl rfl) ?_
                            refine k_aload_n C dX12_day_220 0 rfl ?_
                            refine k_iload_n C dX12_day_221 1 rfl ?_
                            obtain ⟨v222, h222, h⟩ := k_bd_e h
                            refine k_goI (k_runV C dX12_day_222 (e_X12_heard (d := 3) (Nat.le_refl _) h222) k_lX12_366 k_yX12_heard (k_oM0 w) (by omega) rfl (Nat.le_of_ble_eq_true rfl)) ?_
                            refine k_aload_n C dX12_day_225 0 rfl ?_
                            refine k_get C dX12_day_226 (k_gM0_24 w) k_fX12_49 (Or.inl rfl) ?_
                            refine k_aload_n C dX12_day_229 0 rfl ?_
                            refine k_iload_n C dX12_day_230 1 rfl ?_
                            obtain ⟨v231, h231, h⟩ := k_bd_e h
                            refine k_goI (k_runV C dX12_day_231 (e_X12_heard (d := 3) (Nat.le_refl _) h231) k_lX12_366 k_yX12_heard (k_oM0 w) (by omega) rfl (Nat.le_of_ble_eq_true rfl)) ?_
                            obtain ⟨q234, h⟩ := k_gd_e h
                            refine k_iald C dX12_day_234 (k_aM14 w) q234 ?_
                            refine k_iconst C dX12_day_235 (v := 1) rfl ?_
                            refine k_iadd C dX12_day_236 ?_
                            refine k_aload_n C dX12_day_237 0 rfl ?_
                            refine k_get C dX12_day_238 (k_gM0_22 w) k_fX12_309 (Or.inl rfl) ?_
                            obtain ⟨q241, h⟩ := k_gd_e h
                            refine k_irem C dX12_day_241 q241 ?_
                            obtain ⟨q242, h⟩ := k_gd_e h
                            refine k_iast C dX12_day_242 (k_aM14 w) q242 ?_
                            refine k_st (fun s242 es242 => ?_)
                            replace h := k_nm_e h s242 es242
                            exact Jj243 _ h
                      refine k_if_eq C dX12_day_189 (tgt := 196) (by decide) (fun c189 => ?_) (fun c189 => ?_)
                      · replace h := k_if_t h c189
                        refine k_aload_n C dX12_day_196 0 rfl ?_
                        refine k_get C dX12_day_197 (k_gM0_25 w) k_fX12_52 (Or.inl rfl) ?_
                        refine k_iload C dX12_day_200 3 rfl ?_
                        obtain ⟨q202, h⟩ := k_gd_e h
                        refine k_iald C dX12_day_202 (k_aM15 w) q202 ?_
                        refine k_sub (L' := [(0, .ref (w.2.1 0)), (2, .int v2_95), (3, .int v3_150), (5, .int t0_177)]) [0, 1, 2, 4] rfl ?_
                        exact Jj203 _ h
                      · replace h := k_if_f h c189
                        refine k_iload_n C dX12_day_192 1 rfl ?_
                        refine k_goto C dX12_day_193 (tgt := 203) (by decide) ?_
                        refine k_sub (L' := [(0, .ref (w.2.1 0)), (2, .int v2_95), (3, .int v3_150), (5, .int t0_177)]) [0, 1, 2, 4] rfl ?_
                        exact Jj203 _ h
                    refine k_icmp_ne C dX12_day_169 (tgt := 176) (by decide) (fun c169 => ?_) (fun c169 => ?_)
                    · replace h := k_if_f h c169
                      refine k_iconst C dX12_day_176 (v := 0) rfl ?_
                      exact Jj177 _ h
                    · replace h := k_if_t h c169
                      refine k_iconst C dX12_day_172 (v := 1) rfl ?_
                      refine k_goto C dX12_day_173 (tgt := 177) (by decide) ?_
                      exact Jj177 _ h
                  refine k_if_eq C dX12_day_132 (tgt := 150) (by decide) (fun c132 => ?_) (fun c132 => ?_)
                  · replace h := k_if_t h c132
                    refine k_sub (L' := [(0, .ref (w.2.1 0)), (2, .int v2_95), (3, .int y130)]) [0, 2, 3] rfl ?_
                    exact Jj150 _ _ h
                  · replace h := k_if_f h c132
                    refine k_aload_n C dX12_day_135 0 rfl ?_
                    refine k_bipush C dX12_day_136 (v := 100) rfl ?_
                    obtain ⟨v138, s138, h138, h⟩ := k_b2_e h
                    refine k_goI (k_runV C dX12_day_138 (e_X12_draw (d := 2) (Nat.le_refl _) h138) k_lX12_503 k_yX12_draw (k_oM0 w) (by omega) rfl (Nat.le_of_ble_eq_true rfl)) ?_
                    refine k_aload_n C dX12_day_141 0 rfl ?_
                    refine k_get C dX12_day_142 (k_gM0_23 w) k_fX12_312 (Or.inl rfl) ?_
                    refine k_icmp_ge C dX12_day_145 (tgt := 150) (by decide) (fun c145 => ?_) (fun c145 => ?_)
                    · replace h := k_if_t h c145
                      refine k_sub (L' := [(0, .ref (w.2.1 0)), (2, .int v2_95), (3, .int y130)]) [0, 2, 3] rfl ?_
                      exact Jj150 _ _ h
                    · replace h := k_if_f h c145
                      refine k_iconst C dX12_day_148 (v := 0) rfl ?_
                      refine k_istore_n C dX12_day_149 (by decide) [1, 2, 3, 0] (L' := [(0, .ref (w.2.1 0)), (1, .int v1_95), (2, .int v2_95), (3, .int (0 : Int32))]) rfl ?_
                      refine k_sub (L' := [(0, .ref (w.2.1 0)), (2, .int v2_95), (3, .int (0 : Int32))]) [0, 2, 3] rfl ?_
                      exact Jj150 _ _ h
                · replace h := k_if_f h c102
                  refine k_iload_n C dX12_day_105 1 rfl ?_
                  refine k_aload_n C dX12_day_106 0 rfl ?_
                  refine k_iload_n C dX12_day_107 2 rfl ?_
                  refine k_iconst C dX12_day_108 (v := 0) rfl ?_
                  obtain ⟨v109, h109, h⟩ := k_bd_e h
                  refine k_goI (k_runV C dX12_day_109 (e_X12_of (d := 2) (Nat.le_refl _) h109) k_lX12_343 k_yX12_of (k_oM0 w) (by omega) rfl (Nat.le_of_ble_eq_true rfl)) ?_
                  refine k_isub C dX12_day_112 ?_
                  refine k_topi (fun y113 ey113 => ?_)
                  replace h := k_nm_e h y113 ey113
                  refine k_istore_n C dX12_day_113 (by decide) [1, 0, 2] (L' := [(0, .ref (w.2.1 0)), (1, .int y113), (2, .int v2_95)]) rfl ?_
                  refine k_iinc C dX12_day_114 2 rfl (v := 1) rfl (by decide) [1, 2, 0] (L' := fun z9 => [(0, .ref (w.2.1 0)), (1, .int y113), (2, .int z9)]) (fun z9 => rfl) (fun y114 ey114 => ?_)
                  replace h := k_nm_e h y114 ey114
                  refine k_goto C dX12_day_117 (tgt := 95) (by decide) ?_
                  exact ih95 _ _ h
            exact K95 _ _ _ h
          · replace h := k_if_f h c52
            refine k_aload_n C dX12_day_55 0 rfl ?_
            refine k_get C dX12_day_56 (k_gM0_57 w) k_fX12_130 (Or.inl rfl) ?_
            refine k_bipush C dX12_day_59 (v := 16) rfl ?_
            refine k_aload_n C dX12_day_61 0 rfl ?_
            refine k_get C dX12_day_62 (k_gM0_59 w) k_fX12_331 (Or.inl rfl) ?_
            refine k_imul C dX12_day_65 ?_
            refine k_iload_n C dX12_day_66 1 rfl ?_
            refine k_iadd C dX12_day_67 ?_
            refine k_aload_n C dX12_day_68 0 rfl ?_
            refine k_get C dX12_day_69 (k_gM0_25 w) k_fX12_52 (Or.inl rfl) ?_
            refine k_iload_n C dX12_day_72 1 rfl ?_
            obtain ⟨q73, h⟩ := k_gd_e h
            refine k_iald C dX12_day_73 (k_aM15 w) q73 ?_
            obtain ⟨q74, h⟩ := k_gd_e h
            refine k_iast C dX12_day_74 (k_aM39 w) q74 ?_
            refine k_st (fun s74 es74 => ?_)
            replace h := k_nm_e h s74 es74
            refine k_iinc C dX12_day_75 1 rfl (v := 1) rfl (by decide) [1, 0] (L' := fun z9 => [(0, .ref (w.2.1 0)), (1, .int z9)]) (fun z9 => rfl) (fun y75 ey75 => ?_)
            replace h := k_nm_e h y75 ey75
            refine k_goto C dX12_day_78 (tgt := 49) (by decide) ?_
            exact ih49 _ _ h
      exact K49 _ _ _ h
    · replace h := k_if_t h c13
      refine k_iconst C dX12_day_16 (v := -1) rfl ?_
      exact k_iret C dX12_day_17 hr (Option.some.inj h)
def f_X12_was (x1 : Int32) (x2 : Int32) (σ : k_St) : Option (Int32) :=
  k_bd (f_X12_in x1 (0 : Int32) ((k_rd σ 0 59) - (1 : Int32))) fun v8 =>
  k_if (v8 = (0 : Int32))
    (some (-1 : Int32))
    (k_bd (f_X12_in x2 (0 : Int32) (2 : Int32)) fun v17 =>
    k_if (v17 = (0 : Int32))
      (some (-1 : Int32))
      (k_if (x2 = (0 : Int32))
        (k_gd (k_ix x1 40 = true) <|
        some (k_rd σ 35 x1.toNatClampNeg))
        (k_if (x2 = (1 : Int32))
          (k_gd (k_ix x1 40 = true) <|
          some (k_rd σ 36 x1.toNatClampNeg))
          (k_gd (k_ix x1 40 = true) <|
          some (k_rd σ 37 x1.toNatClampNeg)))))
set_option maxHeartbeats 4000000 in
set_option maxRecDepth 100000 in
theorem e_X12_was {l : Launch} {w : k_WC} {d : Nat} (hd : 3 ≤ d) {x1 : Int32} {x2 : Int32}  {σ : k_St} {r : Int32} (h : f_X12_was x1 x2 σ = some r) : k_EI l (k_PM w) yX12_was cX12_was 3 (some .int) d [.ref (w.2.1 0), .int x1, .int x2] σ r σ := by
  refine k_of (own := RX12) rfl (by decide) (Nat.le_of_ble_eq_true rfl) (fun X hX C hr => ?_)
  show k_K (k_PM w) X (k_MQ X (k_Qi (k_PM w) r σ) (k_PM w).2.2.1) 0 [(0, .ref (w.2.1 0)), (1, .int x1), (2, .int x2)] [] σ
  unfold f_X12_was at h
  refine k_iload_n C dX12_was_0 1 rfl ?_
  refine k_iconst C dX12_was_1 (v := 0) rfl ?_
  refine k_aload_n C dX12_was_2 0 rfl ?_
  refine k_get C dX12_was_3 (k_gM0_59 w) k_fX12_331 (Or.inl rfl) ?_
  refine k_iconst C dX12_was_6 (v := 1) rfl ?_
  refine k_isub C dX12_was_7 ?_
  obtain ⟨v8, h8, h⟩ := k_bd_e h
  refine k_goI (k_runS C dX12_was_8 (e_X12_in (d := 2) (Nat.le_refl _) h8) k_lX12_269 k_yX12_in (by omega) rfl (Nat.le_of_ble_eq_true rfl)) ?_
  refine k_if_eq C dX12_was_11 (tgt := 23) (by decide) (fun c11 => ?_) (fun c11 => ?_)
  · replace h := k_if_t h c11
    refine k_iconst C dX12_was_23 (v := -1) rfl ?_
    refine k_goto C dX12_was_24 (tgt := 60) (by decide) ?_
    exact k_iret C dX12_was_60 hr (k_p1 h)
  · replace h := k_if_f h c11
    refine k_iload_n C dX12_was_14 2 rfl ?_
    refine k_iconst C dX12_was_15 (v := 0) rfl ?_
    refine k_iconst C dX12_was_16 (v := 2) rfl ?_
    obtain ⟨v17, h17, h⟩ := k_bd_e h
    refine k_goI (k_runS C dX12_was_17 (e_X12_in (d := 2) (Nat.le_refl _) h17) k_lX12_269 k_yX12_in (by omega) rfl (Nat.le_of_ble_eq_true rfl)) ?_
    refine k_if_ne C dX12_was_20 (tgt := 27) (by decide) (fun c20 => ?_) (fun c20 => ?_)
    · replace h := k_if_f h c20
      refine k_iload_n C dX12_was_27 2 rfl ?_
      refine k_if_ne C dX12_was_28 (tgt := 40) (by decide) (fun c28 => ?_) (fun c28 => ?_)
      · replace h := k_if_f h c28
        refine k_iload_n C dX12_was_40 2 rfl ?_
        refine k_iconst C dX12_was_41 (v := 1) rfl ?_
        refine k_icmp_ne C dX12_was_42 (tgt := 54) (by decide) (fun c42 => ?_) (fun c42 => ?_)
        · replace h := k_if_f h c42
          refine k_aload_n C dX12_was_54 0 rfl ?_
          refine k_get C dX12_was_55 (k_gM0_55 w) k_fX12_124 (Or.inl rfl) ?_
          refine k_iload_n C dX12_was_58 1 rfl ?_
          obtain ⟨q59, h⟩ := k_gd_e h
          refine k_iald C dX12_was_59 (k_aM37 w) q59 ?_
          exact k_iret C dX12_was_60 hr (k_p1 h)
        · replace h := k_if_t h c42
          refine k_aload_n C dX12_was_45 0 rfl ?_
          refine k_get C dX12_was_46 (k_gM0_54 w) k_fX12_121 (Or.inl rfl) ?_
          refine k_iload_n C dX12_was_49 1 rfl ?_
          obtain ⟨q50, h⟩ := k_gd_e h
          refine k_iald C dX12_was_50 (k_aM36 w) q50 ?_
          refine k_goto C dX12_was_51 (tgt := 60) (by decide) ?_
          exact k_iret C dX12_was_60 hr (k_p1 h)
      · replace h := k_if_t h c28
        refine k_aload_n C dX12_was_31 0 rfl ?_
        refine k_get C dX12_was_32 (k_gM0_53 w) k_fX12_118 (Or.inl rfl) ?_
        refine k_iload_n C dX12_was_35 1 rfl ?_
        obtain ⟨q36, h⟩ := k_gd_e h
        refine k_iald C dX12_was_36 (k_aM35 w) q36 ?_
        refine k_goto C dX12_was_37 (tgt := 60) (by decide) ?_
        exact k_iret C dX12_was_60 hr (k_p1 h)
    · replace h := k_if_t h c20
      refine k_iconst C dX12_was_23 (v := -1) rfl ?_
      refine k_goto C dX12_was_24 (tgt := 60) (by decide) ?_
      exact k_iret C dX12_was_60 hr (k_p1 h)
def f_X12_undo  (σ : k_St) : Option (Int32 × k_St) :=
  k_if ((k_rd σ 0 59) = (0 : Int32))
    (some ((-1 : Int32), σ))
    (k_nm (k_wr σ 0 59 ((k_rd σ 0 59) - (1 : Int32))) fun s16 =>
    k_gd (k_ix (k_rd s16 0 59) 40 = true) <|
    k_nm (k_wl s16 0 60 (k_rl s16 38 (k_rd s16 0 59).toNatClampNeg)) fun s29 =>
    k_gd (k_ix (k_rd s29 0 59) 40 = true) <|
    k_b2 (f_X12_spreadOut (k_rd s29 40 (k_rd s29 0 59).toNatClampNeg) (4 : Int32) 14 s29) fun v46 s46 =>
    k_loop (fun (g52 : Int32 × k_St → Option (Int32 × k_St)) (z52 : Int32 × k_St) => match z52 with
      | (v1_52, s_52) =>
        k_if ((16 : Int32) ≤ v1_52)
          (some ((k_rd s_52 0 59), s_52))
          (k_gd (k_ix (((16 : Int32) * (k_rd s_52 0 59)) + v1_52) 640 = true) <|
          k_gd (k_ix v1_52 16 = true) <|
          k_nm (k_wr s_52 15 v1_52.toNatClampNeg (k_rd s_52 39 (((16 : Int32) * (k_rd s_52 0 59)) + v1_52).toNatClampNeg)) fun s77 =>
          k_nm (v1_52 + (1 : Int32)) fun y78 =>
          g52 (y78, s77))) 100000 ((0 : Int32), s46))
set_option maxHeartbeats 4000000 in
set_option maxRecDepth 100000 in
theorem e_X12_undo {l : Launch} {w : k_WC} {d : Nat} (hd : 4 ≤ d)   {σ σ' : k_St} {r : Int32} (h : f_X12_undo σ = some (r, σ')) : k_EI l (k_PM w) yX12_undo cX12_undo 2 (some .int) d [.ref (w.2.1 0)] σ r σ' := by
  refine k_of (own := RX12) rfl (by decide) (Nat.le_of_ble_eq_true rfl) (fun X hX C hr => ?_)
  show k_K (k_PM w) X (k_MQ X (k_Qi (k_PM w) r σ') (k_PM w).2.2.1) 0 [(0, .ref (w.2.1 0))] [] σ
  unfold f_X12_undo at h
  refine k_aload_n C dX12_undo_0 0 rfl ?_
  refine k_get C dX12_undo_1 (k_gM0_59 w) k_fX12_331 (Or.inl rfl) ?_
  refine k_if_ne C dX12_undo_4 (tgt := 9) (by decide) (fun c4 => ?_) (fun c4 => ?_)
  · replace h := k_if_f h c4
    refine k_aload_n C dX12_undo_9 0 rfl ?_
    refine k_dup C dX12_undo_10 rfl ?_
    refine k_get C dX12_undo_11 (k_gM0_59 w) k_fX12_331 (Or.inl rfl) ?_
    refine k_iconst C dX12_undo_14 (v := 1) rfl ?_
    refine k_isub C dX12_undo_15 ?_
    refine k_puti C dX12_undo_16 (k_pM0_59 w) k_fX12_331 (Or.inl rfl) k_xi ?_
    refine k_st (fun s16 es16 => ?_)
    replace h := k_nm_e h s16 es16
    refine k_aload_n C dX12_undo_19 0 rfl ?_
    refine k_aload_n C dX12_undo_20 0 rfl ?_
    refine k_get C dX12_undo_21 (k_gM0_56 w) k_fX12_127 (Or.inl rfl) ?_
    refine k_aload_n C dX12_undo_24 0 rfl ?_
    refine k_get C dX12_undo_25 (k_gM0_59 w) k_fX12_331 (Or.inl rfl) ?_
    obtain ⟨q28, h⟩ := k_gd_e h
    refine k_lald C dX12_undo_28 (k_aM38 w) q28 ?_
    refine k_putl C dX12_undo_29 (k_pM0_60 w) k_fX12_495 rfl ?_
    refine k_st (fun s29 es29 => ?_)
    replace h := k_nm_e h s29 es29
    refine k_aload_n C dX12_undo_32 0 rfl ?_
    refine k_get C dX12_undo_33 (k_gM0_58 w) k_fX12_133 (Or.inl rfl) ?_
    refine k_aload_n C dX12_undo_36 0 rfl ?_
    refine k_get C dX12_undo_37 (k_gM0_59 w) k_fX12_331 (Or.inl rfl) ?_
    obtain ⟨q40, h⟩ := k_gd_e h
    refine k_iald C dX12_undo_40 (k_aM40 w) q40 ?_
    refine k_iconst C dX12_undo_41 (v := 4) rfl ?_
    refine k_aload_n C dX12_undo_42 0 rfl ?_
    refine k_get C dX12_undo_43 (k_gM0_24 w) k_fX12_49 (Or.inl rfl) ?_
    obtain ⟨v46, s46, h46, h⟩ := k_b2_e h
    refine k_goI (k_runS C dX12_undo_46 (e_X12_spreadOut (d := 3) (Nat.le_refl _) (k_aM14 w) h46) k_lX12_359 k_yX12_spreadOut (by omega) rfl (Nat.le_of_ble_eq_true rfl)) ?_
    refine k_pop C dX12_undo_49 rfl ?_
    refine k_iconst C dX12_undo_50 (v := 0) rfl ?_
    refine k_istore_n C dX12_undo_51 (by decide) [1, 0] (L' := [(0, .ref (w.2.1 0)), (1, .int (0 : Int32))]) rfl ?_
    obtain ⟨b52, eb52, h⟩ := k_lp_e h
    have K52 : ∀ (n : Nat) (v1_52 : Int32) (s_52 : k_St), k_loop b52 n (v1_52, s_52) = some (r, σ') → k_K (k_PM w) X (k_MQ X (k_Qi (k_PM w) r σ') (k_PM w).2.2.1) 52 [(0, .ref (w.2.1 0)), (1, .int v1_52)] [] s_52 := by
      intro n
      induction n with
      | zero => intro v1_52 s_52 h; cases h
      | succ n ih52 =>
        intro v1_52 s_52 h
        obtain ⟨g52, eg52, h⟩ := k_lp_s h
        rw [← eg52] at ih52
        rw [eb52] at h
        refine k_iload_n C dX12_undo_52 1 rfl ?_
        refine k_bipush C dX12_undo_53 (v := 16) rfl ?_
        refine k_icmp_ge C dX12_undo_55 (tgt := 84) (by decide) (fun c55 => ?_) (fun c55 => ?_)
        · replace h := k_if_t h c55
          refine k_aload_n C dX12_undo_84 0 rfl ?_
          refine k_get C dX12_undo_85 (k_gM0_59 w) k_fX12_331 (Or.inl rfl) ?_
          exact k_iret C dX12_undo_88 hr (Option.some.inj h)
        · replace h := k_if_f h c55
          refine k_aload_n C dX12_undo_58 0 rfl ?_
          refine k_get C dX12_undo_59 (k_gM0_25 w) k_fX12_52 (Or.inl rfl) ?_
          refine k_iload_n C dX12_undo_62 1 rfl ?_
          refine k_aload_n C dX12_undo_63 0 rfl ?_
          refine k_get C dX12_undo_64 (k_gM0_57 w) k_fX12_130 (Or.inl rfl) ?_
          refine k_bipush C dX12_undo_67 (v := 16) rfl ?_
          refine k_aload_n C dX12_undo_69 0 rfl ?_
          refine k_get C dX12_undo_70 (k_gM0_59 w) k_fX12_331 (Or.inl rfl) ?_
          refine k_imul C dX12_undo_73 ?_
          refine k_iload_n C dX12_undo_74 1 rfl ?_
          refine k_iadd C dX12_undo_75 ?_
          obtain ⟨q76, h⟩ := k_gd_e h
          refine k_iald C dX12_undo_76 (k_aM39 w) q76 ?_
          obtain ⟨q77, h⟩ := k_gd_e h
          refine k_iast C dX12_undo_77 (k_aM15 w) q77 ?_
          refine k_st (fun s77 es77 => ?_)
          replace h := k_nm_e h s77 es77
          refine k_iinc C dX12_undo_78 1 rfl (v := 1) rfl (by decide) [1, 0] (L' := fun z9 => [(0, .ref (w.2.1 0)), (1, .int z9)]) (fun z9 => rfl) (fun y78 ey78 => ?_)
          replace h := k_nm_e h y78 ey78
          refine k_goto C dX12_undo_81 (tgt := 52) (by decide) ?_
          exact ih52 _ _ h
    exact K52 _ _ _ h
  · replace h := k_if_t h c4
    refine k_iconst C dX12_undo_7 (v := -1) rfl ?_
    exact k_iret C dX12_undo_8 hr (Option.some.inj h)
def f_X12_image  (σ : k_St) : Option (Int32 × k_St) :=
  k_if ((k_rd σ 0 21) = (0 : Int32))
    (some ((-1 : Int32), σ))
    (k_loop (fun (g11 : Int32 × k_St → Option (Int32 × k_St)) (z11 : Int32 × k_St) => match z11 with
      | (v1_11, s_11) =>
        k_if ((4 : Int32) ≤ v1_11)
          (k_loop (fun (g36 : Int32 × k_St → Option (Int32 × k_St)) (z36 : Int32 × k_St) => match z36 with
            | (v1_36, s_36) =>
              k_if ((16 : Int32) ≤ v1_36)
                (k_loop (fun (g62 : Int32 × k_St → Option (Int32 × k_St)) (z62 : Int32 × k_St) => match z62 with
                  | (v1_62, s_62) =>
                    k_if ((40 : Int32) ≤ v1_62)
                      (k_loop (fun (g146 : Int32 × k_St → Option (Int32 × k_St)) (z146 : Int32 × k_St) => match z146 with
                        | (v1_146, s_146) =>
                          k_if ((640 : Int32) ≤ v1_146)
                            (k_gd (o_isB (k_rd s_146 0 26) = true) <|
                            k_nm (k_wr s_146 0 68 (k_rd s_146 0 26)) fun s176 =>
                            k_gd (o_isB (k_rd s176 0 27) = true) <|
                            k_nm (k_wr s176 0 69 (k_rd s176 0 27)) fun s184 =>
                            k_nm (k_wr s184 0 71 (k_rd s184 0 59)) fun s192 =>
                            k_nm (k_wr s192 0 67 (k_rd s192 0 23)) fun s200 =>
                            k_nm (k_wl s200 0 72 (k_rl s200 0 60)) fun s208 =>
                            k_nm (k_wr s208 0 70 (1 : Int32)) fun s213 =>
                            some ((k_rd s213 0 59), s213))
                            (k_gd (k_ix v1_146 640 = true) <|
                            k_gd (k_ix v1_146 640 = true) <|
                            k_nm (k_wr s_146 44 v1_146.toNatClampNeg (k_rd s_146 39 v1_146.toNatClampNeg)) fun s164 =>
                            k_nm (v1_146 + (1 : Int32)) fun y165 =>
                            g146 (y165, s164))) 100000 ((0 : Int32), s_62))
                      (k_gd (k_ix v1_62 40 = true) <|
                      k_gd (k_ix ((3 : Int32) * v1_62) 120 = true) <|
                      k_nm (k_wr s_62 43 ((3 : Int32) * v1_62).toNatClampNeg (k_rd s_62 35 v1_62.toNatClampNeg)) fun s81 =>
                      k_gd (k_ix v1_62 40 = true) <|
                      k_gd (k_ix (((3 : Int32) * v1_62) + (1 : Int32)) 120 = true) <|
                      k_nm (k_wr s81 43 (((3 : Int32) * v1_62) + (1 : Int32)).toNatClampNeg (k_rd s81 36 v1_62.toNatClampNeg)) fun s97 =>
                      k_gd (k_ix v1_62 40 = true) <|
                      k_gd (k_ix (((3 : Int32) * v1_62) + (2 : Int32)) 120 = true) <|
                      k_nm (k_wr s97 43 (((3 : Int32) * v1_62) + (2 : Int32)).toNatClampNeg (k_rd s97 37 v1_62.toNatClampNeg)) fun s113 =>
                      k_gd (k_ix v1_62 40 = true) <|
                      k_gd (k_ix v1_62 40 = true) <|
                      k_nm (k_wl s113 45 v1_62.toNatClampNeg (k_rl s113 38 v1_62.toNatClampNeg)) fun s125 =>
                      k_gd (k_ix v1_62 40 = true) <|
                      k_gd (k_ix v1_62 40 = true) <|
                      k_nm (k_wr s125 46 v1_62.toNatClampNeg (k_rd s125 40 v1_62.toNatClampNeg)) fun s137 =>
                      k_nm (v1_62 + (1 : Int32)) fun y138 =>
                      g62 (y138, s137))) 100000 ((0 : Int32), s_36))
                (k_gd (k_ix v1_36 16 = true) <|
                k_gd (k_ix v1_36 16 = true) <|
                k_nm (k_wr s_36 42 v1_36.toNatClampNeg (k_rd s_36 15 v1_36.toNatClampNeg)) fun s53 =>
                k_nm (v1_36 + (1 : Int32)) fun y54 =>
                g36 (y54, s53))) 100000 ((0 : Int32), s_11))
          (k_gd (k_ix v1_11 4 = true) <|
          k_gd (k_ix v1_11 4 = true) <|
          k_nm (k_wr s_11 41 v1_11.toNatClampNeg (k_rd s_11 14 v1_11.toNatClampNeg)) fun s27 =>
          k_nm (v1_11 + (1 : Int32)) fun y28 =>
          g11 (y28, s27))) 100000 ((0 : Int32), σ))
set_option maxHeartbeats 4000000 in
set_option maxRecDepth 100000 in
theorem e_X12_image {l : Launch} {w : k_WC} {d : Nat} (hd : 2 ≤ d)   {σ σ' : k_St} {r : Int32} (h : f_X12_image σ = some (r, σ')) : k_EI l (k_PM w) yX12_image cX12_image 2 (some .int) d [.ref (w.2.1 0)] σ r σ' := by
  refine k_of (own := RX12) rfl (by decide) (Nat.le_of_ble_eq_true rfl) (fun X hX C hr => ?_)
  show k_K (k_PM w) X (k_MQ X (k_Qi (k_PM w) r σ') (k_PM w).2.2.1) 0 [(0, .ref (w.2.1 0))] [] σ
  unfold f_X12_image at h
  refine k_aload_n C dX12_image_0 0 rfl ?_
  refine k_get C dX12_image_1 (k_gM0_21 w) k_fX12_306 (Or.inl rfl) ?_
  refine k_if_ne C dX12_image_4 (tgt := 9) (by decide) (fun c4 => ?_) (fun c4 => ?_)
  · replace h := k_if_f h c4
    refine k_iconst C dX12_image_9 (v := 0) rfl ?_
    refine k_istore_n C dX12_image_10 (by decide) [1, 0] (L' := [(0, .ref (w.2.1 0)), (1, .int (0 : Int32))]) rfl ?_
    obtain ⟨b11, eb11, h⟩ := k_lp_e h
    have K11 : ∀ (n : Nat) (v1_11 : Int32) (s_11 : k_St), k_loop b11 n (v1_11, s_11) = some (r, σ') → k_K (k_PM w) X (k_MQ X (k_Qi (k_PM w) r σ') (k_PM w).2.2.1) 11 [(0, .ref (w.2.1 0)), (1, .int v1_11)] [] s_11 := by
      intro n
      induction n with
      | zero => intro v1_11 s_11 h; cases h
      | succ n ih11 =>
        intro v1_11 s_11 h
        obtain ⟨g11, eg11, h⟩ := k_lp_s h
        rw [← eg11] at ih11
        rw [eb11] at h
        refine k_iload_n C dX12_image_11 1 rfl ?_
        refine k_iconst C dX12_image_12 (v := 4) rfl ?_
        refine k_icmp_ge C dX12_image_13 (tgt := 34) (by decide) (fun c13 => ?_) (fun c13 => ?_)
        · replace h := k_if_t h c13
          refine k_iconst C dX12_image_34 (v := 0) rfl ?_
          refine k_istore_n C dX12_image_35 (by decide) [1, 0] (L' := [(0, .ref (w.2.1 0)), (1, .int (0 : Int32))]) rfl ?_
          obtain ⟨b36, eb36, h⟩ := k_lp_e h
          have K36 : ∀ (n : Nat) (v1_36 : Int32) (s_36 : k_St), k_loop b36 n (v1_36, s_36) = some (r, σ') → k_K (k_PM w) X (k_MQ X (k_Qi (k_PM w) r σ') (k_PM w).2.2.1) 36 [(0, .ref (w.2.1 0)), (1, .int v1_36)] [] s_36 := by
            intro n
            induction n with
            | zero => intro v1_36 s_36 h; cases h
            | succ n ih36 =>
              intro v1_36 s_36 h
              obtain ⟨g36, eg36, h⟩ := k_lp_s h
              rw [← eg36] at ih36
              rw [eb36] at h
              refine k_iload_n C dX12_image_36 1 rfl ?_
              refine k_bipush C dX12_image_37 (v := 16) rfl ?_
              refine k_icmp_ge C dX12_image_39 (tgt := 60) (by decide) (fun c39 => ?_) (fun c39 => ?_)
              · replace h := k_if_t h c39
                refine k_iconst C dX12_image_60 (v := 0) rfl ?_
                refine k_istore_n C dX12_image_61 (by decide) [1, 0] (L' := [(0, .ref (w.2.1 0)), (1, .int (0 : Int32))]) rfl ?_
                obtain ⟨b62, eb62, h⟩ := k_lp_e h
                have K62 : ∀ (n : Nat) (v1_62 : Int32) (s_62 : k_St), k_loop b62 n (v1_62, s_62) = some (r, σ') → k_K (k_PM w) X (k_MQ X (k_Qi (k_PM w) r σ') (k_PM w).2.2.1) 62 [(0, .ref (w.2.1 0)), (1, .int v1_62)] [] s_62 := by
                  intro n
                  induction n with
                  | zero => intro v1_62 s_62 h; cases h
                  | succ n ih62 =>
                    intro v1_62 s_62 h
                    obtain ⟨g62, eg62, h⟩ := k_lp_s h
                    rw [← eg62] at ih62
                    rw [eb62] at h
                    refine k_iload_n C dX12_image_62 1 rfl ?_
                    refine k_bipush C dX12_image_63 (v := 40) rfl ?_
                    refine k_icmp_ge C dX12_image_65 (tgt := 144) (by decide) (fun c65 => ?_) (fun c65 => ?_)
                    · replace h := k_if_t h c65
                      refine k_iconst C dX12_image_144 (v := 0) rfl ?_
                      refine k_istore_n C dX12_image_145 (by decide) [1, 0] (L' := [(0, .ref (w.2.1 0)), (1, .int (0 : Int32))]) rfl ?_
                      obtain ⟨b146, eb146, h⟩ := k_lp_e h
                      have K146 : ∀ (n : Nat) (v1_146 : Int32) (s_146 : k_St), k_loop b146 n (v1_146, s_146) = some (r, σ') → k_K (k_PM w) X (k_MQ X (k_Qi (k_PM w) r σ') (k_PM w).2.2.1) 146 [(0, .ref (w.2.1 0)), (1, .int v1_146)] [] s_146 := by
                        intro n
                        induction n with
                        | zero => intro v1_146 s_146 h; cases h
                        | succ n ih146 =>
                          intro v1_146 s_146 h
                          obtain ⟨g146, eg146, h⟩ := k_lp_s h
                          rw [← eg146] at ih146
                          rw [eb146] at h
                          refine k_iload_n C dX12_image_146 1 rfl ?_
                          refine k_sipush C dX12_image_147 (v := 640) rfl ?_
                          refine k_icmp_ge C dX12_image_150 (tgt := 171) (by decide) (fun c150 => ?_) (fun c150 => ?_)
                          · replace h := k_if_t h c150
                            refine k_aload_n C dX12_image_171 0 rfl ?_
                            refine k_aload_n C dX12_image_172 0 rfl ?_
                            refine k_get C dX12_image_173 (k_gM0_26 w) k_fX12_315 (Or.inl rfl) ?_
                            obtain ⟨r176, h⟩ := k_gd_e h
                            refine k_puti C dX12_image_176 (k_pM0_68 w) k_fX12_506 (Or.inl rfl) (k_xz r176) ?_
                            refine k_st (fun s176 es176 => ?_)
                            replace h := k_nm_e h s176 es176
                            refine k_aload_n C dX12_image_179 0 rfl ?_
                            refine k_aload_n C dX12_image_180 0 rfl ?_
                            refine k_get C dX12_image_181 (k_gM0_27 w) k_fX12_319 (Or.inl rfl) ?_
                            obtain ⟨r184, h⟩ := k_gd_e h
                            refine k_puti C dX12_image_184 (k_pM0_69 w) k_fX12_509 (Or.inl rfl) (k_xz r184) ?_
                            refine k_st (fun s184 es184 => ?_)
                            replace h := k_nm_e h s184 es184
                            refine k_aload_n C dX12_image_187 0 rfl ?_
                            refine k_aload_n C dX12_image_188 0 rfl ?_
                            refine k_get C dX12_image_189 (k_gM0_59 w) k_fX12_331 (Or.inl rfl) ?_
                            refine k_puti C dX12_image_192 (k_pM0_71 w) k_fX12_512 (Or.inl rfl) k_xi ?_
                            refine k_st (fun s192 es192 => ?_)
                            replace h := k_nm_e h s192 es192
                            refine k_aload_n C dX12_image_195 0 rfl ?_
                            refine k_aload_n C dX12_image_196 0 rfl ?_
                            refine k_get C dX12_image_197 (k_gM0_23 w) k_fX12_312 (Or.inl rfl) ?_
                            refine k_puti C dX12_image_200 (k_pM0_67 w) k_fX12_515 (Or.inl rfl) k_xi ?_
                            refine k_st (fun s200 es200 => ?_)
                            replace h := k_nm_e h s200 es200
                            refine k_aload_n C dX12_image_203 0 rfl ?_
                            refine k_aload_n C dX12_image_204 0 rfl ?_
                            refine k_get C dX12_image_205 (k_gM0_60 w) k_fX12_495 (Or.inl rfl) ?_
                            refine k_putl C dX12_image_208 (k_pM0_72 w) k_fX12_518 rfl ?_
                            refine k_st (fun s208 es208 => ?_)
                            replace h := k_nm_e h s208 es208
                            refine k_aload_n C dX12_image_211 0 rfl ?_
                            refine k_iconst C dX12_image_212 (v := 1) rfl ?_
                            refine k_puti C dX12_image_213 (k_pM0_70 w) k_fX12_334 (Or.inl rfl) (k_xz rfl) ?_
                            refine k_st (fun s213 es213 => ?_)
                            replace h := k_nm_e h s213 es213
                            refine k_aload_n C dX12_image_216 0 rfl ?_
                            refine k_get C dX12_image_217 (k_gM0_59 w) k_fX12_331 (Or.inl rfl) ?_
                            exact k_iret C dX12_image_220 hr (Option.some.inj h)
                          · replace h := k_if_f h c150
                            refine k_aload_n C dX12_image_153 0 rfl ?_
                            refine k_get C dX12_image_154 (k_gM0_64 w) k_fX12_145 (Or.inl rfl) ?_
                            refine k_iload_n C dX12_image_157 1 rfl ?_
                            refine k_aload_n C dX12_image_158 0 rfl ?_
                            refine k_get C dX12_image_159 (k_gM0_57 w) k_fX12_130 (Or.inl rfl) ?_
                            refine k_iload_n C dX12_image_162 1 rfl ?_
                            obtain ⟨q163, h⟩ := k_gd_e h
                            refine k_iald C dX12_image_163 (k_aM39 w) q163 ?_
                            obtain ⟨q164, h⟩ := k_gd_e h
                            refine k_iast C dX12_image_164 (k_aM44 w) q164 ?_
                            refine k_st (fun s164 es164 => ?_)
                            replace h := k_nm_e h s164 es164
                            refine k_iinc C dX12_image_165 1 rfl (v := 1) rfl (by decide) [1, 0] (L' := fun z9 => [(0, .ref (w.2.1 0)), (1, .int z9)]) (fun z9 => rfl) (fun y165 ey165 => ?_)
                            replace h := k_nm_e h y165 ey165
                            refine k_goto C dX12_image_168 (tgt := 146) (by decide) ?_
                            exact ih146 _ _ h
                      exact K146 _ _ _ h
                    · replace h := k_if_f h c65
                      refine k_aload_n C dX12_image_68 0 rfl ?_
                      refine k_get C dX12_image_69 (k_gM0_63 w) k_fX12_142 (Or.inl rfl) ?_
                      refine k_iconst C dX12_image_72 (v := 3) rfl ?_
                      refine k_iload_n C dX12_image_73 1 rfl ?_
                      refine k_imul C dX12_image_74 ?_
                      refine k_aload_n C dX12_image_75 0 rfl ?_
                      refine k_get C dX12_image_76 (k_gM0_53 w) k_fX12_118 (Or.inl rfl) ?_
                      refine k_iload_n C dX12_image_79 1 rfl ?_
                      obtain ⟨q80, h⟩ := k_gd_e h
                      refine k_iald C dX12_image_80 (k_aM35 w) q80 ?_
                      obtain ⟨q81, h⟩ := k_gd_e h
                      refine k_iast C dX12_image_81 (k_aM43 w) q81 ?_
                      refine k_st (fun s81 es81 => ?_)
                      replace h := k_nm_e h s81 es81
                      refine k_aload_n C dX12_image_82 0 rfl ?_
                      refine k_get C dX12_image_83 (k_gM0_63 w) k_fX12_142 (Or.inl rfl) ?_
                      refine k_iconst C dX12_image_86 (v := 3) rfl ?_
                      refine k_iload_n C dX12_image_87 1 rfl ?_
                      refine k_imul C dX12_image_88 ?_
                      refine k_iconst C dX12_image_89 (v := 1) rfl ?_
                      refine k_iadd C dX12_image_90 ?_
                      refine k_aload_n C dX12_image_91 0 rfl ?_
                      refine k_get C dX12_image_92 (k_gM0_54 w) k_fX12_121 (Or.inl rfl) ?_
                      refine k_iload_n C dX12_image_95 1 rfl ?_
                      obtain ⟨q96, h⟩ := k_gd_e h
                      refine k_iald C dX12_image_96 (k_aM36 w) q96 ?_
                      obtain ⟨q97, h⟩ := k_gd_e h
                      refine k_iast C dX12_image_97 (k_aM43 w) q97 ?_
                      refine k_st (fun s97 es97 => ?_)
                      replace h := k_nm_e h s97 es97
                      refine k_aload_n C dX12_image_98 0 rfl ?_
                      refine k_get C dX12_image_99 (k_gM0_63 w) k_fX12_142 (Or.inl rfl) ?_
                      refine k_iconst C dX12_image_102 (v := 3) rfl ?_
                      refine k_iload_n C dX12_image_103 1 rfl ?_
                      refine k_imul C dX12_image_104 ?_
                      refine k_iconst C dX12_image_105 (v := 2) rfl ?_
                      refine k_iadd C dX12_image_106 ?_
                      refine k_aload_n C dX12_image_107 0 rfl ?_
                      refine k_get C dX12_image_108 (k_gM0_55 w) k_fX12_124 (Or.inl rfl) ?_
                      refine k_iload_n C dX12_image_111 1 rfl ?_
                      obtain ⟨q112, h⟩ := k_gd_e h
                      refine k_iald C dX12_image_112 (k_aM37 w) q112 ?_
                      obtain ⟨q113, h⟩ := k_gd_e h
                      refine k_iast C dX12_image_113 (k_aM43 w) q113 ?_
                      refine k_st (fun s113 es113 => ?_)
                      replace h := k_nm_e h s113 es113
                      refine k_aload_n C dX12_image_114 0 rfl ?_
                      refine k_get C dX12_image_115 (k_gM0_65 w) k_fX12_148 (Or.inl rfl) ?_
                      refine k_iload_n C dX12_image_118 1 rfl ?_
                      refine k_aload_n C dX12_image_119 0 rfl ?_
                      refine k_get C dX12_image_120 (k_gM0_56 w) k_fX12_127 (Or.inl rfl) ?_
                      refine k_iload_n C dX12_image_123 1 rfl ?_
                      obtain ⟨q124, h⟩ := k_gd_e h
                      refine k_lald C dX12_image_124 (k_aM38 w) q124 ?_
                      obtain ⟨q125, h⟩ := k_gd_e h
                      refine k_last C dX12_image_125 (k_aM45 w) q125 ?_
                      refine k_st (fun s125 es125 => ?_)
                      replace h := k_nm_e h s125 es125
                      refine k_aload_n C dX12_image_126 0 rfl ?_
                      refine k_get C dX12_image_127 (k_gM0_66 w) k_fX12_151 (Or.inl rfl) ?_
                      refine k_iload_n C dX12_image_130 1 rfl ?_
                      refine k_aload_n C dX12_image_131 0 rfl ?_
                      refine k_get C dX12_image_132 (k_gM0_58 w) k_fX12_133 (Or.inl rfl) ?_
                      refine k_iload_n C dX12_image_135 1 rfl ?_
                      obtain ⟨q136, h⟩ := k_gd_e h
                      refine k_iald C dX12_image_136 (k_aM40 w) q136 ?_
                      obtain ⟨q137, h⟩ := k_gd_e h
                      refine k_iast C dX12_image_137 (k_aM46 w) q137 ?_
                      refine k_st (fun s137 es137 => ?_)
                      replace h := k_nm_e h s137 es137
                      refine k_iinc C dX12_image_138 1 rfl (v := 1) rfl (by decide) [1, 0] (L' := fun z9 => [(0, .ref (w.2.1 0)), (1, .int z9)]) (fun z9 => rfl) (fun y138 ey138 => ?_)
                      replace h := k_nm_e h y138 ey138
                      refine k_goto C dX12_image_141 (tgt := 62) (by decide) ?_
                      exact ih62 _ _ h
                exact K62 _ _ _ h
              · replace h := k_if_f h c39
                refine k_aload_n C dX12_image_42 0 rfl ?_
                refine k_get C dX12_image_43 (k_gM0_62 w) k_fX12_139 (Or.inl rfl) ?_
                refine k_iload_n C dX12_image_46 1 rfl ?_
                refine k_aload_n C dX12_image_47 0 rfl ?_
                refine k_get C dX12_image_48 (k_gM0_25 w) k_fX12_52 (Or.inl rfl) ?_
                refine k_iload_n C dX12_image_51 1 rfl ?_
                obtain ⟨q52, h⟩ := k_gd_e h
                refine k_iald C dX12_image_52 (k_aM15 w) q52 ?_
                obtain ⟨q53, h⟩ := k_gd_e h
                refine k_iast C dX12_image_53 (k_aM42 w) q53 ?_
                refine k_st (fun s53 es53 => ?_)
                replace h := k_nm_e h s53 es53
                refine k_iinc C dX12_image_54 1 rfl (v := 1) rfl (by decide) [1, 0] (L' := fun z9 => [(0, .ref (w.2.1 0)), (1, .int z9)]) (fun z9 => rfl) (fun y54 ey54 => ?_)
                replace h := k_nm_e h y54 ey54
                refine k_goto C dX12_image_57 (tgt := 36) (by decide) ?_
                exact ih36 _ _ h
          exact K36 _ _ _ h
        · replace h := k_if_f h c13
          refine k_aload_n C dX12_image_16 0 rfl ?_
          refine k_get C dX12_image_17 (k_gM0_61 w) k_fX12_136 (Or.inl rfl) ?_
          refine k_iload_n C dX12_image_20 1 rfl ?_
          refine k_aload_n C dX12_image_21 0 rfl ?_
          refine k_get C dX12_image_22 (k_gM0_24 w) k_fX12_49 (Or.inl rfl) ?_
          refine k_iload_n C dX12_image_25 1 rfl ?_
          obtain ⟨q26, h⟩ := k_gd_e h
          refine k_iald C dX12_image_26 (k_aM14 w) q26 ?_
          obtain ⟨q27, h⟩ := k_gd_e h
          refine k_iast C dX12_image_27 (k_aM41 w) q27 ?_
          refine k_st (fun s27 es27 => ?_)
          replace h := k_nm_e h s27 es27
          refine k_iinc C dX12_image_28 1 rfl (v := 1) rfl (by decide) [1, 0] (L' := fun z9 => [(0, .ref (w.2.1 0)), (1, .int z9)]) (fun z9 => rfl) (fun y28 ey28 => ?_)
          replace h := k_nm_e h y28 ey28
          refine k_goto C dX12_image_31 (tgt := 11) (by decide) ?_
          exact ih11 _ _ h
    exact K11 _ _ _ h
  · replace h := k_if_t h c4
    refine k_iconst C dX12_image_7 (v := -1) rfl ?_
    exact k_iret C dX12_image_8 hr (Option.some.inj h)
def f_X12_back  (σ : k_St) : Option (Int32 × k_St) :=
  k_if ((k_rd σ 0 70) = (0 : Int32))
    (some ((-1 : Int32), σ))
    (k_loop (fun (g11 : Int32 × k_St → Option (Int32 × k_St)) (z11 : Int32 × k_St) => match z11 with
      | (v1_11, s_11) =>
        k_if ((4 : Int32) ≤ v1_11)
          (k_loop (fun (g36 : Int32 × k_St → Option (Int32 × k_St)) (z36 : Int32 × k_St) => match z36 with
            | (v1_36, s_36) =>
              k_if ((16 : Int32) ≤ v1_36)
                (k_loop (fun (g62 : Int32 × k_St → Option (Int32 × k_St)) (z62 : Int32 × k_St) => match z62 with
                  | (v1_62, s_62) =>
                    k_if ((40 : Int32) ≤ v1_62)
                      (k_loop (fun (g146 : Int32 × k_St → Option (Int32 × k_St)) (z146 : Int32 × k_St) => match z146 with
                        | (v1_146, s_146) =>
                          k_if ((640 : Int32) ≤ v1_146)
                            (k_gd (o_isB (k_rd s_146 0 68) = true) <|
                            k_nm (k_wr s_146 0 26 (k_rd s_146 0 68)) fun s176 =>
                            k_gd (o_isB (k_rd s176 0 69) = true) <|
                            k_nm (k_wr s176 0 27 (k_rd s176 0 69)) fun s184 =>
                            k_nm (k_wr s184 0 59 (k_rd s184 0 71)) fun s192 =>
                            k_nm (k_wr s192 0 23 (k_rd s192 0 67)) fun s200 =>
                            k_nm (k_wl s200 0 60 (k_rl s200 0 72)) fun s208 =>
                            some ((k_rd s208 0 59), s208))
                            (k_gd (k_ix v1_146 640 = true) <|
                            k_gd (k_ix v1_146 640 = true) <|
                            k_nm (k_wr s_146 39 v1_146.toNatClampNeg (k_rd s_146 44 v1_146.toNatClampNeg)) fun s164 =>
                            k_nm (v1_146 + (1 : Int32)) fun y165 =>
                            g146 (y165, s164))) 100000 ((0 : Int32), s_62))
                      (k_gd (k_ix ((3 : Int32) * v1_62) 120 = true) <|
                      k_gd (k_ix v1_62 40 = true) <|
                      k_nm (k_wr s_62 35 v1_62.toNatClampNeg (k_rd s_62 43 ((3 : Int32) * v1_62).toNatClampNeg)) fun s81 =>
                      k_gd (k_ix (((3 : Int32) * v1_62) + (1 : Int32)) 120 = true) <|
                      k_gd (k_ix v1_62 40 = true) <|
                      k_nm (k_wr s81 36 v1_62.toNatClampNeg (k_rd s81 43 (((3 : Int32) * v1_62) + (1 : Int32)).toNatClampNeg)) fun s97 =>
                      k_gd (k_ix (((3 : Int32) * v1_62) + (2 : Int32)) 120 = true) <|
                      k_gd (k_ix v1_62 40 = true) <|
                      k_nm (k_wr s97 37 v1_62.toNatClampNeg (k_rd s97 43 (((3 : Int32) * v1_62) + (2 : Int32)).toNatClampNeg)) fun s113 =>
                      k_gd (k_ix v1_62 40 = true) <|
                      k_gd (k_ix v1_62 40 = true) <|
                      k_nm (k_wl s113 38 v1_62.toNatClampNeg (k_rl s113 45 v1_62.toNatClampNeg)) fun s125 =>
                      k_gd (k_ix v1_62 40 = true) <|
                      k_gd (k_ix v1_62 40 = true) <|
                      k_nm (k_wr s125 40 v1_62.toNatClampNeg (k_rd s125 46 v1_62.toNatClampNeg)) fun s137 =>
                      k_nm (v1_62 + (1 : Int32)) fun y138 =>
                      g62 (y138, s137))) 100000 ((0 : Int32), s_36))
                (k_gd (k_ix v1_36 16 = true) <|
                k_gd (k_ix v1_36 16 = true) <|
                k_nm (k_wr s_36 15 v1_36.toNatClampNeg (k_rd s_36 42 v1_36.toNatClampNeg)) fun s53 =>
                k_nm (v1_36 + (1 : Int32)) fun y54 =>
                g36 (y54, s53))) 100000 ((0 : Int32), s_11))
          (k_gd (k_ix v1_11 4 = true) <|
          k_gd (k_ix v1_11 4 = true) <|
          k_nm (k_wr s_11 14 v1_11.toNatClampNeg (k_rd s_11 41 v1_11.toNatClampNeg)) fun s27 =>
          k_nm (v1_11 + (1 : Int32)) fun y28 =>
          g11 (y28, s27))) 100000 ((0 : Int32), σ))
set_option maxHeartbeats 4000000 in
set_option maxRecDepth 100000 in
theorem e_X12_back {l : Launch} {w : k_WC} {d : Nat} (hd : 2 ≤ d)   {σ σ' : k_St} {r : Int32} (h : f_X12_back σ = some (r, σ')) : k_EI l (k_PM w) yX12_back cX12_back 2 (some .int) d [.ref (w.2.1 0)] σ r σ' := by
  refine k_of (own := RX12) rfl (by decide) (Nat.le_of_ble_eq_true rfl) (fun X hX C hr => ?_)
  show k_K (k_PM w) X (k_MQ X (k_Qi (k_PM w) r σ') (k_PM w).2.2.1) 0 [(0, .ref (w.2.1 0))] [] σ
  unfold f_X12_back at h
  refine k_aload_n C dX12_back_0 0 rfl ?_
  refine k_get C dX12_back_1 (k_gM0_70 w) k_fX12_334 (Or.inl rfl) ?_
  refine k_if_ne C dX12_back_4 (tgt := 9) (by decide) (fun c4 => ?_) (fun c4 => ?_)
  · replace h := k_if_f h c4
    refine k_iconst C dX12_back_9 (v := 0) rfl ?_
    refine k_istore_n C dX12_back_10 (by decide) [1, 0] (L' := [(0, .ref (w.2.1 0)), (1, .int (0 : Int32))]) rfl ?_
    obtain ⟨b11, eb11, h⟩ := k_lp_e h
    have K11 : ∀ (n : Nat) (v1_11 : Int32) (s_11 : k_St), k_loop b11 n (v1_11, s_11) = some (r, σ') → k_K (k_PM w) X (k_MQ X (k_Qi (k_PM w) r σ') (k_PM w).2.2.1) 11 [(0, .ref (w.2.1 0)), (1, .int v1_11)] [] s_11 := by
      intro n
      induction n with
      | zero => intro v1_11 s_11 h; cases h
      | succ n ih11 =>
        intro v1_11 s_11 h
        obtain ⟨g11, eg11, h⟩ := k_lp_s h
        rw [← eg11] at ih11
        rw [eb11] at h
        refine k_iload_n C dX12_back_11 1 rfl ?_
        refine k_iconst C dX12_back_12 (v := 4) rfl ?_
        refine k_icmp_ge C dX12_back_13 (tgt := 34) (by decide) (fun c13 => ?_) (fun c13 => ?_)
        · replace h := k_if_t h c13
          refine k_iconst C dX12_back_34 (v := 0) rfl ?_
          refine k_istore_n C dX12_back_35 (by decide) [1, 0] (L' := [(0, .ref (w.2.1 0)), (1, .int (0 : Int32))]) rfl ?_
          obtain ⟨b36, eb36, h⟩ := k_lp_e h
          have K36 : ∀ (n : Nat) (v1_36 : Int32) (s_36 : k_St), k_loop b36 n (v1_36, s_36) = some (r, σ') → k_K (k_PM w) X (k_MQ X (k_Qi (k_PM w) r σ') (k_PM w).2.2.1) 36 [(0, .ref (w.2.1 0)), (1, .int v1_36)] [] s_36 := by
            intro n
            induction n with
            | zero => intro v1_36 s_36 h; cases h
            | succ n ih36 =>
              intro v1_36 s_36 h
              obtain ⟨g36, eg36, h⟩ := k_lp_s h
              rw [← eg36] at ih36
              rw [eb36] at h
              refine k_iload_n C dX12_back_36 1 rfl ?_
              refine k_bipush C dX12_back_37 (v := 16) rfl ?_
              refine k_icmp_ge C dX12_back_39 (tgt := 60) (by decide) (fun c39 => ?_) (fun c39 => ?_)
              · replace h := k_if_t h c39
                refine k_iconst C dX12_back_60 (v := 0) rfl ?_
                refine k_istore_n C dX12_back_61 (by decide) [1, 0] (L' := [(0, .ref (w.2.1 0)), (1, .int (0 : Int32))]) rfl ?_
                obtain ⟨b62, eb62, h⟩ := k_lp_e h
                have K62 : ∀ (n : Nat) (v1_62 : Int32) (s_62 : k_St), k_loop b62 n (v1_62, s_62) = some (r, σ') → k_K (k_PM w) X (k_MQ X (k_Qi (k_PM w) r σ') (k_PM w).2.2.1) 62 [(0, .ref (w.2.1 0)), (1, .int v1_62)] [] s_62 := by
                  intro n
                  induction n with
                  | zero => intro v1_62 s_62 h; cases h
                  | succ n ih62 =>
                    intro v1_62 s_62 h
                    obtain ⟨g62, eg62, h⟩ := k_lp_s h
                    rw [← eg62] at ih62
                    rw [eb62] at h
                    refine k_iload_n C dX12_back_62 1 rfl ?_
                    refine k_bipush C dX12_back_63 (v := 40) rfl ?_
                    refine k_icmp_ge C dX12_back_65 (tgt := 144) (by decide) (fun c65 => ?_) (fun c65 => ?_)
                    · replace h := k_if_t h c65
                      refine k_iconst C dX12_back_144 (v := 0) rfl ?_
                      refine k_istore_n C dX12_back_145 (by decide) [1, 0] (L' := [(0, .ref (w.2.1 0)), (1, .int (0 : Int32))]) rfl ?_
                      obtain ⟨b146, eb146, h⟩ := k_lp_e h
                      have K146 : ∀ (n : Nat) (v1_146 : Int32) (s_146 : k_St), k_loop b146 n (v1_146, s_146) = some (r, σ') → k_K (k_PM w) X (k_MQ X (k_Qi (k_PM w) r σ') (k_PM w).2.2.1) 146 [(0, .ref (w.2.1 0)), (1, .int v1_146)] [] s_146 := by
                        intro n
                        induction n with
                        | zero => intro v1_146 s_146 h; cases h
                        | succ n ih146 =>
                          intro v1_146 s_146 h
                          obtain ⟨g146, eg146, h⟩ := k_lp_s h
                          rw [← eg146] at ih146
                          rw [eb146] at h
                          refine k_iload_n C dX12_back_146 1 rfl ?_
                          refine k_sipush C dX12_back_147 (v := 640) rfl ?_
                          refine k_icmp_ge C dX12_back_150 (tgt := 171) (by decide) (fun c150 => ?_) (fun c150 => ?_)
                          · replace h := k_if_t h c150
                            refine k_aload_n C dX12_back_171 0 rfl ?_
                            refine k_aload_n C dX12_back_172 0 rfl ?_
                            refine k_get C dX12_back_173 (k_gM0_68 w) k_fX12_506 (Or.inl rfl) ?_
                            obtain ⟨r176, h⟩ := k_gd_e h
                            refine k_puti C dX12_back_176 (k_pM0_26 w) k_fX12_315 (Or.inl rfl) (k_xz r176) ?_
                            refine k_st (fun s176 es176 => ?_)
                            replace h := k_nm_e h s176 es176
                            refine k_aload_n C dX12_back_179 0 rfl ?_
                            refine k_aload_n C dX12_back_180 0 rfl ?_
                            refine k_get C dX12_back_181 (k_gM0_69 w) k_fX12_509 (Or.inl rfl) ?_
                            obtain ⟨r184, h⟩ := k_gd_e h
                            refine k_puti C dX12_back_184 (k_pM0_27 w) k_fX12_319 (Or.inl rfl) (k_xz r184) ?_
                            refine k_st (fun s184 es184 => ?_)
                            replace h := k_nm_e h s184 es184
                            refine k_aload_n C dX12_back_187 0 rfl ?_
                            refine k_aload_n C dX12_back_188 0 rfl ?_
                            refine k_get C dX12_back_189 (k_gM0_71 w) k_fX12_512 (Or.inl rfl) ?_
                            refine k_puti C dX12_back_192 (k_pM0_59 w) k_fX12_331 (Or.inl rfl) k_xi ?_
                            refine k_st (fun s192 es192 => ?_)
                            replace h := k_nm_e h s192 es192
                            refine k_aload_n C dX12_back_195 0 rfl ?_
                            refine k_aload_n C dX12_back_196 0 rfl ?_
                            refine k_get C dX12_back_197 (k_gM0_67 w) k_fX12_515 (Or.inl rfl) ?_
                            refine k_puti C dX12_back_200 (k_pM0_23 w) k_fX12_312 (Or.inl rfl) k_xi ?_
                            refine k_st (fun s200 es200 => ?_)
                            replace h := k_nm_e h s200 es200
                            refine k_aload_n C dX12_back_203 0 rfl ?_
                            refine k_aload_n C dX12_back_204 0 rfl ?_
                            refine k_get C dX12_back_205 (k_gM0_72 w) k_fX12_518 (Or.inl rfl) ?_
                            refine k_putl C dX12_back_208 (k_pM0_60 w) k_fX12_495 rfl ?_
                            refine k_st (fun s208 es208 => ?_)
                            replace h := k_nm_e h s208 es208
                            refine k_aload_n C dX12_back_211 0 rfl ?_
                            refine k_get C dX12_back_212 (k_gM0_59 w) k_fX12_331 (Or.inl rfl) ?_
                            exact k_iret C dX12_back_215 hr (Option.some.inj h)
                          · replace h := k_if_f h c150
                            refine k_aload_n C dX12_back_153 0 rfl ?_
                            refine k_get C dX12_back_154 (k_gM0_57 w) k_fX12_130 (Or.inl rfl) ?_
                            refine k_iload_n C dX12_back_157 1 rfl ?_
                            refine k_aload_n C dX12_back_158 0 rfl ?_
                            refine k_get C dX12_back_159 (k_gM0_64 w) k_fX12_145 (Or.inl rfl) ?_
                            refine k_iload_n C dX12_back_162 1 rfl ?_
                            obtain ⟨q163, h⟩ := k_gd_e h
                            refine k_iald C dX12_back_163 (k_aM44 w) q163 ?_
                            obtain ⟨q164, h⟩ := k_gd_e h
                            refine k_iast C dX12_back_164 (k_aM39 w) q164 ?_
                            refine k_st (fun s164 es164 => ?_)
                            replace h := k_nm_e h s164 es164
                            refine k_iinc C dX12_back_165 1 rfl (v := 1) rfl (by decide) [1, 0] (L' := fun z9 => [(0, .ref (w.2.1 0)), (1, .int z9)]) (fun z9 => rfl) (fun y165 ey165 => ?_)
                            replace h := k_nm_e h y165 ey165
                            refine k_goto C dX12_back_168 (tgt := 146) (by decide) ?_
                            exact ih146 _ _ h
                      exact K146 _ _ _ h
                    · replace h := k_if_f h c65
                      refine k_aload_n C dX12_back_68 0 rfl ?_
                      refine k_get C dX12_back_69 (k_gM0_53 w) k_fX12_118 (Or.inl rfl) ?_
                      refine k_iload_n C dX12_back_72 1 rfl ?_
                      refine k_aload_n C dX12_back_73 0 rfl ?_
                      refine k_get C dX12_back_74 (k_gM0_63 w) k_fX12_142 (Or.inl rfl) ?_
                      refine k_iconst C dX12_back_77 (v := 3) rfl ?_
                      refine k_iload_n C dX12_back_78 1 rfl ?_
                      refine k_imul C dX12_back_79 ?_
                      obtain ⟨q80, h⟩ := k_gd_e h
                      refine k_iald C dX12_back_80 (k_aM43 w) q80 ?_
                      obtain ⟨q81, h⟩ := k_gd_e h
                      refine k_iast C dX12_back_81 (k_aM35 w) q81 ?_
                      refine k_st (fun s81 es81 => ?_)
                      replace h := k_nm_e h s81 es81
                      refine k_aload_n C dX12_back_82 0 rfl ?_
                      refine k_get C dX12_back_83 (k_gM0_54 w) k_fX12_121 (Or.inl rfl) ?_
                      refine k_iload_n C dX12_back_86 1 rfl ?_
                      refine k_aload_n C dX12_back_87 0 rfl ?_
                      refine k_get C dX12_back_88 (k_gM0_63 w) k_fX12_142 (Or.inl rfl) ?_
                      refine k_iconst C dX12_back_91 (v := 3) rfl ?_
                      refine k_iload_n C dX12_back_92 1 rfl ?_
                      refine k_imul C dX12_back_93 ?_
                      refine k_iconst C dX12_back_94 (v := 1) rfl ?_
                      refine k_iadd C dX12_back_95 ?_
                      obtain ⟨q96, h⟩ := k_gd_e h
                      refine k_iald C dX12_back_96 (k_aM43 w) q96 ?_
                      obtain ⟨q97, h⟩ := k_gd_e h
                      refine k_iast C dX12_back_97 (k_aM36 w) q97 ?_
                      refine k_st (fun s97 es97 => ?_)
                      replace h := k_nm_e h s97 es97
                      refine k_aload_n C dX12_back_98 0 rfl ?_
                      refine k_get C dX12_back_99 (k_gM0_55 w) k_fX12_124 (Or.inl rfl) ?_
                      refine k_iload_n C dX12_back_102 1 rfl ?_
                      refine k_aload_n C dX12_back_103 0 rfl ?_
                      refine k_get C dX12_back_104 (k_gM0_63 w) k_fX12_142 (Or.inl rfl) ?_
                      refine k_iconst C dX12_back_107 (v := 3) rfl ?_
                      refine k_iload_n C dX12_back_108 1 rfl ?_
                      refine k_imul C dX12_back_109 ?_
                      refine k_iconst C dX12_back_110 (v := 2) rfl ?_
                      refine k_iadd C dX12_back_111 ?_
                      obtain ⟨q112, h⟩ := k_gd_e h
                      refine k_iald C dX12_back_112 (k_aM43 w) q112 ?_
                      obtain ⟨q113, h⟩ := k_gd_e h
                      refine k_iast C dX12_back_113 (k_aM37 w) q113 ?_
                      refine k_st (fun s113 es113 => ?_)
                      replace h := k_nm_e h s113 es113
                      refine k_aload_n C dX12_back_114 0 rfl ?_
                      refine k_get C dX12_back_115 (k_gM0_56 w) k_fX12_127 (Or.inl rfl) ?_
                      refine k_iload_n C dX12_back_118 1 rfl ?_
                      refine k_aload_n C dX12_back_119 0 rfl ?_
                      refine k_get C dX12_back_120 (k_gM0_65 w) k_fX12_148 (Or.inl rfl) ?_
                      refine k_iload_n C dX12_back_123 1 rfl ?_
                      obtain ⟨q124, h⟩ := k_gd_e h
                      refine k_lald C dX12_back_124 (k_aM45 w) q124 ?_
                      obtain ⟨q125, h⟩ := k_gd_e h
                      refine k_last C dX12_back_125 (k_aM38 w) q125 ?_
                      refine k_st (fun s125 es125 => ?_)
                      replace h := k_nm_e h s125 es125
                      refine k_aload_n C dX12_back_126 0 rfl ?_
                      refine k_get C dX12_back_127 (k_gM0_58 w) k_fX12_133 (Or.inl rfl) ?_
                      refine k_iload_n C dX12_back_130 1 rfl ?_
                      refine k_aload_n C dX12_back_131 0 rfl ?_
                      refine k_get C dX12_back_132 (k_gM0_66 w) k_fX12_151 (Or.inl rfl) ?_
                      refine k_iload_n C dX12_back_135 1 rfl ?_
                      obtain ⟨q136, h⟩ := k_gd_e h
                      refine k_iald C dX12_back_136 (k_aM46 w) q136 ?_
                      obtain ⟨q137, h⟩ := k_gd_e h
                      refine k_iast C dX12_back_137 (k_aM40 w) q137 ?_
                      refine k_st (fun s137 es137 => ?_)
                      replace h := k_nm_e h s137 es137
                      refine k_iinc C dX12_back_138 1 rfl (v := 1) rfl (by decide) [1, 0] (L' := fun z9 => [(0, .ref (w.2.1 0)), (1, .int z9)]) (fun z9 => rfl) (fun y138 ey138 => ?_)
                      replace h := k_nm_e h y138 ey138
                      refine k_goto C dX12_back_141 (tgt := 62) (by decide) ?_
                      exact ih62 _ _ h
                exact K62 _ _ _ h
              · replace h := k_if_f h c39
                refine k_aload_n C dX12_back_42 0 rfl ?_
                refine k_get C dX12_back_43 (k_gM0_25 w) k_fX12_52 (Or.inl rfl) ?_
                refine k_iload_n C dX12_back_46 1 rfl ?_
                refine k_aload_n C dX12_back_47 0 rfl ?_
                refine k_get C dX12_back_48 (k_gM0_62 w) k_fX12_139 (Or.inl rfl) ?_
                refine k_iload_n C dX12_back_51 1 rfl ?_
                obtain ⟨q52, h⟩ := k_gd_e h
                refine k_iald C dX12_back_52 (k_aM42 w) q52 ?_
                obtain ⟨q53, h⟩ := k_gd_e h
                refine k_iast C dX12_back_53 (k_aM15 w) q53 ?_
                refine k_st (fun s53 es53 => ?_)
                replace h := k_nm_e h s53 es53
                refine k_iinc C dX12_back_54 1 rfl (v := 1) rfl (by decide) [1, 0] (L' := fun z9 => [(0, .ref (w.2.1 0)), (1, .int z9)]) (fun z9 => rfl) (fun y54 ey54 => ?_)
                replace h := k_nm_e h y54 ey54
                refine k_goto C dX12_back_57 (tgt := 36) (by decide) ?_
                exact ih36 _ _ h
          exact K36 _ _ _ h
        · replace h := k_if_f h c13
          refine k_aload_n C dX12_back_16 0 rfl ?_
          refine k_get C dX12_back_17 (k_gM0_24 w) k_fX12_49 (Or.inl rfl) ?_
          refine k_iload_n C dX12_back_20 1 rfl ?_
          refine k_aload_n C dX12_back_21 0 rfl ?_
          refine k_get C dX12_back_22 (k_gM0_61 w) k_fX12_136 (Or.inl rfl) ?_
          refine k_iload_n C dX12_back_25 1 rfl ?_
          obtain ⟨q26, h⟩ := k_gd_e h
          refine k_iald C dX12_back_26 (k_aM41 w) q26 ?_
          obtain ⟨q27, h⟩ := k_gd_e h
          refine k_iast C dX12_back_27 (k_aM14 w) q27 ?_
          refine k_st (fun s27 es27 => ?_)
          replace h := k_nm_e h s27 es27
          refine k_iinc C dX12_back_28 1 rfl (v := 1) rfl (by decide) [1, 0] (L' := fun z9 => [(0, .ref (w.2.1 0)), (1, .int z9)]) (fun z9 => rfl) (fun y28 ey28 => ?_)
          replace h := k_nm_e h y28 ey28
          refine k_goto C dX12_back_31 (tgt := 11) (by decide) ?_
          exact ih11 _ _ h
    exact K11 _ _ _ h
  · replace h := k_if_t h c4
    refine k_iconst C dX12_back_7 (v := -1) rfl ?_
    exact k_iret C dX12_back_8 hr (Option.some.inj h)
def f_X12_caughtInAll  (σ : k_St) : Option (Int32) :=
  k_loop (fun (g4 : Int32 × Int32 → Option (Int32)) (z4 : Int32 × Int32) => match z4 with
    | (v1_4, v2_4) =>
      k_if ((k_rd σ 0 59) ≤ v2_4)
        (some v1_4)
        (k_gd (k_ix v2_4 40 = true) <|
        k_nm ((v1_4 + (k_rd σ 37 v2_4.toNatClampNeg))) fun y20 =>
        k_nm (v2_4 + (1 : Int32)) fun y21 =>
        g4 (y20, y21))) 100000 ((0 : Int32), (0 : Int32))
set_option maxHeartbeats 4000000 in
set_option maxRecDepth 100000 in
theorem e_X12_caughtInAll {l : Launch} {w : k_WC} {d : Nat} (hd : 2 ≤ d)   {σ : k_St} {r : Int32} (h : f_X12_caughtInAll σ = some r) : k_EI l (k_PM w) yX12_caughtInAll cX12_caughtInAll 3 (some .int) d [.ref (w.2.1 0)] σ r σ := by
  refine k_of (own := RX12) rfl (by decide) (Nat.le_of_ble_eq_true rfl) (fun X hX C hr => ?_)
  show k_K (k_PM w) X (k_MQ X (k_Qi (k_PM w) r σ) (k_PM w).2.2.1) 0 [(0, .ref (w.2.1 0))] [] σ
  unfold f_X12_caughtInAll at h
  refine k_iconst C dX12_caughtInAll_0 (v := 0) rfl ?_
  refine k_istore_n C dX12_caughtInAll_1 (by decide) [1, 0] (L' := [(0, .ref (w.2.1 0)), (1, .int (0 : Int32))]) rfl ?_
  refine k_iconst C dX12_caughtInAll_2 (v := 0) rfl ?_
  refine k_istore_n C dX12_caughtInAll_3 (by decide) [1, 2, 0] (L' := [(0, .ref (w.2.1 0)), (1, .int (0 : Int32)), (2, .int (0 : Int32))]) rfl ?_
  obtain ⟨b4, eb4, h⟩ := k_lp_e h
  have K4 : ∀ (n : Nat) (v1_4 : Int32) (v2_4 : Int32), k_loop b4 n (v1_4, v2_4) = some r → k_K (k_PM w) X (k_MQ X (k_Qi (k_PM w) r σ) (k_PM w).2.2.1) 4 [(0, .ref (w.2.1 0)), (1, .int v1_4), (2, .int v2_4)] [] σ := by
    intro n
    induction n with
    | zero => intro v1_4 v2_4 h; cases h
    | succ n ih4 =>
      intro v1_4 v2_4 h
      obtain ⟨g4, eg4, h⟩ := k_lp_s h
      rw [← eg4] at ih4
      rw [eb4] at h
      refine k_iload_n C dX12_caughtInAll_4 2 rfl ?_
      refine k_aload_n C dX12_caughtInAll_5 0 rfl ?_
      refine k_get C dX12_caughtInAll_6 (k_gM0_59 w) k_fX12_331 (Or.inl rfl) ?_
      refine k_icmp_ge C dX12_caughtInAll_9 (tgt := 27) (by decide) (fun c9 => ?_) (fun c9 => ?_)
      · replace h := k_if_t h c9
        refine k_iload_n C dX12_caughtInAll_27 1 rfl ?_
        exact k_iret C dX12_caughtInAll_28 hr (k_p1 h)
      · replace h := k_if_f h c9
        refine k_iload_n C dX12_caughtInAll_12 1 rfl ?_
        refine k_aload_n C dX12_caughtInAll_13 0 rfl ?_
        refine k_get C dX12_caughtInAll_14 (k_gM0_55 w) k_fX12_124 (Or.inl rfl) ?_
        refine k_iload_n C dX12_caughtInAll_17 2 rfl ?_
        obtain ⟨q18, h⟩ := k_gd_e h
        refine k_iald C dX12_caughtInAll_18 (k_aM37 w) q18 ?_
        refine k_iadd C dX12_caughtInAll_19 ?_
        refine k_topi (fun y20 ey20 => ?_)
        replace h := k_nm_e h y20 ey20
        refine k_istore_n C dX12_caughtInAll_20 (by decide) [1, 0, 2] (L' := [(0, .ref (w.2.1 0)), (1, .int y20), (2, .int v2_4)]) rfl ?_
        refine k_iinc C dX12_caughtInAll_21 2 rfl (v := 1) rfl (by decide) [1, 2, 0] (L' := fun z9 => [(0, .ref (w.2.1 0)), (1, .int y20), (2, .int z9)]) (fun z9 => rfl) (fun y21 ey21 => ?_)
        replace h := k_nm_e h y21 ey21
        refine k_goto C dX12_caughtInAll_24 (tgt := 4) (by decide) ?_
        exact ih4 _ _ h
  exact K4 _ _ _ h
def f_X12_count (x1 : Int32) (σ : k_St) : Option (Int32) :=
  k_if (x1 = (0 : Int32))
    (some (k_rd σ 0 21))
    <|
  k_if (x1 = (1 : Int32))
    (some (k_rd σ 0 22))
    <|
  k_if (x1 = (2 : Int32))
    (some (k_rd σ 0 23))
    <|
  k_if (x1 = (3 : Int32))
    (some (k_rd σ 0 13))
    <|
  k_if (x1 = (4 : Int32))
    (some (k_rd σ 0 2))
    <|
  k_if (x1 = (5 : Int32))
    (k_bd (f_X12_packed 14 σ) fun v101 =>
    some v101)
    <|
  k_if (x1 = (6 : Int32))
    (k_if ((k_rd σ 0 26) = (0 : Int32))
      (some (0 : Int32))
      (some (1 : Int32)))
    <|
  k_if (x1 = (7 : Int32))
    (k_if ((k_rd σ 0 27) = (0 : Int32))
      (some (0 : Int32))
      (some (1 : Int32)))
    <|
  k_if (x1 = (8 : Int32))
    (k_if ((k_rd σ 0 28) = (0 : Int32))
      (some (0 : Int32))
      (some (1 : Int32)))
    <|
  k_if (x1 = (9 : Int32))
    (some (k_rd σ 0 52))
    <|
  k_if (x1 = (10 : Int32))
    (some (k_rd σ 0 59))
    <|
  k_if (x1 = (11 : Int32))
    (k_bd (f_X12_caughtInAll σ) fun v155 =>
    some v155)
    <|
  k_if (x1 = (12 : Int32))
    (some (k_rd σ 0 30))
    <|
  k_if (x1 = (13 : Int32))
    (k_if ((k_rd σ 0 29) = (0 : Int32))
      (some (0 : Int32))
      (some (1 : Int32)))
    <|
  some (-1000000 : Int32)
set_option maxHeartbeats 4000000 in
set_option maxRecDepth 100000 in
theorem e_X12_count {l : Launch} {w : k_WC} {d : Nat} (hd : 3 ≤ d) {x1 : Int32}  {σ : k_St} {r : Int32} (h : f_X12_count x1 σ = some r) : k_EI l (k_PM w) yX12_count cX12_count 2 (some .int) d [.ref (w.2.1 0), .int x1] σ r σ := by
  refine k_of (own := RX12) rfl (by decide) (Nat.le_of_ble_eq_true rfl) (fun X hX C hr => ?_)
  show k_K (k_PM w) X (k_MQ X (k_Qi (k_PM w) r σ) (k_PM w).2.2.1) 0 [(0, .ref (w.2.1 0)), (1, .int x1)] [] σ
  unfold f_X12_count at h
  refine k_iload_n C dX12_count_0 1 rfl ?_
  by_cases c1_0 : x1 = (0 : Int32)
  · replace h := k_if_t h c1_0
    refine k_tabIn C dX12_count_1 (v := 0) c1_0 (by decide) (by decide) (off := 71) (by decide) (tgt := 72) (by decide) ?_
    refine k_aload_n C dX12_count_72 0 rfl ?_
    refine k_get C dX12_count_73 (k_gM0_21 w) k_fX12_306 (Or.inl rfl) ?_
    exact k_iret C dX12_count_76 hr (k_p1 h)
  · replace h := k_if_f h c1_0
    by_cases c1_1 : x1 = (1 : Int32)
    · replace h := k_if_t h c1_1
      refine k_tabIn C dX12_count_1 (v := 1) c1_1 (by decide) (by decide) (off := 76) (by decide) (tgt := 77) (by decide) ?_
      refine k_aload_n C dX12_count_77 0 rfl ?_
      refine k_get C dX12_count_78 (k_gM0_22 w) k_fX12_309 (Or.inl rfl) ?_
      exact k_iret C dX12_count_81 hr (k_p1 h)
    · replace h := k_if_f h c1_1
      by_cases c1_2 : x1 = (2 : Int32)
      · replace h := k_if_t h c1_2
        refine k_tabIn C dX12_count_1 (v := 2) c1_2 (by decide) (by decide) (off := 81) (by decide) (tgt := 82) (by decide) ?_
        refine k_aload_n C dX12_count_82 0 rfl ?_
        refine k_get C dX12_count_83 (k_gM0_23 w) k_fX12_312 (Or.inl rfl) ?_
        exact k_iret C dX12_count_86 hr (k_p1 h)
      · replace h := k_if_f h c1_2
        by_cases c1_3 : x1 = (3 : Int32)
        · replace h := k_if_t h c1_3
          refine k_tabIn C dX12_count_1 (v := 3) c1_3 (by decide) (by decide) (off := 86) (by decide) (tgt := 87) (by decide) ?_
          refine k_aload_n C dX12_count_87 0 rfl ?_
          refine k_get C dX12_count_88 (k_gM0_13 w) k_fX12_340 (Or.inl rfl) ?_
          exact k_iret C dX12_count_91 hr (k_p1 h)
        · replace h := k_if_f h c1_3
          by_cases c1_4 : x1 = (4 : Int32)
          · replace h := k_if_t h c1_4
            refine k_tabIn C dX12_count_1 (v := 4) c1_4 (by decide) (by decide) (off := 91) (by decide) (tgt := 92) (by decide) ?_
            refine k_aload_n C dX12_count_92 0 rfl ?_
            refine k_get C dX12_count_93 (k_gM0_2 w) k_fX12_161 (Or.inl rfl) ?_
            exact k_iret C dX12_count_96 hr (k_p1 h)
          · replace h := k_if_f h c1_4
            by_cases c1_5 : x1 = (5 : Int32)
            · replace h := k_if_t h c1_5
              refine k_tabIn C dX12_count_1 (v := 5) c1_5 (by decide) (by decide) (off := 96) (by decide) (tgt := 97) (by decide) ?_
              refine k_aload_n C dX12_count_97 0 rfl ?_
              refine k_get C dX12_count_98 (k_gM0_24 w) k_fX12_49 (Or.inl rfl) ?_
              obtain ⟨v101, h101, h⟩ := k_bd_e h
              refine k_goI (k_runS C dX12_count_101 (e_X12_packed (d := 2) (Nat.le_refl _) (k_aM14 w) h101) k_lX12_402 k_yX12_packed (by omega) rfl (Nat.le_of_ble_eq_true rfl)) ?_
              exact k_iret C dX12_count_104 hr (k_p1 h)
            · replace h := k_if_f h c1_5
              by_cases c1_6 : x1 = (6 : Int32)
              · replace h := k_if_t h c1_6
                refine k_tabIn C dX12_count_1 (v := 6) c1_6 (by decide) (by decide) (off := 104) (by decide) (tgt := 105) (by decide) ?_
                refine k_aload_n C dX12_count_105 0 rfl ?_
                refine k_get C dX12_count_106 (k_gM0_26 w) k_fX12_315 (Or.inl rfl) ?_
                refine k_if_eq C dX12_count_109 (tgt := 116) (by decide) (fun c109 => ?_) (fun c109 => ?_)
                · replace h := k_if_t h c109
                  refine k_iconst C dX12_count_116 (v := 0) rfl ?_
                  exact k_iret C dX12_count_117 hr (k_p1 h)
                · replace h := k_if_f h c109
                  refine k_iconst C dX12_count_112 (v := 1) rfl ?_
                  refine k_goto C dX12_count_113 (tgt := 117) (by decide) ?_
                  exact k_iret C dX12_count_117 hr (k_p1 h)
              · replace h := k_if_f h c1_6
                by_cases c1_7 : x1 = (7 : Int32)
                · replace h := k_if_t h c1_7
                  refine k_tabIn C dX12_count_1 (v := 7) c1_7 (by decide) (by decide) (off := 117) (by decide) (tgt := 118) (by decide) ?_
                  refine k_aload_n C dX12_count_118 0 rfl ?_
                  refine k_get C dX12_count_119 (k_gM0_27 w) k_fX12_319 (Or.inl rfl) ?_
                  refine k_if_eq C dX12_count_122 (tgt := 129) (by decide) (fun c122 => ?_) (fun c122 => ?_)
                  · replace h := k_if_t h c122
                    refine k_iconst C dX12_count_129 (v := 0) rfl ?_
                    exact k_iret C dX12_count_130 hr (k_p1 h)
                  · replace h := k_if_f h c122
                    refine k_iconst C dX12_count_125 (v := 1) rfl ?_
                    refine k_goto C dX12_count_126 (tgt := 130) (by decide) ?_
                    exact k_iret C dX12_count_130 hr (k_p1 h)
                · replace h := k_if_f h c1_7
                  by_cases c1_8 : x1 = (8 : Int32)
                  · replace h := k_if_t h c1_8
                    refine k_tabIn C dX12_count_1 (v := 8) c1_8 (by decide) (by decide) (off := 130) (by decide) (tgt := 131) (by decide) ?_
                    refine k_aload_n C dX12_count_131 0 rfl ?_
                    refine k_get C dX12_count_132 (k_gM0_28 w) k_fX12_322 (Or.inl rfl) ?_
                    refine k_if_eq C dX12_count_135 (tgt := 142) (by decide) (fun c135 => ?_) (fun c135 => ?_)
                    · replace h := k_if_t h c135
                      refine k_iconst C dX12_count_142 (v := 0) rfl ?_
                      exact k_iret C dX12_count_143 hr (k_p1 h)
                    · replace h := k_if_f h c135
                      refine k_iconst C dX12_count_138 (v := 1) rfl ?_
                      refine k_goto C dX12_count_139 (tgt := 143) (by decide) ?_
                      exact k_iret C dX12_count_143 hr (k_p1 h)
                  · replace h := k_if_f h c1_8
                    by_cases c1_9 : x1 = (9 : Int32)
                    · replace h := k_if_t h c1_9
                      refine k_tabIn C dX12_count_1 (v := 9) c1_9 (by decide) (by decide) (off := 143) (by decide) (tgt := 144) (by decide) ?_
                      refine k_aload_n C dX12_count_144 0 rfl ?_
                      refine k_get C dX12_count_145 (k_gM0_52 w) k_fX12_328 (Or.inl rfl) ?_
                      exact k_iret C dX12_count_148 hr (k_p1 h)
                    · replace h := k_if_f h c1_9
                      by_cases c1_10 : x1 = (10 : Int32)
                      · replace h := k_if_t h c1_10
                        refine k_tabIn C dX12_count_1 (v := 10) c1_10 (by decide) (by decide) (off := 148) (by decide) (tgt := 149) (by decide) ?_
                        refine k_aload_n C dX12_count_149 0 rfl ?_
                        refine k_get C dX12_count_150 (k_gM0_59 w) k_fX12_331 (Or.inl rfl) ?_
                        exact k_iret C dX12_count_153 hr (k_p1 h)
                      · replace h := k_if_f h c1_10
                        by_cases c1_11 : x1 = (11 : Int32)
                        · replace h := k_if_t h c1_11
                          refine k_tabIn C dX12_count_1 (v := 11) c1_11 (by decide) (by decide) (off := 153) (by decide) (tgt := 154) (by decide) ?_
                          refine k_aload_n C dX12_count_154 0 rfl ?_
                          obtain ⟨v155, h155, h⟩ := k_bd_e h
                          refine k_goI (k_runV C dX12_count_155 (e_X12_caughtInAll (d := 2) (Nat.le_refl _) h155) k_lX12_521 k_yX12_caughtInAll (k_oM0 w) (by omega) rfl (Nat.le_of_ble_eq_true rfl)) ?_
                          exact k_iret C dX12_count_158 hr (k_p1 h)
                        · replace h := k_if_f h c1_11
                          by_cases c1_12 : x1 = (12 : Int32)
                          · replace h := k_if_t h c1_12
                            refine k_tabIn C dX12_count_1 (v := 12) c1_12 (by decide) (by decide) (off := 158) (by decide) (tgt := 159) (by decide) ?_
                            refine k_aload_n C dX12_count_159 0 rfl ?_
                            refine k_get C dX12_count_160 (k_gM0_30 w) k_fX12_55 (Or.inl rfl) ?_
                            exact k_iret C dX12_count_163 hr (k_p1 h)
                          · replace h := k_if_f h c1_12
                            by_cases c1_13 : x1 = (13 : Int32)
                            · replace h := k_if_t h c1_13
                              refine k_tabIn C dX12_count_1 (v := 13) c1_13 (by decide) (by decide) (off := 163) (by decide) (tgt := 164) (by decide) ?_
                              refine k_aload_n C dX12_count_164 0 rfl ?_
                              refine k_get C dX12_count_165 (k_gM0_29 w) k_fX12_325 (Or.inl rfl) ?_
                              refine k_if_eq C dX12_count_168 (tgt := 175) (by decide) (fun c168 => ?_) (fun c168 => ?_)
                              · replace h := k_if_t h c168
                                refine k_iconst C dX12_count_175 (v := 0) rfl ?_
                                exact k_iret C dX12_count_176 hr (k_p1 h)
                              · replace h := k_if_f h c168
                                refine k_iconst C dX12_count_171 (v := 1) rfl ?_
                                refine k_goto C dX12_count_172 (tgt := 176) (by decide) ?_
                                exact k_iret C dX12_count_176 hr (k_p1 h)
                            · replace h := k_if_f h c1_13
                              have n0 : ¬ (x1).toInt = 0 := fun e => c1_0 (Int32.toInt_inj.mp e)
                              have n1 : ¬ (x1).toInt = 1 := fun e => c1_1 (Int32.toInt_inj.mp e)
                              have n2 : ¬ (x1).toInt = 2 := fun e => c1_2 (Int32.toInt_inj.mp e)
                              have n3 : ¬ (x1).toInt = 3 := fun e => c1_3 (Int32.toInt_inj.mp e)
                              have n4 : ¬ (x1).toInt = 4 := fun e => c1_4 (Int32.toInt_inj.mp e)
                              have n5 : ¬ (x1).toInt = 5 := fun e => c1_5 (Int32.toInt_inj.mp e)
                              have n6 : ¬ (x1).toInt = 6 := fun e => c1_6 (Int32.toInt_inj.mp e)
                              have n7 : ¬ (x1).toInt = 7 := fun e => c1_7 (Int32.toInt_inj.mp e)
                              have n8 : ¬ (x1).toInt = 8 := fun e => c1_8 (Int32.toInt_inj.mp e)
                              have n9 : ¬ (x1).toInt = 9 := fun e => c1_9 (Int32.toInt_inj.mp e)
                              have n10 : ¬ (x1).toInt = 10 := fun e => c1_10 (Int32.toInt_inj.mp e)
                              have n11 : ¬ (x1).toInt = 11 := fun e => c1_11 (Int32.toInt_inj.mp e)
                              have n12 : ¬ (x1).toInt = 12 := fun e => c1_12 (Int32.toInt_inj.mp e)
                              have n13 : ¬ (x1).toInt = 13 := fun e => c1_13 (Int32.toInt_inj.mp e)
                              refine k_tabOut C dX12_count_1 (by omega) (tgt := 177) (by decide) ?_
                              refine k_ldcw C dX12_count_177 k_cX12_463 ?_
                              exact k_iret C dX12_count_180 hr (k_p1 h)
