def f_X11_feed (x1 : Int32) (x2 : Int32) (x3 : Int32) (x4 : Int32) (x5 : Int32) (σ : k_St) : Option (Int32 × k_St) :=
  k_bd (f_X8_signsIn x1) fun v1 =>
  k_bd (f_X8_signsIn x2) fun v5 =>
  k_bd (f_X8_signsIn x3) fun v10 =>
  k_bd (f_X8_signsIn x4) fun v16 =>
  k_bd (f_X8_signsIn x5) fun v22 =>
  k_nm (((((v1 + v5) + v10) + v16) + v22)) fun y26 =>
  k_if (((k_rd σ 1 1) + y26) ≤ (160 : Int32))
    (k_bd (f_X8_add x1 σ) fun s51 =>
    k_bd (f_X8_add x2 s51) fun s59 =>
    k_bd (f_X8_add x3 s59) fun s67 =>
    k_bd (f_X8_add x4 s67) fun s76 =>
    k_bd (f_X8_add x5 s76) fun s85 =>
    some ((k_rd s85 1 1), s85))
    (some ((-1 : Int32), σ))
set_option maxHeartbeats 4000000 in
set_option maxRecDepth 100000 in
theorem e_X11_feed {l : Launch} {w : k_WC} {d : Nat} (hd : 3 ≤ d) {x1 : Int32} {x2 : Int32} {x3 : Int32} {x4 : Int32} {x5 : Int32}  {σ σ' : k_St} {r : Int32} (h : f_X11_feed x1 x2 x3 x4 x5 σ = some (r, σ')) : k_EI l (k_PX w) yX11_feed cX11_feed 7 (some .int) d [.ref (w.2.1 0), .int x1, .int x2, .int x3, .int x4, .int x5] σ r σ' := by
  refine k_of (own := RX11) rfl (by decide) (Nat.le_of_ble_eq_true rfl) (fun X hX C hr => ?_)
  show k_K (k_PX w) X (k_MQ X (k_Qi (k_PX w) r σ') (k_PX w).2.2.1) 0 [(0, .ref (w.2.1 0)), (1, .int x1), (2, .int x2), (3, .int x3), (4, .int x4), (5, .int x5)] [] σ
  unfold f_X11_feed at h
  refine k_iload_n C dX11_feed_0 1 rfl ?_
  obtain ⟨v1, h1, h⟩ := k_bd_e h
  refine k_goI (k_runS C dX11_feed_1 (e_X8_signsIn (d := 2) (Nat.le_refl _) h1) k_lX11_107 k_yX8_signsIn (by omega) rfl (Nat.le_of_ble_eq_true rfl)) ?_
  refine k_iload_n C dX11_feed_4 2 rfl ?_
  obtain ⟨v5, h5, h⟩ := k_bd_e h
  refine k_goI (k_runS C dX11_feed_5 (e_X8_signsIn (d := 2) (Nat.le_refl _) h5) k_lX11_107 k_yX8_signsIn (by omega) rfl (Nat.le_of_ble_eq_true rfl)) ?_
  refine k_iadd C dX11_feed_8 ?_
  refine k_iload_n C dX11_feed_9 3 rfl ?_
  obtain ⟨v10, h10, h⟩ := k_bd_e h
  refine k_goI (k_runS C dX11_feed_10 (e_X8_signsIn (d := 2) (Nat.le_refl _) h10) k_lX11_107 k_yX8_signsIn (by omega) rfl (Nat.le_of_ble_eq_true rfl)) ?_
  refine k_iadd C dX11_feed_13 ?_
  refine k_iload C dX11_feed_14 4 rfl ?_
  obtain ⟨v16, h16, h⟩ := k_bd_e h
  refine k_goI (k_runS C dX11_feed_16 (e_X8_signsIn (d := 2) (Nat.le_refl _) h16) k_lX11_107 k_yX8_signsIn (by omega) rfl (Nat.le_of_ble_eq_true rfl)) ?_
  refine k_iadd C dX11_feed_19 ?_
  refine k_iload C dX11_feed_20 5 rfl ?_
  obtain ⟨v22, h22, h⟩ := k_bd_e h
  refine k_goI (k_runS C dX11_feed_22 (e_X8_signsIn (d := 2) (Nat.le_refl _) h22) k_lX11_107 k_yX8_signsIn (by omega) rfl (Nat.le_of_ble_eq_true rfl)) ?_
  refine k_iadd C dX11_feed_25 ?_
  refine k_topi (fun y26 ey26 => ?_)
  replace h := k_nm_e h y26 ey26
  refine k_istore C dX11_feed_26 (by decide) [1, 2, 3, 4, 5, 6, 0] (L' := [(0, .ref (w.2.1 0)), (1, .int x1), (2, .int x2), (3, .int x3), (4, .int x4), (5, .int x5), (6, .int y26)]) rfl ?_
  refine k_aload_n C dX11_feed_28 0 rfl ?_
  refine k_get C dX11_feed_29 (k_gX0_0 w) k_fX11_10 (Or.inl rfl) ?_
  refine k_get C dX11_feed_32 (k_gX1_1 w) k_fX11_111 (Or.inl rfl) ?_
  refine k_iload C dX11_feed_35 6 rfl ?_
  refine k_iadd C dX11_feed_37 ?_
  refine k_sipush C dX11_feed_38 (v := 160) rfl ?_
  refine k_icmp_le C dX11_feed_41 (tgt := 46) (by decide) (fun c41 => ?_) (fun c41 => ?_)
  · replace h := k_if_t h c41
    refine k_aload_n C dX11_feed_46 0 rfl ?_
    refine k_get C dX11_feed_47 (k_gX0_0 w) k_fX11_10 (Or.inl rfl) ?_
    refine k_iload_n C dX11_feed_50 1 rfl ?_
    obtain ⟨s51, h51, h⟩ := k_bd_e h
    refine k_goV (k_runV C dX11_feed_51 (e_X8_add (d := 2) (Nat.le_refl _) h51) k_lX11_114 k_yX8_add (k_oX1 w) (by omega) rfl (Nat.le_of_ble_eq_true rfl)) ?_
    refine k_aload_n C dX11_feed_54 0 rfl ?_
    refine k_get C dX11_feed_55 (k_gX0_0 w) k_fX11_10 (Or.inl rfl) ?_
    refine k_iload_n C dX11_feed_58 2 rfl ?_
    obtain ⟨s59, h59, h⟩ := k_bd_e h
    refine k_goV (k_runV C dX11_feed_59 (e_X8_add (d := 2) (Nat.le_refl _) h59) k_lX11_114 k_yX8_add (k_oX1 w) (by omega) rfl (Nat.le_of_ble_eq_true rfl)) ?_
    refine k_aload_n C dX11_feed_62 0 rfl ?_
    refine k_get C dX11_feed_63 (k_gX0_0 w) k_fX11_10 (Or.inl rfl) ?_
    refine k_iload_n C dX11_feed_66 3 rfl ?_
    obtain ⟨s67, h67, h⟩ := k_bd_e h
    refine k_goV (k_runV C dX11_feed_67 (e_X8_add (d := 2) (Nat.le_refl _) h67) k_lX11_114 k_yX8_add (k_oX1 w) (by omega) rfl (Nat.le_of_ble_eq_true rfl)) ?_
    refine k_aload_n C dX11_feed_70 0 rfl ?_
    refine k_get C dX11_feed_71 (k_gX0_0 w) k_fX11_10 (Or.inl rfl) ?_
    refine k_iload C dX11_feed_74 4 rfl ?_
    obtain ⟨s76, h76, h⟩ := k_bd_e h
    refine k_goV (k_runV C dX11_feed_76 (e_X8_add (d := 2) (Nat.le_refl _) h76) k_lX11_114 k_yX8_add (k_oX1 w) (by omega) rfl (Nat.le_of_ble_eq_true rfl)) ?_
    refine k_aload_n C dX11_feed_79 0 rfl ?_
    refine k_get C dX11_feed_80 (k_gX0_0 w) k_fX11_10 (Or.inl rfl) ?_
    refine k_iload C dX11_feed_83 5 rfl ?_
    obtain ⟨s85, h85, h⟩ := k_bd_e h
    refine k_goV (k_runV C dX11_feed_85 (e_X8_add (d := 2) (Nat.le_refl _) h85) k_lX11_114 k_yX8_add (k_oX1 w) (by omega) rfl (Nat.le_of_ble_eq_true rfl)) ?_
    refine k_aload_n C dX11_feed_88 0 rfl ?_
    refine k_get C dX11_feed_89 (k_gX0_0 w) k_fX11_10 (Or.inl rfl) ?_
    refine k_get C dX11_feed_92 (k_gX1_1 w) k_fX11_111 (Or.inl rfl) ?_
    exact k_iret C dX11_feed_95 hr (Option.some.inj h)
  · replace h := k_if_f h c41
    refine k_iconst C dX11_feed_44 (v := -1) rfl ?_
    exact k_iret C dX11_feed_45 hr (Option.some.inj h)
def f_X11_end (x1 : Int32) (σ : k_St) : Option (Int32 × k_St) :=
  k_bd (f_X11_within x1 (0 : Int32) (k_rd σ 1 1)) fun v9 =>
  k_if (v9 = (0 : Int32))
    (some ((0 : Int32), σ))
    (k_nm (k_wr σ 1 1 x1) fun s22 =>
    some ((1 : Int32), s22))
set_option maxHeartbeats 4000000 in
set_option maxRecDepth 100000 in
theorem e_X11_end {l : Launch} {w : k_WC} {d : Nat} (hd : 3 ≤ d) {x1 : Int32}  {σ σ' : k_St} {r : Int32} (h : f_X11_end x1 σ = some (r, σ')) : k_EI l (k_PX w) yX11_end cX11_end 2 (some .boolean) d [.ref (w.2.1 0), .int x1] σ r σ' := by
  refine k_of (own := RX11) rfl (by decide) (Nat.le_of_ble_eq_true rfl) (fun X hX C hr => ?_)
  show k_K (k_PX w) X (k_MQ X (k_Qi (k_PX w) r σ') (k_PX w).2.2.1) 0 [(0, .ref (w.2.1 0)), (1, .int x1)] [] σ
  unfold f_X11_end at h
  refine k_iload_n C dX11_end_0 1 rfl ?_
  refine k_iconst C dX11_end_1 (v := 0) rfl ?_
  refine k_aload_n C dX11_end_2 0 rfl ?_
  refine k_get C dX11_end_3 (k_gX0_0 w) k_fX11_10 (Or.inl rfl) ?_
  refine k_get C dX11_end_6 (k_gX1_1 w) k_fX11_111 (Or.inl rfl) ?_
  obtain ⟨v9, h9, h⟩ := k_bd_e h
  refine k_goI (k_runS C dX11_end_9 (e_X11_within (d := 2) (Nat.le_refl _) h9) k_lX11_118 k_yX11_within (by omega) rfl (Nat.le_of_ble_eq_true rfl)) ?_
  refine k_if_ne C dX11_end_12 (tgt := 17) (by decide) (fun c12 => ?_) (fun c12 => ?_)
  · replace h := k_if_f h c12
    refine k_aload_n C dX11_end_17 0 rfl ?_
    refine k_get C dX11_end_18 (k_gX0_0 w) k_fX11_10 (Or.inl rfl) ?_
    refine k_iload_n C dX11_end_21 1 rfl ?_
    refine k_puti C dX11_end_22 (k_pX1_1 w) k_fX11_111 (Or.inl rfl) k_xi ?_
    refine k_st (fun s22 es22 => ?_)
    replace h := k_nm_e h s22 es22
    refine k_iconst C dX11_end_25 (v := 1) rfl ?_
    exact k_zret C dX11_end_26 hr rfl (Option.some.inj h)
  · replace h := k_if_t h c12
    refine k_iconst C dX11_end_15 (v := 0) rfl ?_
    exact k_zret C dX11_end_16 hr rfl (Option.some.inj h)
def f_X11_fault (x1 : Int32) (σ : k_St) : Option (Int32 × k_St) :=
  k_if (x1 = (0 : Int32))
    (k_b2 (f_X2_faultOf σ) fun v12 s12 =>
    some (v12, s12))
    (k_if (x1 = (1 : Int32))
      (k_b2 (f_X10_faultOf σ) fun v29 s29 =>
      some (v29, s29))
      (some ((-2 : Int32), σ)))
set_option maxHeartbeats 4000000 in
set_option maxRecDepth 100000 in
theorem e_X11_fault {l : Launch} {w : k_WC} {d : Nat} (hd : 112 ≤ d) {x1 : Int32}  {σ σ' : k_St} {r : Int32} (h : f_X11_fault x1 σ = some (r, σ')) : k_EI l (k_PX w) yX11_fault cX11_fault 2 (some .int) d [.ref (w.2.1 0), .int x1] σ r σ' := by
  refine k_of (own := RX11) rfl (by decide) (Nat.le_of_ble_eq_true rfl) (fun X hX C hr => ?_)
  show k_K (k_PX w) X (k_MQ X (k_Qi (k_PX w) r σ') (k_PX w).2.2.1) 0 [(0, .ref (w.2.1 0)), (1, .int x1)] [] σ
  unfold f_X11_fault at h
  refine k_iload_n C dX11_fault_0 1 rfl ?_
  refine k_if_ne C dX11_fault_1 (tgt := 16) (by decide) (fun c1 => ?_) (fun c1 => ?_)
  · replace h := k_if_f h c1
    refine k_iload_n C dX11_fault_16 1 rfl ?_
    refine k_iconst C dX11_fault_17 (v := 1) rfl ?_
    refine k_icmp_ne C dX11_fault_18 (tgt := 35) (by decide) (fun c18 => ?_) (fun c18 => ?_)
    · replace h := k_if_f h c18
      refine k_bipush C dX11_fault_35 (v := -2) rfl ?_
      exact k_iret C dX11_fault_37 hr (Option.some.inj h)
    · replace h := k_if_t h c18
      refine k_aload_n C dX11_fault_21 0 rfl ?_
      refine k_get C dX11_fault_22 (k_gX0_2 w) k_fX11_26 (Or.inl rfl) ?_
      refine k_aload_n C dX11_fault_25 0 rfl ?_
      refine k_get C dX11_fault_26 (k_gX0_0 w) k_fX11_10 (Or.inl rfl) ?_
      obtain ⟨v29, s29, h29, h⟩ := k_b2_e h
      refine k_goI (k_runV C dX11_fault_29 (e_X10_faultOf (d := 111) (Nat.le_refl _) h29) k_lX11_126 k_yX10_faultOf (k_oX7 w) (by omega) rfl (Nat.le_of_ble_eq_true rfl)) ?_
      refine k_goto C dX11_fault_32 (tgt := 37) (by decide) ?_
      exact k_iret C dX11_fault_37 hr (Option.some.inj h)
  · replace h := k_if_t h c1
    refine k_aload_n C dX11_fault_4 0 rfl ?_
    refine k_get C dX11_fault_5 (k_gX0_1 w) k_fX11_19 (Or.inl rfl) ?_
    refine k_aload_n C dX11_fault_8 0 rfl ?_
    refine k_get C dX11_fault_9 (k_gX0_0 w) k_fX11_10 (Or.inl rfl) ?_
    obtain ⟨v12, s12, h12, h⟩ := k_b2_e h
    refine k_goI (k_runV C dX11_fault_12 (e_X2_faultOf (d := 9) (Nat.le_refl _) h12) k_lX11_122 k_yX2_faultOf (k_oX3 w) (by omega) rfl (Nat.le_of_ble_eq_true rfl)) ?_
    exact k_iret C dX11_fault_15 hr (Option.some.inj h)
def f_X11_forgetOtherLake  (σ : k_St) : Option (k_St) :=
  k_bd (f_X2_toldLost σ) fun v8 =>
  k_bd (f_X6_startLake 16 v8 σ) fun s11 =>
  k_bd (f_X5_clear s11) fun s18 =>
  k_nm (k_wr s18 0 13 (0 : Int32)) fun s23 =>
  k_nm (k_wr s23 0 14 (0 : Int32)) fun s28 =>
  k_nm (k_wr s28 0 15 (0 : Int32)) fun s33 =>
  k_nm (k_wr s33 0 16 (0 : Int32)) fun s38 =>
  some s38
set_option maxHeartbeats 4000000 in
set_option maxRecDepth 100000 in
theorem e_X11_forgetOtherLake {l : Launch} {w : k_WC} {d : Nat} (hd : 4 ≤ d)   {σ σ' : k_St} (h : f_X11_forgetOtherLake σ = some σ') : k_EV l (k_PX w) yX11_forgetOtherLake cX11_forgetOtherLake 1 d [.ref (w.2.1 0)] σ σ' := by
  refine k_of (own := RX11) rfl (by decide) (Nat.le_of_ble_eq_true rfl) (fun X hX C hr => ?_)
  show k_K (k_PX w) X (k_MQ X (k_Qv (k_PX w) σ') (k_PX w).2.2.1) 0 [(0, .ref (w.2.1 0))] [] σ
  unfold f_X11_forgetOtherLake at h
  refine k_aload_n C dX11_forgetOtherLake_0 0 rfl ?_
  refine k_get C dX11_forgetOtherLake_1 (k_gX0_4 w) k_fX11_40 (Or.inl rfl) ?_
  refine k_aload_n C dX11_forgetOtherLake_4 0 rfl ?_
  refine k_get C dX11_forgetOtherLake_5 (k_gX0_1 w) k_fX11_19 (Or.inl rfl) ?_
  obtain ⟨v8, h8, h⟩ := k_bd_e h
  refine k_goI (k_runV C dX11_forgetOtherLake_8 (e_X2_toldLost (d := 2) (Nat.le_refl _) h8) k_lX11_148 k_yX2_toldLost (k_oX3 w) (by omega) rfl (Nat.le_of_ble_eq_true rfl)) ?_
  obtain ⟨s11, h11, h⟩ := k_bd_e h
  refine k_goV (k_runV C dX11_forgetOtherLake_11 (e_X6_startLake_16 (d := 2) (Nat.le_refl _) h11) k_lX11_152 k_yX6_startLake (k_oX16 w) (by omega) rfl (Nat.le_of_ble_eq_true rfl)) ?_
  refine k_aload_n C dX11_forgetOtherLake_14 0 rfl ?_
  refine k_get C dX11_forgetOtherLake_15 (k_gX0_10 w) k_fX11_82 (Or.inl rfl) ?_
  obtain ⟨s18, h18, h⟩ := k_bd_e h
  refine k_goV (k_runV C dX11_forgetOtherLake_18 (e_X5_clear (d := 3) (Nat.le_refl _) h18) k_lX11_155 k_yX5_clear (k_oX42 w) (by omega) rfl (Nat.le_of_ble_eq_true rfl)) ?_
  refine k_aload_n C dX11_forgetOtherLake_21 0 rfl ?_
  refine k_iconst C dX11_forgetOtherLake_22 (v := 0) rfl ?_
  refine k_puti C dX11_forgetOtherLake_23 (k_pX0_13 w) k_fX11_93 (Or.inl rfl) k_xi ?_
  refine k_st (fun s23 es23 => ?_)
  replace h := k_nm_e h s23 es23
  refine k_aload_n C dX11_forgetOtherLake_26 0 rfl ?_
  refine k_iconst C dX11_forgetOtherLake_27 (v := 0) rfl ?_
  refine k_puti C dX11_forgetOtherLake_28 (k_pX0_14 w) k_fX11_97 (Or.inl rfl) (k_xz rfl) ?_
  refine k_st (fun s28 es28 => ?_)
  replace h := k_nm_e h s28 es28
  refine k_aload_n C dX11_forgetOtherLake_31 0 rfl ?_
  refine k_iconst C dX11_forgetOtherLake_32 (v := 0) rfl ?_
  refine k_puti C dX11_forgetOtherLake_33 (k_pX0_15 w) k_fX11_101 (Or.inl rfl) (k_xz rfl) ?_
  refine k_st (fun s33 es33 => ?_)
  replace h := k_nm_e h s33 es33
  refine k_aload_n C dX11_forgetOtherLake_36 0 rfl ?_
  refine k_iconst C dX11_forgetOtherLake_37 (v := 0) rfl ?_
  refine k_puti C dX11_forgetOtherLake_38 (k_pX0_16 w) k_fX11_104 (Or.inl rfl) (k_xz rfl) ?_
  refine k_st (fun s38 es38 => ?_)
  replace h := k_nm_e h s38 es38
  exact k_vret C dX11_forgetOtherLake_41 hr (Option.some.inj h)
def f_X11_text (x1 : Int32) (σ : k_St) : Option (Int32 × k_St) :=
  k_jn (fun (s_61 : k_St) =>
    k_if (x1 = (1 : Int32))
      (k_if ((4 : Int32) ≤ (k_rd s_61 7 4))
        (some ((-1 : Int32), s_61))
        (k_b2 (f_X10_faultOf s_61) fun v85 s85 =>
        k_if (v85 = (-1 : Int32))
          (k_bd (f_X10_keep s85) fun s100 =>
          k_nm (k_wr s100 1 1 (0 : Int32)) fun s108 =>
          some (((k_rd s108 7 4) - (1 : Int32)), s108))
          (some ((-1 : Int32), s85))))
      (some ((-1 : Int32), s_61))) fun j61 =>
  k_if (x1 = (0 : Int32))
    (k_b2 (f_X2_faultOf σ) fun v12 s12 =>
    k_if (v12 = (-1 : Int32))
      (k_nm (k_wr s12 1 1 (0 : Int32)) fun s24 =>
      k_bd (f_X1_takeFrom s24) fun s35 =>
      k_bd (f_X10_reckonFor s35) fun s46 =>
      k_bd (f_X11_forgetOtherLake s46) fun s50 =>
      some ((k_rd s50 12 0), s50))
      (j61 s12))
    (j61 σ)
set_option maxHeartbeats 4000000 in
set_option maxRecDepth 100000 in
theorem e_X11_text {l : Launch} {w : k_WC} {d : Nat} (hd : 112 ≤ d) {x1 : Int32}  {σ σ' : k_St} {r : Int32} (h : f_X11_text x1 σ = some (r, σ')) : k_EI l (k_PX w) yX11_text cX11_text 2 (some .int) d [.ref (w.2.1 0), .int x1] σ r σ' := by
  refine k_of (own := RX11) rfl (by decide) (Nat.le_of_ble_eq_true rfl) (fun X hX C hr => ?_)
  show k_K (k_PX w) X (k_MQ X (k_Qi (k_PX w) r σ') (k_PX w).2.2.1) 0 [(0, .ref (w.2.1 0)), (1, .int x1)] [] σ
  unfold f_X11_text at h
  refine k_iload_n C dX11_text_0 1 rfl ?_
  obtain ⟨j61, ej61, h⟩ := k_jn_e h
  have Jj61 : ∀ (s_61 : k_St), j61 s_61 = some (r, σ') → k_K (k_PX w) X (k_MQ X (k_Qi (k_PX w) r σ') (k_PX w).2.2.1) 61 [(0, .ref (w.2.1 0)), (1, .int x1)] [] s_61 := by
    intro s_61 h
    rw [ej61] at h
    refine k_iload_n C dX11_text_61 1 rfl ?_
    refine k_iconst C dX11_text_62 (v := 1) rfl ?_
    refine k_icmp_ne C dX11_text_63 (tgt := 121) (by decide) (fun c63 => ?_) (fun c63 => ?_)
    · replace h := k_if_f h c63
      refine k_iconst C dX11_text_121 (v := -1) rfl ?_
      exact k_iret C dX11_text_122 hr (Option.some.inj h)
    · replace h := k_if_t h c63
      refine k_aload_n C dX11_text_66 0 rfl ?_
      refine k_get C dX11_text_67 (k_gX0_2 w) k_fX11_26 (Or.inl rfl) ?_
      refine k_get C dX11_text_70 (k_gX7_4 w) k_fX11_141 (Or.inl rfl) ?_
      refine k_iconst C dX11_text_73 (v := 4) rfl ?_
      refine k_icmp_ge C dX11_text_74 (tgt := 121) (by decide) (fun c74 => ?_) (fun c74 => ?_)
      · replace h := k_if_t h c74
        refine k_iconst C dX11_text_121 (v := -1) rfl ?_
        exact k_iret C dX11_text_122 hr (Option.some.inj h)
      · replace h := k_if_f h c74
        refine k_aload_n C dX11_text_77 0 rfl ?_
        refine k_get C dX11_text_78 (k_gX0_2 w) k_fX11_26 (Or.inl rfl) ?_
        refine k_aload_n C dX11_text_81 0 rfl ?_
        refine k_get C dX11_text_82 (k_gX0_0 w) k_fX11_10 (Or.inl rfl) ?_
        obtain ⟨v85, s85, h85, h⟩ := k_b2_e h
        refine k_goI (k_runV C dX11_text_85 (e_X10_faultOf (d := 111) (Nat.le_refl _) h85) k_lX11_126 k_yX10_faultOf (k_oX7 w) (by omega) rfl (Nat.le_of_ble_eq_true rfl)) ?_
        refine k_iconst C dX11_text_88 (v := -1) rfl ?_
        refine k_icmp_ne C dX11_text_89 (tgt := 121) (by decide) (fun c89 => ?_) (fun c89 => ?_)
        · replace h := k_if_f h c89
          refine k_iconst C dX11_text_121 (v := -1) rfl ?_
          exact k_iret C dX11_text_122 hr (Option.some.inj h)
        · replace h := k_if_t h c89
          refine k_aload_n C dX11_text_92 0 rfl ?_
          refine k_get C dX11_text_93 (k_gX0_2 w) k_fX11_26 (Or.inl rfl) ?_
          refine k_aload_n C dX11_text_96 0 rfl ?_
          refine k_get C dX11_text_97 (k_gX0_0 w) k_fX11_10 (Or.inl rfl) ?_
          obtain ⟨s100, h100, h⟩ := k_bd_e h
          refine k_goV (k_runV C dX11_text_100 (e_X10_keep (d := 3) (Nat.le_refl _) h100) k_lX11_144 k_yX10_keep (k_oX7 w) (by omega) rfl (Nat.le_of_ble_eq_true rfl)) ?_
          refine k_aload_n C dX11_text_103 0 rfl ?_
          refine k_get C dX11_text_104 (k_gX0_0 w) k_fX11_10 (Or.inl rfl) ?_
          refine k_iconst C dX11_text_107 (v := 0) rfl ?_
          refine k_puti C dX11_text_108 (k_pX1_1 w) k_fX11_111 (Or.inl rfl) k_xi ?_
          refine k_st (fun s108 es108 => ?_)
          replace h := k_nm_e h s108 es108
          refine k_aload_n C dX11_text_111 0 rfl ?_
          refine k_get C dX11_text_112 (k_gX0_2 w) k_fX11_26 (Or.inl rfl) ?_
          refine k_get C dX11_text_115 (k_gX7_4 w) k_fX11_141 (Or.inl rfl) ?_
          refine k_iconst C dX11_text_118 (v := 1) rfl ?_
          refine k_isub C dX11_text_119 ?_
          exact k_iret C dX11_text_120 hr (Option.some.inj h)
  refine k_if_ne C dX11_text_1 (tgt := 61) (by decide) (fun c1 => ?_) (fun c1 => ?_)
  · replace h := k_if_f h c1
    exact Jj61 _ h
  · replace h := k_if_t h c1
    refine k_aload_n C dX11_text_4 0 rfl ?_
    refine k_get C dX11_text_5 (k_gX0_1 w) k_fX11_19 (Or.inl rfl) ?_
    refine k_aload_n C dX11_text_8 0 rfl ?_
    refine k_get C dX11_text_9 (k_gX0_0 w) k_fX11_10 (Or.inl rfl) ?_
    obtain ⟨v12, s12, h12, h⟩ := k_b2_e h
    refine k_goI (k_runV C dX11_text_12 (e_X2_faultOf (d := 9) (Nat.le_refl _) h12) k_lX11_122 k_yX2_faultOf (k_oX3 w) (by omega) rfl (Nat.le_of_ble_eq_true rfl)) ?_
    refine k_iconst C dX11_text_15 (v := -1) rfl ?_
    refine k_icmp_ne C dX11_text_16 (tgt := 61) (by decide) (fun c16 => ?_) (fun c16 => ?_)
    · replace h := k_if_f h c16
      exact Jj61 _ h
    · replace h := k_if_t h c16
      refine k_aload_n C dX11_text_19 0 rfl ?_
      refine k_get C dX11_text_20 (k_gX0_0 w) k_fX11_10 (Or.inl rfl) ?_
      refine k_iconst C dX11_text_23 (v := 0) rfl ?_
      refine k_puti C dX11_text_24 (k_pX1_1 w) k_fX11_111 (Or.inl rfl) k_xi ?_
      refine k_st (fun s24 es24 => ?_)
      replace h := k_nm_e h s24 es24
      refine k_aload_n C dX11_text_27 0 rfl ?_
      refine k_get C dX11_text_28 (k_gX0_3 w) k_fX11_33 (Or.inl rfl) ?_
      refine k_aload_n C dX11_text_31 0 rfl ?_
      refine k_get C dX11_text_32 (k_gX0_1 w) k_fX11_19 (Or.inl rfl) ?_
      obtain ⟨s35, h35, h⟩ := k_bd_e h
      refine k_goV (k_runV C dX11_text_35 (e_X1_takeFrom (d := 4) (Nat.le_refl _) h35) k_lX11_127 k_yX1_takeFrom (k_oX12 w) (by omega) rfl (Nat.le_of_ble_eq_true rfl)) ?_
      refine k_aload_n C dX11_text_38 0 rfl ?_
      refine k_get C dX11_text_39 (k_gX0_2 w) k_fX11_26 (Or.inl rfl) ?_
      refine k_aload_n C dX11_text_42 0 rfl ?_
      refine k_get C dX11_text_43 (k_gX0_3 w) k_fX11_33 (Or.inl rfl) ?_
      obtain ⟨s46, h46, h⟩ := k_bd_e h
      refine k_goV (k_runV C dX11_text_46 (e_X10_reckonFor (d := 111) (Nat.le_refl _) h46) k_lX11_131 k_yX10_reckonFor (k_oX7 w) (by omega) rfl (Nat.le_of_ble_eq_true rfl)) ?_
      refine k_aload_n C dX11_text_49 0 rfl ?_
      obtain ⟨s50, h50, h⟩ := k_bd_e h
      refine k_goV (k_runV C dX11_text_50 (e_X11_forgetOtherLake (d := 4) (Nat.le_refl _) h50) k_lX11_135 k_yX11_forgetOtherLake (k_oX0 w) (by omega) rfl (Nat.le_of_ble_eq_true rfl)) ?_
      refine k_aload_n C dX11_text_53 0 rfl ?_
      refine k_get C dX11_text_54 (k_gX0_3 w) k_fX11_33 (Or.inl rfl) ?_
      refine k_get C dX11_text_57 (k_gX12_0 w) k_fX11_138 (Or.inl rfl) ?_
      exact k_iret C dX11_text_60 hr (Option.some.inj h)
def f_X11_worth (x1 : Int32) (σ : k_St) : Option (Int32 × k_St) :=
  k_jn (fun (_ : Unit) =>
    k_nm (k_wr σ 7 5 x1) fun s29 =>
    k_bd (f_X10_reckonFor s29) fun s40 =>
    some ((1 : Int32), s40)) fun j24 =>
  k_if (x1 = (-1 : Int32))
    (j24 ())
    (k_bd (f_X11_within x1 (0 : Int32) ((k_rd σ 7 4) - (1 : Int32))) fun v16 =>
    k_if (v16 = (0 : Int32))
      (some ((0 : Int32), σ))
      (j24 ()))
set_option maxHeartbeats 4000000 in
set_option maxRecDepth 100000 in
theorem e_X11_worth {l : Launch} {w : k_WC} {d : Nat} (hd : 112 ≤ d) {x1 : Int32}  {σ σ' : k_St} {r : Int32} (h : f_X11_worth x1 σ = some (r, σ')) : k_EI l (k_PX w) yX11_worth cX11_worth 2 (some .boolean) d [.ref (w.2.1 0), .int x1] σ r σ' := by
  refine k_of (own := RX11) rfl (by decide) (Nat.le_of_ble_eq_true rfl) (fun X hX C hr => ?_)
  show k_K (k_PX w) X (k_MQ X (k_Qi (k_PX w) r σ') (k_PX w).2.2.1) 0 [(0, .ref (w.2.1 0)), (1, .int x1)] [] σ
  unfold f_X11_worth at h
  refine k_iload_n C dX11_worth_0 1 rfl ?_
  refine k_iconst C dX11_worth_1 (v := -1) rfl ?_
  obtain ⟨j24, ej24, h⟩ := k_jn_e h
  have Jj24 : j24 () = some (r, σ') → k_K (k_PX w) X (k_MQ X (k_Qi (k_PX w) r σ') (k_PX w).2.2.1) 24 [(0, .ref (w.2.1 0)), (1, .int x1)] [] σ := by
    intro  h
    rw [ej24] at h
    refine k_aload_n C dX11_worth_24 0 rfl ?_
    refine k_get C dX11_worth_25 (k_gX0_2 w) k_fX11_26 (Or.inl rfl) ?_
    refine k_iload_n C dX11_worth_28 1 rfl ?_
    refine k_puti C dX11_worth_29 (k_pX7_5 w) k_fX11_172 (Or.inl rfl) k_xi ?_
    refine k_st (fun s29 es29 => ?_)
    replace h := k_nm_e h s29 es29
    refine k_aload_n C dX11_worth_32 0 rfl ?_
    refine k_get C dX11_worth_33 (k_gX0_2 w) k_fX11_26 (Or.inl rfl) ?_
    refine k_aload_n C dX11_worth_36 0 rfl ?_
    refine k_get C dX11_worth_37 (k_gX0_3 w) k_fX11_33 (Or.inl rfl) ?_
    obtain ⟨s40, h40, h⟩ := k_bd_e h
    refine k_goV (k_runV C dX11_worth_40 (e_X10_reckonFor (d := 111) (Nat.le_refl _) h40) k_lX11_131 k_yX10_reckonFor (k_oX7 w) (by omega) rfl (Nat.le_of_ble_eq_true rfl)) ?_
    refine k_iconst C dX11_worth_43 (v := 1) rfl ?_
    exact k_zret C dX11_worth_44 hr rfl (Option.some.inj h)
  refine k_icmp_eq C dX11_worth_2 (tgt := 24) (by decide) (fun c2 => ?_) (fun c2 => ?_)
  · replace h := k_if_t h c2
    exact Jj24 h
  · replace h := k_if_f h c2
    refine k_iload_n C dX11_worth_5 1 rfl ?_
    refine k_iconst C dX11_worth_6 (v := 0) rfl ?_
    refine k_aload_n C dX11_worth_7 0 rfl ?_
    refine k_get C dX11_worth_8 (k_gX0_2 w) k_fX11_26 (Or.inl rfl) ?_
    refine k_get C dX11_worth_11 (k_gX7_4 w) k_fX11_141 (Or.inl rfl) ?_
    refine k_iconst C dX11_worth_14 (v := 1) rfl ?_
    refine k_isub C dX11_worth_15 ?_
    obtain ⟨v16, h16, h⟩ := k_bd_e h
    refine k_goI (k_runS C dX11_worth_16 (e_X11_within (d := 2) (Nat.le_refl _) h16) k_lX11_118 k_yX11_within (by omega) rfl (Nat.le_of_ble_eq_true rfl)) ?_
    refine k_if_ne C dX11_worth_19 (tgt := 24) (by decide) (fun c19 => ?_) (fun c19 => ?_)
    · replace h := k_if_f h c19
      exact Jj24 h
    · replace h := k_if_t h c19
      refine k_iconst C dX11_worth_22 (v := 0) rfl ?_
      exact k_zret C dX11_worth_23 hr rfl (Option.some.inj h)
def f_X11_hasLake  (σ : k_St) : Option (Int32) :=
  k_if ((k_rd σ 12 0) ≤ (0 : Int32))
    (some (0 : Int32))
    (some (1 : Int32))
set_option maxHeartbeats 4000000 in
set_option maxRecDepth 100000 in
theorem e_X11_hasLake {l : Launch} {w : k_WC} {d : Nat} (hd : 2 ≤ d)   {σ : k_St} {r : Int32} (h : f_X11_hasLake σ = some r) : k_EI l (k_PX w) yX11_hasLake cX11_hasLake 1 (some .boolean) d [.ref (w.2.1 0)] σ r σ := by
  refine k_of (own := RX11) rfl (by decide) (Nat.le_of_ble_eq_true rfl) (fun X hX C hr => ?_)
  show k_K (k_PX w) X (k_MQ X (k_Qi (k_PX w) r σ) (k_PX w).2.2.1) 0 [(0, .ref (w.2.1 0))] [] σ
  unfold f_X11_hasLake at h
  refine k_aload_n C dX11_hasLake_0 0 rfl ?_
  refine k_get C dX11_hasLake_1 (k_gX0_3 w) k_fX11_33 (Or.inl rfl) ?_
  refine k_get C dX11_hasLake_4 (k_gX12_0 w) k_fX11_138 (Or.inl rfl) ?_
  refine k_if_le C dX11_hasLake_7 (tgt := 14) (by decide) (fun c7 => ?_) (fun c7 => ?_)
  · replace h := k_if_t h c7
    refine k_iconst C dX11_hasLake_14 (v := 0) rfl ?_
    exact k_zret C dX11_hasLake_15 hr rfl (k_p1 h)
  · replace h := k_if_f h c7
    refine k_iconst C dX11_hasLake_10 (v := 1) rfl ?_
    refine k_goto C dX11_hasLake_11 (tgt := 15) (by decide) ?_
    exact k_zret C dX11_hasLake_15 hr rfl (k_p1 h)
def f_X11_flag (x1 : Int32) (σ : k_St) : Option (Int32) :=
  k_if (x1 = (0 : Int32))
    (k_gd (o_isB (k_rd σ 16 3) = true) <|
    some (k_rd σ 16 3))
    (k_if (x1 = (1 : Int32))
      (k_gd (o_isB (k_rd σ 16 4) = true) <|
      some (k_rd σ 16 4))
      (k_if (x1 = (2 : Int32))
        (k_gd (o_isB (k_rd σ 0 15) = true) <|
        some (k_rd σ 0 15))
        (k_gd (o_isB (k_rd σ 0 16) = true) <|
        some (k_rd σ 0 16))))
set_option maxHeartbeats 4000000 in
set_option maxRecDepth 100000 in
theorem e_X11_flag {l : Launch} {w : k_WC} {d : Nat} (hd : 2 ≤ d) {x1 : Int32}  {σ : k_St} {r : Int32} (h : f_X11_flag x1 σ = some r) : k_EI l (k_PX w) yX11_flag cX11_flag 2 (some .boolean) d [.ref (w.2.1 0), .int x1] σ r σ := by
  refine k_of (own := RX11) rfl (by decide) (Nat.le_of_ble_eq_true rfl) (fun X hX C hr => ?_)
  show k_K (k_PX w) X (k_MQ X (k_Qi (k_PX w) r σ) (k_PX w).2.2.1) 0 [(0, .ref (w.2.1 0)), (1, .int x1)] [] σ
  unfold f_X11_flag at h
  refine k_iload_n C dX11_flag_0 1 rfl ?_
  refine k_if_ne C dX11_flag_1 (tgt := 12) (by decide) (fun c1 => ?_) (fun c1 => ?_)
  · replace h := k_if_f h c1
    refine k_iload_n C dX11_flag_12 1 rfl ?_
    refine k_iconst C dX11_flag_13 (v := 1) rfl ?_
    refine k_icmp_ne C dX11_flag_14 (tgt := 25) (by decide) (fun c14 => ?_) (fun c14 => ?_)
    · replace h := k_if_f h c14
      refine k_iload_n C dX11_flag_25 1 rfl ?_
      refine k_iconst C dX11_flag_26 (v := 2) rfl ?_
      refine k_icmp_ne C dX11_flag_27 (tgt := 37) (by decide) (fun c27 => ?_) (fun c27 => ?_)
      · replace h := k_if_f h c27
        refine k_aload_n C dX11_flag_37 0 rfl ?_
        refine k_get C dX11_flag_38 (k_gX0_16 w) k_fX11_104 (Or.inl rfl) ?_
        obtain ⟨gz, h⟩ := k_gd_e h
        exact k_zret C dX11_flag_41 hr (k_nz gz) (k_p1 h)
      · replace h := k_if_t h c27
        refine k_aload_n C dX11_flag_30 0 rfl ?_
        refine k_get C dX11_flag_31 (k_gX0_15 w) k_fX11_101 (Or.inl rfl) ?_
        refine k_goto C dX11_flag_34 (tgt := 41) (by decide) ?_
        obtain ⟨gz, h⟩ := k_gd_e h
        exact k_zret C dX11_flag_41 hr (k_nz gz) (k_p1 h)
    · replace h := k_if_t h c14
      refine k_aload_n C dX11_flag_17 0 rfl ?_
      refine k_get C dX11_flag_18 (k_gX0_4 w) k_fX11_40 (Or.inl rfl) ?_
      refine k_get C dX11_flag_21 (k_gX16_4 w) k_fX11_185 (Or.inl rfl) ?_
      obtain ⟨gz, h⟩ := k_gd_e h
      exact k_zret C dX11_flag_24 hr (k_nz gz) (k_p1 h)
  · replace h := k_if_t h c1
    refine k_aload_n C dX11_flag_4 0 rfl ?_
    refine k_get C dX11_flag_5 (k_gX0_4 w) k_fX11_40 (Or.inl rfl) ?_
    refine k_get C dX11_flag_8 (k_gX16_3 w) k_fX11_182 (Or.inl rfl) ?_
    obtain ⟨gz, h⟩ := k_gd_e h
    exact k_zret C dX11_flag_11 hr (k_nz gz) (k_p1 h)
def f_X11_set (x1 : Int32) (x2 : Int32) (σ : k_St) : Option (Int32 × k_St) :=
  k_bd (f_X11_hasLake σ) fun v1 =>
  k_if (v1 = (0 : Int32))
    (some ((0 : Int32), σ))
    (k_bd (f_X11_within x1 (0 : Int32) (3 : Int32)) fun v10 =>
    k_if (v10 = (0 : Int32))
      (some ((0 : Int32), σ))
      (k_bd (f_X11_flag x1 σ) fun v18 =>
      k_if (v18 = x2)
        (some ((0 : Int32), σ))
        (k_if (x1 = (0 : Int32))
          (k_gd (o_isB x2 = true) <|
          k_nm (k_wr σ 16 3 x2) fun s36 =>
          some ((1 : Int32), s36))
          (k_if (x1 = (1 : Int32))
            (k_gd (o_isB x2 = true) <|
            k_nm (k_wr σ 16 4 x2) fun s52 =>
            some ((1 : Int32), s52))
            (k_if (x1 = (2 : Int32))
              (k_gd (o_isB x2 = true) <|
              k_nm (k_wr σ 0 15 x2) fun s65 =>
              some ((1 : Int32), s65))
              (k_gd (o_isB x2 = true) <|
              k_nm (k_wr σ 0 16 x2) fun s73 =>
              some ((1 : Int32), s73)))))))
set_option maxHeartbeats 4000000 in
set_option maxRecDepth 100000 in
theorem e_X11_set {l : Launch} {w : k_WC} {d : Nat} (hd : 3 ≤ d) {x1 : Int32} {x2 : Int32}  {σ σ' : k_St} {r : Int32} (h : f_X11_set x1 x2 σ = some (r, σ')) : k_EI l (k_PX w) yX11_set cX11_set 3 (some .boolean) d [.ref (w.2.1 0), .int x1, .int x2] σ r σ' := by
  refine k_of (own := RX11) rfl (by decide) (Nat.le_of_ble_eq_true rfl) (fun X hX C hr => ?_)
  show k_K (k_PX w) X (k_MQ X (k_Qi (k_PX w) r σ') (k_PX w).2.2.1) 0 [(0, .ref (w.2.1 0)), (1, .int x1), (2, .int x2)] [] σ
  unfold f_X11_set at h
  refine k_aload_n C dX11_set_0 0 rfl ?_
  obtain ⟨v1, h1, h⟩ := k_bd_e h
  refine k_goI (k_runV C dX11_set_1 (e_X11_hasLake (d := 2) (Nat.le_refl _) h1) k_lX11_175 k_yX11_hasLake (k_oX0 w) (by omega) rfl (Nat.le_of_ble_eq_true rfl)) ?_
  refine k_if_eq C dX11_set_4 (tgt := 25) (by decide) (fun c4 => ?_) (fun c4 => ?_)
  · replace h := k_if_t h c4
    refine k_iconst C dX11_set_25 (v := 0) rfl ?_
    exact k_zret C dX11_set_26 hr rfl (Option.some.inj h)
  · replace h := k_if_f h c4
    refine k_iload_n C dX11_set_7 1 rfl ?_
    refine k_iconst C dX11_set_8 (v := 0) rfl ?_
    refine k_iconst C dX11_set_9 (v := 3) rfl ?_
    obtain ⟨v10, h10, h⟩ := k_bd_e h
    refine k_goI (k_runS C dX11_set_10 (e_X11_within (d := 2) (Nat.le_refl _) h10) k_lX11_118 k_yX11_within (by omega) rfl (Nat.le_of_ble_eq_true rfl)) ?_
    refine k_if_eq C dX11_set_13 (tgt := 25) (by decide) (fun c13 => ?_) (fun c13 => ?_)
    · replace h := k_if_t h c13
      refine k_iconst C dX11_set_25 (v := 0) rfl ?_
      exact k_zret C dX11_set_26 hr rfl (Option.some.inj h)
    · replace h := k_if_f h c13
      refine k_aload_n C dX11_set_16 0 rfl ?_
      refine k_iload_n C dX11_set_17 1 rfl ?_
      obtain ⟨v18, h18, h⟩ := k_bd_e h
      refine k_goI (k_runV C dX11_set_18 (e_X11_flag (d := 2) (Nat.le_refl _) h18) k_lX11_179 k_yX11_flag (k_oX0 w) (by omega) rfl (Nat.le_of_ble_eq_true rfl)) ?_
      refine k_iload_n C dX11_set_21 2 rfl ?_
      refine k_icmp_ne C dX11_set_22 (tgt := 27) (by decide) (fun c22 => ?_) (fun c22 => ?_)
      · replace h := k_if_f h c22
        refine k_iload_n C dX11_set_27 1 rfl ?_
        refine k_if_ne C dX11_set_28 (tgt := 42) (by decide) (fun c28 => ?_) (fun c28 => ?_)
        · replace h := k_if_f h c28
          refine k_iload_n C dX11_set_42 1 rfl ?_
          refine k_iconst C dX11_set_43 (v := 1) rfl ?_
          refine k_icmp_ne C dX11_set_44 (tgt := 58) (by decide) (fun c44 => ?_) (fun c44 => ?_)
          · replace h := k_if_f h c44
            refine k_iload_n C dX11_set_58 1 rfl ?_
            refine k_iconst C dX11_set_59 (v := 2) rfl ?_
            refine k_icmp_ne C dX11_set_60 (tgt := 71) (by decide) (fun c60 => ?_) (fun c60 => ?_)
            · replace h := k_if_f h c60
              refine k_aload_n C dX11_set_71 0 rfl ?_
              refine k_iload_n C dX11_set_72 2 rfl ?_
              obtain ⟨r73, h⟩ := k_gd_e h
              refine k_puti C dX11_set_73 (k_pX0_16 w) k_fX11_104 (Or.inl rfl) (k_xz r73) ?_
              refine k_st (fun s73 es73 => ?_)
              replace h := k_nm_e h s73 es73
              refine k_iconst C dX11_set_76 (v := 1) rfl ?_
              exact k_zret C dX11_set_77 hr rfl (Option.some.inj h)
            · replace h := k_if_t h c60
              refine k_aload_n C dX11_set_63 0 rfl ?_
              refine k_iload_n C dX11_set_64 2 rfl ?_
              obtain ⟨r65, h⟩ := k_gd_e h
              refine k_puti C dX11_set_65 (k_pX0_15 w) k_fX11_101 (Or.inl rfl) (k_xz r65) ?_
              refine k_st (fun s65 es65 => ?_)
              replace h := k_nm_e h s65 es65
              refine k_goto C dX11_set_68 (tgt := 76) (by decide) ?_
              refine k_iconst C dX11_set_76 (v := 1) rfl ?_
              exact k_zret C dX11_set_77 hr rfl (Option.some.inj h)
          · replace h := k_if_t h c44
            refine k_aload_n C dX11_set_47 0 rfl ?_
            refine k_get C dX11_set_48 (k_gX0_4 w) k_fX11_40 (Or.inl rfl) ?_
            refine k_iload_n C dX11_set_51 2 rfl ?_
            obtain ⟨r52, h⟩ := k_gd_e h
            refine k_puti C dX11_set_52 (k_pX16_4 w) k_fX11_185 (Or.inl rfl) (k_xz r52) ?_
            refine k_st (fun s52 es52 => ?_)
            replace h := k_nm_e h s52 es52
            refine k_goto C dX11_set_55 (tgt := 76) (by decide) ?_
            refine k_iconst C dX11_set_76 (v := 1) rfl ?_
            exact k_zret C dX11_set_77 hr rfl (Option.some.inj h)
        · replace h := k_if_t h c28
          refine k_aload_n C dX11_set_31 0 rfl ?_
          refine k_get C dX11_set_32 (k_gX0_4 w) k_fX11_40 (Or.inl rfl) ?_
          refine k_iload_n C dX11_set_35 2 rfl ?_
          obtain ⟨r36, h⟩ := k_gd_e h
          refine k_puti C dX11_set_36 (k_pX16_3 w) k_fX11_182 (Or.inl rfl) (k_xz r36) ?_
          refine k_st (fun s36 es36 => ?_)
          replace h := k_nm_e h s36 es36
          refine k_goto C dX11_set_39 (tgt := 76) (by decide) ?_
          refine k_iconst C dX11_set_76 (v := 1) rfl ?_
          exact k_zret C dX11_set_77 hr rfl (Option.some.inj h)
      · replace h := k_if_t h c22
        refine k_iconst C dX11_set_25 (v := 0) rfl ?_
        exact k_zret C dX11_set_26 hr rfl (Option.some.inj h)
def f_X11_tugs (x1 : Int32) (σ : k_St) : Option (Int32 × k_St) :=
  k_bd (f_X11_hasLake σ) fun v1 =>
  k_jn (fun (t0_22 : Int32) =>
    k_if (t0_22 = (-1 : Int32))
      (some ((0 : Int32), σ))
      (k_nm (k_wr σ 16 0 t0_22) fun s35 =>
      some ((1 : Int32), s35))) fun j22 =>
  k_if (v1 = (0 : Int32))
    (j22 (-1 : Int32))
    (k_bd (f_X11_tugsOf x1 (k_rd σ 12 1)) fun v15 =>
    j22 v15)
set_option maxHeartbeats 4000000 in
set_option maxRecDepth 100000 in
theorem e_X11_tugs {l : Launch} {w : k_WC} {d : Nat} (hd : 4 ≤ d) {x1 : Int32}  {σ σ' : k_St} {r : Int32} (h : f_X11_tugs x1 σ = some (r, σ')) : k_EI l (k_PX w) yX11_tugs cX11_tugs 3 (some .boolean) d [.ref (w.2.1 0), .int x1] σ r σ' := by
  refine k_of (own := RX11) rfl (by decide) (Nat.le_of_ble_eq_true rfl) (fun X hX C hr => ?_)
  show k_K (k_PX w) X (k_MQ X (k_Qi (k_PX w) r σ') (k_PX w).2.2.1) 0 [(0, .ref (w.2.1 0)), (1, .int x1)] [] σ
  unfold f_X11_tugs at h
  refine k_aload_n C dX11_tugs_0 0 rfl ?_
  obtain ⟨v1, h1, h⟩ := k_bd_e h
  refine k_goI (k_runV C dX11_tugs_1 (e_X11_hasLake (d := 2) (Nat.le_refl _) h1) k_lX11_175 k_yX11_hasLake (k_oX0 w) (by omega) rfl (Nat.le_of_ble_eq_true rfl)) ?_
  obtain ⟨j22, ej22, h⟩ := k_jn_e h
  have Jj22 : ∀ (t0_22 : Int32), j22 t0_22 = some (r, σ') → k_K (k_PX w) X (k_MQ X (k_Qi (k_PX w) r σ') (k_PX w).2.2.1) 22 [(0, .ref (w.2.1 0))] [.int t0_22] σ := by
    intro t0_22 h
    rw [ej22] at h
    refine k_istore_n C dX11_tugs_22 (by decide) [1, 0] (L' := [(0, .ref (w.2.1 0)), (2, .int t0_22)]) rfl ?_
    refine k_iload_n C dX11_tugs_23 1 rfl ?_
    refine k_iconst C dX11_tugs_24 (v := -1) rfl ?_
    refine k_icmp_ne C dX11_tugs_25 (tgt := 30) (by decide) (fun c25 => ?_) (fun c25 => ?_)
    · replace h := k_if_f h c25
      refine k_aload_n C dX11_tugs_30 0 rfl ?_
      refine k_get C dX11_tugs_31 (k_gX0_4 w) k_fX11_40 (Or.inl rfl) ?_
      refine k_iload_n C dX11_tugs_34 1 rfl ?_
      refine k_puti C dX11_tugs_35 (k_pX16_0 w) k_fX11_194 (Or.inl rfl) k_xi ?_
      refine k_st (fun s35 es35 => ?_)
      replace h := k_nm_e h s35 es35
      refine k_iconst C dX11_tugs_38 (v := 1) rfl ?_
      exact k_zret C dX11_tugs_39 hr rfl (Option.some.inj h)
    · replace h := k_if_t h c25
      refine k_iconst C dX11_tugs_28 (v := 0) rfl ?_
      exact k_zret C dX11_tugs_29 hr rfl (Option.some.inj h)
  refine k_if_eq C dX11_tugs_4 (tgt := 21) (by decide) (fun c4 => ?_) (fun c4 => ?_)
  · replace h := k_if_t h c4
    refine k_iconst C dX11_tugs_21 (v := -1) rfl ?_
    refine k_sub (L' := [(0, .ref (w.2.1 0))]) [0] rfl ?_
    exact Jj22 _ h
  · replace h := k_if_f h c4
    refine k_iload_n C dX11_tugs_7 1 rfl ?_
    refine k_aload_n C dX11_tugs_8 0 rfl ?_
    refine k_get C dX11_tugs_9 (k_gX0_3 w) k_fX11_33 (Or.inl rfl) ?_
    refine k_get C dX11_tugs_12 (k_gX12_1 w) k_fX11_188 (Or.inl rfl) ?_
    obtain ⟨v15, h15, h⟩ := k_bd_e h
    refine k_goI (k_runS C dX11_tugs_15 (e_X11_tugsOf (d := 3) (Nat.le_refl _) h15) k_lX11_191 k_yX11_tugsOf (by omega) rfl (Nat.le_of_ble_eq_true rfl)) ?_
    refine k_goto C dX11_tugs_18 (tgt := 22) (by decide) ?_
    refine k_sub (L' := [(0, .ref (w.2.1 0))]) [0] rfl ?_
    exact Jj22 _ h
def f_X11_isCast (x1 : Int32) (x2 : Int32) (σ : k_St) : Option (Int32) :=
  k_bd (f_X11_hasLake σ) fun v1 =>
  k_if (v1 = (0 : Int32))
    (some (0 : Int32))
    (k_bd (f_X11_within x1 (0 : Int32) (3 : Int32)) fun v10 =>
    k_if (v10 = (0 : Int32))
      (some (0 : Int32))
      (k_bd (f_X11_within x2 (0 : Int32) ((k_rd σ 12 1) - (1 : Int32))) fun v27 =>
      k_if (v27 = (0 : Int32))
        (some (0 : Int32))
        (some (1 : Int32))))
set_option maxHeartbeats 4000000 in
set_option maxRecDepth 100000 in
theorem e_X11_isCast {l : Launch} {w : k_WC} {d : Nat} (hd : 3 ≤ d) {x1 : Int32} {x2 : Int32}  {σ : k_St} {r : Int32} (h : f_X11_isCast x1 x2 σ = some r) : k_EI l (k_PX w) yX11_isCast cX11_isCast 3 (some .boolean) d [.ref (w.2.1 0), .int x1, .int x2] σ r σ := by
  refine k_of (own := RX11) rfl (by decide) (Nat.le_of_ble_eq_true rfl) (fun X hX C hr => ?_)
  show k_K (k_PX w) X (k_MQ X (k_Qi (k_PX w) r σ) (k_PX w).2.2.1) 0 [(0, .ref (w.2.1 0)), (1, .int x1), (2, .int x2)] [] σ
  unfold f_X11_isCast at h
  refine k_aload_n C dX11_isCast_0 0 rfl ?_
  obtain ⟨v1, h1, h⟩ := k_bd_e h
  refine k_goI (k_runV C dX11_isCast_1 (e_X11_hasLake (d := 2) (Nat.le_refl _) h1) k_lX11_175 k_yX11_hasLake (k_oX0 w) (by omega) rfl (Nat.le_of_ble_eq_true rfl)) ?_
  refine k_if_eq C dX11_isCast_4 (tgt := 37) (by decide) (fun c4 => ?_) (fun c4 => ?_)
  · replace h := k_if_t h c4
    refine k_iconst C dX11_isCast_37 (v := 0) rfl ?_
    exact k_zret C dX11_isCast_38 hr rfl (k_p1 h)
  · replace h := k_if_f h c4
    refine k_iload_n C dX11_isCast_7 1 rfl ?_
    refine k_iconst C dX11_isCast_8 (v := 0) rfl ?_
    refine k_iconst C dX11_isCast_9 (v := 3) rfl ?_
    obtain ⟨v10, h10, h⟩ := k_bd_e h
    refine k_goI (k_runS C dX11_isCast_10 (e_X11_within (d := 2) (Nat.le_refl _) h10) k_lX11_118 k_yX11_within (by omega) rfl (Nat.le_of_ble_eq_true rfl)) ?_
    refine k_if_eq C dX11_isCast_13 (tgt := 37) (by decide) (fun c13 => ?_) (fun c13 => ?_)
    · replace h := k_if_t h c13
      refine k_iconst C dX11_isCast_37 (v := 0) rfl ?_
      exact k_zret C dX11_isCast_38 hr rfl (k_p1 h)
    · replace h := k_if_f h c13
      refine k_iload_n C dX11_isCast_16 2 rfl ?_
      refine k_iconst C dX11_isCast_17 (v := 0) rfl ?_
      refine k_aload_n C dX11_isCast_18 0 rfl ?_
      refine k_get C dX11_isCast_19 (k_gX0_3 w) k_fX11_33 (Or.inl rfl) ?_
      refine k_get C dX11_isCast_22 (k_gX12_1 w) k_fX11_188 (Or.inl rfl) ?_
      refine k_iconst C dX11_isCast_25 (v := 1) rfl ?_
      refine k_isub C dX11_isCast_26 ?_
      obtain ⟨v27, h27, h⟩ := k_bd_e h
      refine k_goI (k_runS C dX11_isCast_27 (e_X11_within (d := 2) (Nat.le_refl _) h27) k_lX11_118 k_yX11_within (by omega) rfl (Nat.le_of_ble_eq_true rfl)) ?_
      refine k_if_eq C dX11_isCast_30 (tgt := 37) (by decide) (fun c30 => ?_) (fun c30 => ?_)
      · replace h := k_if_t h c30
        refine k_iconst C dX11_isCast_37 (v := 0) rfl ?_
        exact k_zret C dX11_isCast_38 hr rfl (k_p1 h)
      · replace h := k_if_f h c30
        refine k_iconst C dX11_isCast_33 (v := 1) rfl ?_
        refine k_goto C dX11_isCast_34 (tgt := 38) (by decide) ?_
        exact k_zret C dX11_isCast_38 hr rfl (k_p1 h)
def f_X11_isPlace (x1 : Int32) (σ : k_St) : Option (Int32) :=
  k_bd (f_X11_within x1 (0 : Int32) ((k_rd σ 12 0) - (1 : Int32))) fun v11 =>
  k_gd (o_isB v11 = true) <|
  some v11
set_option maxHeartbeats 4000000 in
set_option maxRecDepth 100000 in
theorem e_X11_isPlace {l : Launch} {w : k_WC} {d : Nat} (hd : 3 ≤ d) {x1 : Int32}  {σ : k_St} {r : Int32} (h : f_X11_isPlace x1 σ = some r) : k_EI l (k_PX w) yX11_isPlace cX11_isPlace 2 (some .boolean) d [.ref (w.2.1 0), .int x1] σ r σ := by
  refine k_of (own := RX11) rfl (by decide) (Nat.le_of_ble_eq_true rfl) (fun X hX C hr => ?_)
  show k_K (k_PX w) X (k_MQ X (k_Qi (k_PX w) r σ) (k_PX w).2.2.1) 0 [(0, .ref (w.2.1 0)), (1, .int x1)] [] σ
  unfold f_X11_isPlace at h
  refine k_iload_n C dX11_isPlace_0 1 rfl ?_
  refine k_iconst C dX11_isPlace_1 (v := 0) rfl ?_
  refine k_aload_n C dX11_isPlace_2 0 rfl ?_
  refine k_get C dX11_isPlace_3 (k_gX0_3 w) k_fX11_33 (Or.inl rfl) ?_
  refine k_get C dX11_isPlace_6 (k_gX12_0 w) k_fX11_138 (Or.inl rfl) ?_
  refine k_iconst C dX11_isPlace_9 (v := 1) rfl ?_
  refine k_isub C dX11_isPlace_10 ?_
  obtain ⟨v11, h11, h⟩ := k_bd_e h
  refine k_goI (k_runS C dX11_isPlace_11 (e_X11_within (d := 2) (Nat.le_refl _) h11) k_lX11_118 k_yX11_within (by omega) rfl (Nat.le_of_ble_eq_true rfl)) ?_
  obtain ⟨gz, h⟩ := k_gd_e h
  exact k_zret C dX11_isPlace_14 hr (k_nz gz) (k_p1 h)
def f_X11_throwTo (x1 : Int32) (x2 : Int32) (x3 : Int32) (σ : k_St) : Option (Int32 × k_St) :=
  k_bd (f_X11_isCast x1 x2 σ) fun v3 =>
  k_if (v3 = (0 : Int32))
    (some ((0 : Int32), σ))
    (k_bd (f_X11_isPlace x3 σ) fun v11 =>
    k_if (v11 = (0 : Int32))
      (some ((0 : Int32), σ))
      (k_bd (f_X11_withPlace (k_rl σ 16 1) x1 x2 x3) fun v33 =>
      k_nm (k_wl σ 16 1 v33) fun s36 =>
      some ((1 : Int32), s36)))
set_option maxHeartbeats 4000000 in
set_option maxRecDepth 100000 in
theorem e_X11_throwTo {l : Launch} {w : k_WC} {d : Nat} (hd : 4 ≤ d) {x1 : Int32} {x2 : Int32} {x3 : Int32}  {σ σ' : k_St} {r : Int32} (h : f_X11_throwTo x1 x2 x3 σ = some (r, σ')) : k_EI l (k_PX w) yX11_throwTo cX11_throwTo 4 (some .boolean) d [.ref (w.2.1 0), .int x1, .int x2, .int x3] σ r σ' := by
  refine k_of (own := RX11) rfl (by decide) (Nat.le_of_ble_eq_true rfl) (fun X hX C hr => ?_)
  show k_K (k_PX w) X (k_MQ X (k_Qi (k_PX w) r σ') (k_PX w).2.2.1) 0 [(0, .ref (w.2.1 0)), (1, .int x1), (2, .int x2), (3, .int x3)] [] σ
  unfold f_X11_throwTo at h
  refine k_aload_n C dX11_throwTo_0 0 rfl ?_
  refine k_iload_n C dX11_throwTo_1 1 rfl ?_
  refine k_iload_n C dX11_throwTo_2 2 rfl ?_
  obtain ⟨v3, h3, h⟩ := k_bd_e h
  refine k_goI (k_runV C dX11_throwTo_3 (e_X11_isCast (d := 3) (Nat.le_refl _) h3) k_lX11_197 k_yX11_isCast (k_oX0 w) (by omega) rfl (Nat.le_of_ble_eq_true rfl)) ?_
  refine k_if_eq C dX11_throwTo_6 (tgt := 17) (by decide) (fun c6 => ?_) (fun c6 => ?_)
  · replace h := k_if_t h c6
    refine k_iconst C dX11_throwTo_17 (v := 0) rfl ?_
    exact k_zret C dX11_throwTo_18 hr rfl (Option.some.inj h)
  · replace h := k_if_f h c6
    refine k_aload_n C dX11_throwTo_9 0 rfl ?_
    refine k_iload_n C dX11_throwTo_10 3 rfl ?_
    obtain ⟨v11, h11, h⟩ := k_bd_e h
    refine k_goI (k_runV C dX11_throwTo_11 (e_X11_isPlace (d := 3) (Nat.le_refl _) h11) k_lX11_158 k_yX11_isPlace (k_oX0 w) (by omega) rfl (Nat.le_of_ble_eq_true rfl)) ?_
    refine k_if_ne C dX11_throwTo_14 (tgt := 19) (by decide) (fun c14 => ?_) (fun c14 => ?_)
    · replace h := k_if_f h c14
      refine k_aload_n C dX11_throwTo_19 0 rfl ?_
      refine k_get C dX11_throwTo_20 (k_gX0_4 w) k_fX11_40 (Or.inl rfl) ?_
      refine k_aload_n C dX11_throwTo_23 0 rfl ?_
      refine k_get C dX11_throwTo_24 (k_gX0_4 w) k_fX11_40 (Or.inl rfl) ?_
      refine k_get C dX11_throwTo_27 (k_gX16_1 w) k_fX11_201 (Or.inl rfl) ?_
      refine k_iload_n C dX11_throwTo_30 1 rfl ?_
      refine k_iload_n C dX11_throwTo_31 2 rfl ?_
      refine k_iload_n C dX11_throwTo_32 3 rfl ?_
      obtain ⟨v33, h33, h⟩ := k_bd_e h
      refine k_goL (k_runS C dX11_throwTo_33 (e_X11_withPlace (d := 2) (Nat.le_refl _) h33) k_lX11_205 k_yX11_withPlace (by omega) rfl (Nat.le_of_ble_eq_true rfl)) ?_
      refine k_putl C dX11_throwTo_36 (k_pX16_1 w) k_fX11_201 rfl ?_
      refine k_st (fun s36 es36 => ?_)
      replace h := k_nm_e h s36 es36
      refine k_iconst C dX11_throwTo_39 (v := 1) rfl ?_
      exact k_zret C dX11_throwTo_40 hr rfl (Option.some.inj h)
    · replace h := k_if_t h c14
      refine k_iconst C dX11_throwTo_17 (v := 0) rfl ?_
      exact k_zret C dX11_throwTo_18 hr rfl (Option.some.inj h)
def f_X11_thrown (x1 : Int32) (x2 : Int32) (σ : k_St) : Option (Int32) :=
  k_bd (f_X11_isCast x1 x2 σ) fun v3 =>
  k_if (v3 = (0 : Int32))
    (some (-1 : Int32))
    (k_bd (f_X11_placeOf (k_rl σ 16 1) x1 x2) fun v18 =>
    some v18)
set_option maxHeartbeats 4000000 in
set_option maxRecDepth 100000 in
theorem e_X11_thrown {l : Launch} {w : k_WC} {d : Nat} (hd : 4 ≤ d) {x1 : Int32} {x2 : Int32}  {σ : k_St} {r : Int32} (h : f_X11_thrown x1 x2 σ = some r) : k_EI l (k_PX w) yX11_thrown cX11_thrown 3 (some .int) d [.ref (w.2.1 0), .int x1, .int x2] σ r σ := by
  refine k_of (own := RX11) rfl (by decide) (Nat.le_of_ble_eq_true rfl) (fun X hX C hr => ?_)
  show k_K (k_PX w) X (k_MQ X (k_Qi (k_PX w) r σ) (k_PX w).2.2.1) 0 [(0, .ref (w.2.1 0)), (1, .int x1), (2, .int x2)] [] σ
  unfold f_X11_thrown at h
  refine k_aload_n C dX11_thrown_0 0 rfl ?_
  refine k_iload_n C dX11_thrown_1 1 rfl ?_
  refine k_iload_n C dX11_thrown_2 2 rfl ?_
  obtain ⟨v3, h3, h⟩ := k_bd_e h
  refine k_goI (k_runV C dX11_thrown_3 (e_X11_isCast (d := 3) (Nat.le_refl _) h3) k_lX11_197 k_yX11_isCast (k_oX0 w) (by omega) rfl (Nat.le_of_ble_eq_true rfl)) ?_
  refine k_if_eq C dX11_thrown_6 (tgt := 24) (by decide) (fun c6 => ?_) (fun c6 => ?_)
  · replace h := k_if_t h c6
    refine k_iconst C dX11_thrown_24 (v := -1) rfl ?_
    exact k_iret C dX11_thrown_25 hr (k_p1 h)
  · replace h := k_if_f h c6
    refine k_aload_n C dX11_thrown_9 0 rfl ?_
    refine k_get C dX11_thrown_10 (k_gX0_4 w) k_fX11_40 (Or.inl rfl) ?_
    refine k_get C dX11_thrown_13 (k_gX16_1 w) k_fX11_201 (Or.inl rfl) ?_
    refine k_iload_n C dX11_thrown_16 1 rfl ?_
    refine k_iload_n C dX11_thrown_17 2 rfl ?_
    obtain ⟨v18, h18, h⟩ := k_bd_e h
    refine k_goI (k_runS C dX11_thrown_18 (e_X11_placeOf (d := 2) (Nat.le_refl _) h18) k_lX11_209 k_yX11_placeOf (by omega) rfl (Nat.le_of_ble_eq_true rfl)) ?_
    refine k_goto C dX11_thrown_21 (tgt := 25) (by decide) ?_
    exact k_iret C dX11_thrown_25 hr (k_p1 h)
def f_X11_wet (x1 : Int32) (σ : k_St) : Option (Int32 × k_St) :=
  k_bd (f_X11_hasLake σ) fun v1 =>
  k_if (v1 = (0 : Int32))
    (some ((0 : Int32), σ))
    (k_bd (f_X11_within x1 (0 : Int32) (99 : Int32)) fun v11 =>
    k_if (v11 = (0 : Int32))
      (some ((0 : Int32), σ))
      (k_if ((k_rd σ 16 5) = x1)
        (some ((0 : Int32), σ))
        (k_nm (k_wr σ 16 5 x1) fun s35 =>
        some ((1 : Int32), s35))))
set_option maxHeartbeats 4000000 in
set_option maxRecDepth 100000 in
theorem e_X11_wet {l : Launch} {w : k_WC} {d : Nat} (hd : 3 ≤ d) {x1 : Int32}  {σ σ' : k_St} {r : Int32} (h : f_X11_wet x1 σ = some (r, σ')) : k_EI l (k_PX w) yX11_wet cX11_wet 2 (some .boolean) d [.ref (w.2.1 0), .int x1] σ r σ' := by
  refine k_of (own := RX11) rfl (by decide) (Nat.le_of_ble_eq_true rfl) (fun X hX C hr => ?_)
  show k_K (k_PX w) X (k_MQ X (k_Qi (k_PX w) r σ') (k_PX w).2.2.1) 0 [(0, .ref (w.2.1 0)), (1, .int x1)] [] σ
  unfold f_X11_wet at h
  refine k_aload_n C dX11_wet_0 0 rfl ?_
  obtain ⟨v1, h1, h⟩ := k_bd_e h
  refine k_goI (k_runV C dX11_wet_1 (e_X11_hasLake (d := 2) (Nat.le_refl _) h1) k_lX11_175 k_yX11_hasLake (k_oX0 w) (by omega) rfl (Nat.le_of_ble_eq_true rfl)) ?_
  refine k_if_eq C dX11_wet_4 (tgt := 28) (by decide) (fun c4 => ?_) (fun c4 => ?_)
  · replace h := k_if_t h c4
    refine k_iconst C dX11_wet_28 (v := 0) rfl ?_
    exact k_zret C dX11_wet_29 hr rfl (Option.some.inj h)
  · replace h := k_if_f h c4
    refine k_iload_n C dX11_wet_7 1 rfl ?_
    refine k_iconst C dX11_wet_8 (v := 0) rfl ?_
    refine k_bipush C dX11_wet_9 (v := 99) rfl ?_
    obtain ⟨v11, h11, h⟩ := k_bd_e h
    refine k_goI (k_runS C dX11_wet_11 (e_X11_within (d := 2) (Nat.le_refl _) h11) k_lX11_118 k_yX11_within (by omega) rfl (Nat.le_of_ble_eq_true rfl)) ?_
    refine k_if_eq C dX11_wet_14 (tgt := 28) (by decide) (fun c14 => ?_) (fun c14 => ?_)
    · replace h := k_if_t h c14
      refine k_iconst C dX11_wet_28 (v := 0) rfl ?_
      exact k_zret C dX11_wet_29 hr rfl (Option.some.inj h)
    · replace h := k_if_f h c14
      refine k_aload_n C dX11_wet_17 0 rfl ?_
      refine k_get C dX11_wet_18 (k_gX0_4 w) k_fX11_40 (Or.inl rfl) ?_
      refine k_get C dX11_wet_21 (k_gX16_5 w) k_fX11_213 (Or.inl rfl) ?_
      refine k_iload_n C dX11_wet_24 1 rfl ?_
      refine k_icmp_ne C dX11_wet_25 (tgt := 30) (by decide) (fun c25 => ?_) (fun c25 => ?_)
      · replace h := k_if_f h c25
        refine k_aload_n C dX11_wet_30 0 rfl ?_
        refine k_get C dX11_wet_31 (k_gX0_4 w) k_fX11_40 (Or.inl rfl) ?_
        refine k_iload_n C dX11_wet_34 1 rfl ?_
        refine k_puti C dX11_wet_35 (k_pX16_5 w) k_fX11_213 (Or.inl rfl) k_xi ?_
        refine k_st (fun s35 es35 => ?_)
        replace h := k_nm_e h s35 es35
        refine k_iconst C dX11_wet_38 (v := 1) rfl ?_
        exact k_zret C dX11_wet_39 hr rfl (Option.some.inj h)
      · replace h := k_if_t h c25
        refine k_iconst C dX11_wet_28 (v := 0) rfl ?_
        exact k_zret C dX11_wet_29 hr rfl (Option.some.inj h)
def f_X11_answer  (σ : k_St) : Option (Int32 × k_St) :=
  k_bd (f_X11_hasLake σ) fun v1 =>
  k_if (v1 = (0 : Int32))
    (some ((0 : Int32), σ))
    (k_b2 (f_X0_answerOf (k_rd σ 16 0) σ) fun v24 s24 =>
    k_nm (k_wl s24 16 1 v24) fun s27 =>
    some ((1 : Int32), s27))
set_option maxHeartbeats 4000000 in
set_option maxRecDepth 100000 in
theorem e_X11_answer {l : Launch} {w : k_WC} {d : Nat} (hd : 6 ≤ d)   {σ σ' : k_St} {r : Int32} (h : f_X11_answer σ = some (r, σ')) : k_EI l (k_PX w) yX11_answer cX11_answer 1 (some .boolean) d [.ref (w.2.1 0)] σ r σ' := by
  refine k_of (own := RX11) rfl (by decide) (Nat.le_of_ble_eq_true rfl) (fun X hX C hr => ?_)
  show k_K (k_PX w) X (k_MQ X (k_Qi (k_PX w) r σ') (k_PX w).2.2.1) 0 [(0, .ref (w.2.1 0))] [] σ
  unfold f_X11_answer at h
  refine k_aload_n C dX11_answer_0 0 rfl ?_
  obtain ⟨v1, h1, h⟩ := k_bd_e h
  refine k_goI (k_runV C dX11_answer_1 (e_X11_hasLake (d := 2) (Nat.le_refl _) h1) k_lX11_175 k_yX11_hasLake (k_oX0 w) (by omega) rfl (Nat.le_of_ble_eq_true rfl)) ?_
  refine k_if_ne C dX11_answer_4 (tgt := 9) (by decide) (fun c4 => ?_) (fun c4 => ?_)
  · replace h := k_if_f h c4
    refine k_aload_n C dX11_answer_9 0 rfl ?_
    refine k_get C dX11_answer_10 (k_gX0_4 w) k_fX11_40 (Or.inl rfl) ?_
    refine k_aload_n C dX11_answer_13 0 rfl ?_
    refine k_get C dX11_answer_14 (k_gX0_6 w) k_fX11_52 (Or.inl rfl) ?_
    refine k_aload_n C dX11_answer_17 0 rfl ?_
    refine k_get C dX11_answer_18 (k_gX0_4 w) k_fX11_40 (Or.inl rfl) ?_
    refine k_get C dX11_answer_21 (k_gX16_0 w) k_fX11_194 (Or.inl rfl) ?_
    obtain ⟨v24, s24, h24, h⟩ := k_b2_e h
    refine k_goL (k_runV C dX11_answer_24 (e_X0_answerOf (d := 5) (Nat.le_refl _) h24) k_lX11_216 k_yX0_answerOf (k_oX30 w) (by omega) rfl (Nat.le_of_ble_eq_true rfl)) ?_
    refine k_putl C dX11_answer_27 (k_pX16_1 w) k_fX11_201 rfl ?_
    refine k_st (fun s27 es27 => ?_)
    replace h := k_nm_e h s27 es27
    refine k_iconst C dX11_answer_30 (v := 1) rfl ?_
    exact k_zret C dX11_answer_31 hr rfl (Option.some.inj h)
  · replace h := k_if_t h c4
    refine k_iconst C dX11_answer_7 (v := 0) rfl ?_
    exact k_zret C dX11_answer_8 hr rfl (Option.some.inj h)
def f_X11_answerTo (x1 : Int32) (x2 : Int32) (σ : k_St) : Option (Int32 × k_St) :=
  k_bd (f_X11_isCast x1 x2 σ) fun v3 =>
  k_if (v3 = (0 : Int32))
    (some ((-1 : Int32), σ))
    (k_b2 (f_X0_answerOf (k_rd σ 16 0) σ) fun v20 s20 =>
    k_bd (f_X11_placeOf v20 x1 x2) fun v25 =>
    some (v25, s20))
set_option maxHeartbeats 4000000 in
set_option maxRecDepth 100000 in
theorem e_X11_answerTo {l : Launch} {w : k_WC} {d : Nat} (hd : 6 ≤ d) {x1 : Int32} {x2 : Int32}  {σ σ' : k_St} {r : Int32} (h : f_X11_answerTo x1 x2 σ = some (r, σ')) : k_EI l (k_PX w) yX11_answerTo cX11_answerTo 3 (some .int) d [.ref (w.2.1 0), .int x1, .int x2] σ r σ' := by
  refine k_of (own := RX11) rfl (by decide) (Nat.le_of_ble_eq_true rfl) (fun X hX C hr => ?_)
  show k_K (k_PX w) X (k_MQ X (k_Qi (k_PX w) r σ') (k_PX w).2.2.1) 0 [(0, .ref (w.2.1 0)), (1, .int x1), (2, .int x2)] [] σ
  unfold f_X11_answerTo at h
  refine k_aload_n C dX11_answerTo_0 0 rfl ?_
  refine k_iload_n C dX11_answerTo_1 1 rfl ?_
  refine k_iload_n C dX11_answerTo_2 2 rfl ?_
  obtain ⟨v3, h3, h⟩ := k_bd_e h
  refine k_goI (k_runV C dX11_answerTo_3 (e_X11_isCast (d := 3) (Nat.le_refl _) h3) k_lX11_197 k_yX11_isCast (k_oX0 w) (by omega) rfl (Nat.le_of_ble_eq_true rfl)) ?_
  refine k_if_eq C dX11_answerTo_6 (tgt := 31) (by decide) (fun c6 => ?_) (fun c6 => ?_)
  · replace h := k_if_t h c6
    refine k_iconst C dX11_answerTo_31 (v := -1) rfl ?_
    exact k_iret C dX11_answerTo_32 hr (Option.some.inj h)
  · replace h := k_if_f h c6
    refine k_aload_n C dX11_answerTo_9 0 rfl ?_
    refine k_get C dX11_answerTo_10 (k_gX0_6 w) k_fX11_52 (Or.inl rfl) ?_
    refine k_aload_n C dX11_answerTo_13 0 rfl ?_
    refine k_get C dX11_answerTo_14 (k_gX0_4 w) k_fX11_40 (Or.inl rfl) ?_
    refine k_get C dX11_answerTo_17 (k_gX16_0 w) k_fX11_194 (Or.inl rfl) ?_
    obtain ⟨v20, s20, h20, h⟩ := k_b2_e h
    refine k_goL (k_runV C dX11_answerTo_20 (e_X0_answerOf (d := 5) (Nat.le_refl _) h20) k_lX11_216 k_yX0_answerOf (k_oX30 w) (by omega) rfl (Nat.le_of_ble_eq_true rfl)) ?_
    refine k_iload_n C dX11_answerTo_23 1 rfl ?_
    refine k_iload_n C dX11_answerTo_24 2 rfl ?_
    obtain ⟨v25, h25, h⟩ := k_bd_e h
    refine k_goI (k_runS C dX11_answerTo_25 (e_X11_placeOf (d := 2) (Nat.le_refl _) h25) k_lX11_209 k_yX11_placeOf (by omega) rfl (Nat.le_of_ble_eq_true rfl)) ?_
    refine k_goto C dX11_answerTo_28 (tgt := 32) (by decide) ?_
    exact k_iret C dX11_answerTo_32 hr (Option.some.inj h)
def f_X11_plainMean (x1 : Int64) (x3 : Int32) (σ : k_St) : Option (Int32) :=
  k_bd (f_X11_plain x1 ((100 : Int64) * (k_rd σ 12 2).toInt64) x3) fun v14 =>
  some v14.toInt32
set_option maxHeartbeats 4000000 in
set_option maxRecDepth 100000 in
theorem e_X11_plainMean {l : Launch} {w : k_WC} {d : Nat} (hd : 4 ≤ d) {x1 : Int64} {x3 : Int32}  {σ : k_St} {r : Int32} (h : f_X11_plainMean x1 x3 σ = some r) : k_EI l (k_PX w) yX11_plainMean cX11_plainMean 4 (some .int) d [.ref (w.2.1 0), .long x1, .int x3] σ r σ := by
  refine k_of (own := RX11) rfl (by decide) (Nat.le_of_ble_eq_true rfl) (fun X hX C hr => ?_)
  show k_K (k_PX w) X (k_MQ X (k_Qi (k_PX w) r σ) (k_PX w).2.2.1) 0 [(0, .ref (w.2.1 0)), (1, .long x1), (3, .int x3)] [] σ
  unfold f_X11_plainMean at h
  refine k_lload_n C dX11_plainMean_0 1 rfl ?_
  refine k_ldc2 C dX11_plainMean_1 k_cX11_386 ?_
  refine k_aload_n C dX11_plainMean_4 0 rfl ?_
  refine k_get C dX11_plainMean_5 (k_gX0_3 w) k_fX11_33 (Or.inl rfl) ?_
  refine k_get C dX11_plainMean_8 (k_gX12_2 w) k_fX11_318 (Or.inl rfl) ?_
  refine k_i2l C dX11_plainMean_11 ?_
  refine k_lmul C dX11_plainMean_12 ?_
  refine k_iload_n C dX11_plainMean_13 2 rfl ?_
  obtain ⟨v14, h14, h⟩ := k_bd_e h
  refine k_goL (k_runS C dX11_plainMean_14 (e_X11_plain (d := 3) (Nat.le_refl _) h14) k_lX11_321 k_yX11_plain (by omega) rfl (Nat.le_of_ble_eq_true rfl)) ?_
  refine k_l2i C dX11_plainMean_17 ?_
  exact k_iret C dX11_plainMean_18 hr (k_p1 h)
def f_X11_mean (x1 : Int32) (σ : k_St) : Option (Int32) :=
  k_bd (f_X11_hasLake σ) fun v1 =>
  k_if (v1 = (0 : Int32))
    (some (-1 : Int32))
    (k_bd (f_X11_isPart x1) fun v8 =>
    k_if (v8 = (0 : Int32))
      (some (-1 : Int32))
      (k_bd (f_X0_above (k_rd σ 16 0) (k_rl σ 16 1) σ) fun v35 =>
      k_bd (f_X11_plainMean v35 x1 σ) fun v39 =>
      some v39))
set_option maxHeartbeats 4000000 in
set_option maxRecDepth 100000 in
theorem e_X11_mean {l : Launch} {w : k_WC} {d : Nat} (hd : 7 ≤ d) {x1 : Int32}  {σ : k_St} {r : Int32} (h : f_X11_mean x1 σ = some r) : k_EI l (k_PX w) yX11_mean cX11_mean 2 (some .int) d [.ref (w.2.1 0), .int x1] σ r σ := by
  refine k_of (own := RX11) rfl (by decide) (Nat.le_of_ble_eq_true rfl) (fun X hX C hr => ?_)
  show k_K (k_PX w) X (k_MQ X (k_Qi (k_PX w) r σ) (k_PX w).2.2.1) 0 [(0, .ref (w.2.1 0)), (1, .int x1)] [] σ
  unfold f_X11_mean at h
  refine k_aload_n C dX11_mean_0 0 rfl ?_
  obtain ⟨v1, h1, h⟩ := k_bd_e h
  refine k_goI (k_runV C dX11_mean_1 (e_X11_hasLake (d := 2) (Nat.le_refl _) h1) k_lX11_175 k_yX11_hasLake (k_oX0 w) (by omega) rfl (Nat.le_of_ble_eq_true rfl)) ?_
  refine k_if_eq C dX11_mean_4 (tgt := 14) (by decide) (fun c4 => ?_) (fun c4 => ?_)
  · replace h := k_if_t h c4
    refine k_iconst C dX11_mean_14 (v := -1) rfl ?_
    exact k_iret C dX11_mean_15 hr (k_p1 h)
  · replace h := k_if_f h c4
    refine k_iload_n C dX11_mean_7 1 rfl ?_
    obtain ⟨v8, h8, h⟩ := k_bd_e h
    refine k_goI (k_runS C dX11_mean_8 (e_X11_isPart (d := 3) (Nat.le_refl _) h8) k_lX11_220 k_yX11_isPart (by omega) rfl (Nat.le_of_ble_eq_true rfl)) ?_
    refine k_if_ne C dX11_mean_11 (tgt := 16) (by decide) (fun c11 => ?_) (fun c11 => ?_)
    · replace h := k_if_f h c11
      refine k_aload_n C dX11_mean_16 0 rfl ?_
      refine k_aload_n C dX11_mean_17 0 rfl ?_
      refine k_get C dX11_mean_18 (k_gX0_6 w) k_fX11_52 (Or.inl rfl) ?_
      refine k_aload_n C dX11_mean_21 0 rfl ?_
      refine k_get C dX11_mean_22 (k_gX0_4 w) k_fX11_40 (Or.inl rfl) ?_
      refine k_get C dX11_mean_25 (k_gX16_0 w) k_fX11_194 (Or.inl rfl) ?_
      refine k_aload_n C dX11_mean_28 0 rfl ?_
      refine k_get C dX11_mean_29 (k_gX0_4 w) k_fX11_40 (Or.inl rfl) ?_
      refine k_get C dX11_mean_32 (k_gX16_1 w) k_fX11_201 (Or.inl rfl) ?_
      obtain ⟨v35, h35, h⟩ := k_bd_e h
      refine k_goL (k_runV C dX11_mean_35 (e_X0_above (d := 6) (Nat.le_refl _) h35) k_lX11_223 k_yX0_above (k_oX30 w) (by omega) rfl (Nat.le_of_ble_eq_true rfl)) ?_
      refine k_iload_n C dX11_mean_38 1 rfl ?_
      obtain ⟨v39, h39, h⟩ := k_bd_e h
      refine k_goI (k_runV C dX11_mean_39 (e_X11_plainMean (d := 4) (Nat.le_refl _) h39) k_lX11_227 k_yX11_plainMean (k_oX0 w) (by omega) rfl (Nat.le_of_ble_eq_true rfl)) ?_
      exact k_iret C dX11_mean_42 hr (k_p1 h)
    · replace h := k_if_t h c11
      refine k_iconst C dX11_mean_14 (v := -1) rfl ?_
      exact k_iret C dX11_mean_15 hr (k_p1 h)
def f_X11_tongue (x1 : Int32) (x2 : Int32) (σ : k_St) : Option (Int32 × k_St) :=
  k_bd (f_X11_hasLake σ) fun v1 =>
  k_if (v1 = (0 : Int32))
    (some ((-1 : Int32), σ))
    (k_bd (f_X11_within x1 (1 : Int32) (4 : Int32)) fun v10 =>
    k_if (v10 = (0 : Int32))
      (some ((-1 : Int32), σ))
      (k_bd (f_X11_within x2 (0 : Int32) (2 : Int32)) fun v19 =>
      k_if (v19 = (0 : Int32))
        (some ((-1 : Int32), σ))
        (k_bd (f_X4_bySigns x1 (k_rd σ 16 3) (k_rd σ 16 4) σ) fun s46 =>
        k_if (x2 = (0 : Int32))
          (some ((k_rd s46 33 1), s46))
          (k_bd (f_X11_plainMean (k_rl s46 33 0) (x2 - (1 : Int32)) s46) fun v74 =>
          some (v74, s46)))))
set_option maxHeartbeats 4000000 in
set_option maxRecDepth 100000 in
theorem e_X11_tongue {l : Launch} {w : k_WC} {d : Nat} (hd : 18 ≤ d) {x1 : Int32} {x2 : Int32}  {σ σ' : k_St} {r : Int32} (h : f_X11_tongue x1 x2 σ = some (r, σ')) : k_EI l (k_PX w) yX11_tongue cX11_tongue 3 (some .int) d [.ref (w.2.1 0), .int x1, .int x2] σ r σ' := by
  refine k_of (own := RX11) rfl (by decide) (Nat.le_of_ble_eq_true rfl) (fun X hX C hr => ?_)
  show k_K (k_PX w) X (k_MQ X (k_Qi (k_PX w) r σ') (k_PX w).2.2.1) 0 [(0, .ref (w.2.1 0)), (1, .int x1), (2, .int x2)] [] σ
  unfold f_X11_tongue at h
  refine k_aload_n C dX11_tongue_0 0 rfl ?_
  obtain ⟨v1, h1, h⟩ := k_bd_e h
  refine k_goI (k_runV C dX11_tongue_1 (e_X11_hasLake (d := 2) (Nat.le_refl _) h1) k_lX11_175 k_yX11_hasLake (k_oX0 w) (by omega) rfl (Nat.le_of_ble_eq_true rfl)) ?_
  refine k_if_eq C dX11_tongue_4 (tgt := 25) (by decide) (fun c4 => ?_) (fun c4 => ?_)
  · replace h := k_if_t h c4
    refine k_iconst C dX11_tongue_25 (v := -1) rfl ?_
    exact k_iret C dX11_tongue_26 hr (Option.some.inj h)
  · replace h := k_if_f h c4
    refine k_iload_n C dX11_tongue_7 1 rfl ?_
    refine k_iconst C dX11_tongue_8 (v := 1) rfl ?_
    refine k_iconst C dX11_tongue_9 (v := 4) rfl ?_
    obtain ⟨v10, h10, h⟩ := k_bd_e h
    refine k_goI (k_runS C dX11_tongue_10 (e_X11_within (d := 2) (Nat.le_refl _) h10) k_lX11_118 k_yX11_within (by omega) rfl (Nat.le_of_ble_eq_true rfl)) ?_
    refine k_if_eq C dX11_tongue_13 (tgt := 25) (by decide) (fun c13 => ?_) (fun c13 => ?_)
    · replace h := k_if_t h c13
      refine k_iconst C dX11_tongue_25 (v := -1) rfl ?_
      exact k_iret C dX11_tongue_26 hr (Option.some.inj h)
    · replace h := k_if_f h c13
      refine k_iload_n C dX11_tongue_16 2 rfl ?_
      refine k_iconst C dX11_tongue_17 (v := 0) rfl ?_
      refine k_iconst C dX11_tongue_18 (v := 2) rfl ?_
      obtain ⟨v19, h19, h⟩ := k_bd_e h
      refine k_goI (k_runS C dX11_tongue_19 (e_X11_within (d := 2) (Nat.le_refl _) h19) k_lX11_118 k_yX11_within (by omega) rfl (Nat.le_of_ble_eq_true rfl)) ?_
      refine k_if_ne C dX11_tongue_22 (tgt := 27) (by decide) (fun c22 => ?_) (fun c22 => ?_)
      · replace h := k_if_f h c22
        refine k_aload_n C dX11_tongue_27 0 rfl ?_
        refine k_get C dX11_tongue_28 (k_gX0_7 w) k_fX11_59 (Or.inl rfl) ?_
        refine k_iload_n C dX11_tongue_31 1 rfl ?_
        refine k_aload_n C dX11_tongue_32 0 rfl ?_
        refine k_get C dX11_tongue_33 (k_gX0_4 w) k_fX11_40 (Or.inl rfl) ?_
        refine k_get C dX11_tongue_36 (k_gX16_3 w) k_fX11_182 (Or.inl rfl) ?_
        refine k_aload_n C dX11_tongue_39 0 rfl ?_
        refine k_get C dX11_tongue_40 (k_gX0_4 w) k_fX11_40 (Or.inl rfl) ?_
        refine k_get C dX11_tongue_43 (k_gX16_4 w) k_fX11_185 (Or.inl rfl) ?_
        obtain ⟨s46, h46, h⟩ := k_bd_e h
        refine k_goV (k_runV C dX11_tongue_46 (e_X4_bySigns (d := 17) (Nat.le_refl _) h46) k_lX11_231 k_yX4_bySigns (k_oX33 w) (by omega) rfl (Nat.le_of_ble_eq_true rfl)) ?_
        refine k_iload_n C dX11_tongue_49 2 rfl ?_
        refine k_if_ne C dX11_tongue_50 (tgt := 63) (by decide) (fun c50 => ?_) (fun c50 => ?_)
        · replace h := k_if_f h c50
          refine k_aload_n C dX11_tongue_63 0 rfl ?_
          refine k_aload_n C dX11_tongue_64 0 rfl ?_
          refine k_get C dX11_tongue_65 (k_gX0_7 w) k_fX11_59 (Or.inl rfl) ?_
          refine k_get C dX11_tongue_68 (k_gX33_0 w) k_fX11_238 (Or.inl rfl) ?_
          refine k_iload_n C dX11_tongue_71 2 rfl ?_
          refine k_iconst C dX11_tongue_72 (v := 1) rfl ?_
          refine k_isub C dX11_tongue_73 ?_
          obtain ⟨v74, h74, h⟩ := k_bd_e h
          refine k_goI (k_runV C dX11_tongue_74 (e_X11_plainMean (d := 4) (Nat.le_refl _) h74) k_lX11_227 k_yX11_plainMean (k_oX0 w) (by omega) rfl (Nat.le_of_ble_eq_true rfl)) ?_
          exact k_iret C dX11_tongue_77 hr (Option.some.inj h)
        · replace h := k_if_t h c50
          refine k_aload_n C dX11_tongue_53 0 rfl ?_
          refine k_get C dX11_tongue_54 (k_gX0_7 w) k_fX11_59 (Or.inl rfl) ?_
          refine k_get C dX11_tongue_57 (k_gX33_1 w) k_fX11_235 (Or.inl rfl) ?_
          refine k_goto C dX11_tongue_60 (tgt := 77) (by decide) ?_
          exact k_iret C dX11_tongue_77 hr (Option.some.inj h)
      · replace h := k_if_t h c22
        refine k_iconst C dX11_tongue_25 (v := -1) rfl ?_
        exact k_iret C dX11_tongue_26 hr (Option.some.inj h)
def f_X11_senseAbove (x1 : Int32) (x2 : Int32) (σ : k_St) : Option (Int64 × k_St) :=
  k_bd (f_X4_bySigns (k_rd σ 12 1) x1 x2 σ) fun s13 =>
  some ((k_rl s13 33 0), s13)
set_option maxHeartbeats 4000000 in
set_option maxRecDepth 100000 in
theorem e_X11_senseAbove {l : Launch} {w : k_WC} {d : Nat} (hd : 18 ≤ d) {x1 : Int32} {x2 : Int32}  {σ σ' : k_St} {r : Int64} (h : f_X11_senseAbove x1 x2 σ = some (r, σ')) : k_EL l (k_PX w) yX11_senseAbove cX11_senseAbove 3 d [.ref (w.2.1 0), .int x1, .int x2] σ r σ' := by
  refine k_of (own := RX11) rfl (by decide) (Nat.le_of_ble_eq_true rfl) (fun X hX C hr => ?_)
  show k_K (k_PX w) X (k_MQ X (k_Ql (k_PX w) r σ') (k_PX w).2.2.1) 0 [(0, .ref (w.2.1 0)), (1, .int x1), (2, .int x2)] [] σ
  unfold f_X11_senseAbove at h
  refine k_aload_n C dX11_senseAbove_0 0 rfl ?_
  refine k_get C dX11_senseAbove_1 (k_gX0_7 w) k_fX11_59 (Or.inl rfl) ?_
  refine k_aload_n C dX11_senseAbove_4 0 rfl ?_
  refine k_get C dX11_senseAbove_5 (k_gX0_3 w) k_fX11_33 (Or.inl rfl) ?_
  refine k_get C dX11_senseAbove_8 (k_gX12_1 w) k_fX11_188 (Or.inl rfl) ?_
  refine k_iload_n C dX11_senseAbove_11 1 rfl ?_
  refine k_iload_n C dX11_senseAbove_12 2 rfl ?_
  obtain ⟨s13, h13, h⟩ := k_bd_e h
  refine k_goV (k_runV C dX11_senseAbove_13 (e_X4_bySigns (d := 17) (Nat.le_refl _) h13) k_lX11_231 k_yX4_bySigns (k_oX33 w) (by omega) rfl (Nat.le_of_ble_eq_true rfl)) ?_
  refine k_aload_n C dX11_senseAbove_16 0 rfl ?_
  refine k_get C dX11_senseAbove_17 (k_gX0_7 w) k_fX11_59 (Or.inl rfl) ?_
  refine k_get C dX11_senseAbove_20 (k_gX33_0 w) k_fX11_238 (Or.inl rfl) ?_
  exact k_lret C dX11_senseAbove_23 hr (Option.some.inj h)
def f_X11_sense (x1 : Int32) (x2 : Int32) (x3 : Int32) (σ : k_St) : Option (Int32 × k_St) :=
  k_bd (f_X11_hasLake σ) fun v1 =>
  k_if (v1 = (0 : Int32))
    (some ((-1 : Int32), σ))
    (k_bd (f_X11_isPart x3) fun v8 =>
    k_if (v8 = (0 : Int32))
      (some ((-1 : Int32), σ))
      (k_b2 (f_X11_senseAbove x1 x2 σ) fun v20 s20 =>
      k_bd (f_X11_plainMean v20 x3 s20) fun v24 =>
      some (v24, s20)))
set_option maxHeartbeats 4000000 in
set_option maxRecDepth 100000 in
theorem e_X11_sense {l : Launch} {w : k_WC} {d : Nat} (hd : 19 ≤ d) {x1 : Int32} {x2 : Int32} {x3 : Int32}  {σ σ' : k_St} {r : Int32} (h : f_X11_sense x1 x2 x3 σ = some (r, σ')) : k_EI l (k_PX w) yX11_sense cX11_sense 4 (some .int) d [.ref (w.2.1 0), .int x1, .int x2, .int x3] σ r σ' := by
  refine k_of (own := RX11) rfl (by decide) (Nat.le_of_ble_eq_true rfl) (fun X hX C hr => ?_)
  show k_K (k_PX w) X (k_MQ X (k_Qi (k_PX w) r σ') (k_PX w).2.2.1) 0 [(0, .ref (w.2.1 0)), (1, .int x1), (2, .int x2), (3, .int x3)] [] σ
  unfold f_X11_sense at h
  refine k_aload_n C dX11_sense_0 0 rfl ?_
  obtain ⟨v1, h1, h⟩ := k_bd_e h
  refine k_goI (k_runV C dX11_sense_1 (e_X11_hasLake (d := 2) (Nat.le_refl _) h1) k_lX11_175 k_yX11_hasLake (k_oX0 w) (by omega) rfl (Nat.le_of_ble_eq_true rfl)) ?_
  refine k_if_eq C dX11_sense_4 (tgt := 14) (by decide) (fun c4 => ?_) (fun c4 => ?_)
  · replace h := k_if_t h c4
    refine k_iconst C dX11_sense_14 (v := -1) rfl ?_
    exact k_iret C dX11_sense_15 hr (Option.some.inj h)
  · replace h := k_if_f h c4
    refine k_iload_n C dX11_sense_7 3 rfl ?_
    obtain ⟨v8, h8, h⟩ := k_bd_e h
    refine k_goI (k_runS C dX11_sense_8 (e_X11_isPart (d := 3) (Nat.le_refl _) h8) k_lX11_220 k_yX11_isPart (by omega) rfl (Nat.le_of_ble_eq_true rfl)) ?_
    refine k_if_ne C dX11_sense_11 (tgt := 16) (by decide) (fun c11 => ?_) (fun c11 => ?_)
    · replace h := k_if_f h c11
      refine k_aload_n C dX11_sense_16 0 rfl ?_
      refine k_aload_n C dX11_sense_17 0 rfl ?_
      refine k_iload_n C dX11_sense_18 1 rfl ?_
      refine k_iload_n C dX11_sense_19 2 rfl ?_
      obtain ⟨v20, s20, h20, h⟩ := k_b2_e h
      refine k_goL (k_runV C dX11_sense_20 (e_X11_senseAbove (d := 18) (Nat.le_refl _) h20) k_lX11_241 k_yX11_senseAbove (k_oX0 w) (by omega) rfl (Nat.le_of_ble_eq_true rfl)) ?_
      refine k_iload_n C dX11_sense_23 3 rfl ?_
      obtain ⟨v24, h24, h⟩ := k_bd_e h
      refine k_goI (k_runV C dX11_sense_24 (e_X11_plainMean (d := 4) (Nat.le_refl _) h24) k_lX11_227 k_yX11_plainMean (k_oX0 w) (by omega) rfl (Nat.le_of_ble_eq_true rfl)) ?_
      exact k_iret C dX11_sense_27 hr (Option.some.inj h)
    · replace h := k_if_t h c11
      refine k_iconst C dX11_sense_14 (v := -1) rfl ?_
      exact k_iret C dX11_sense_15 hr (Option.some.inj h)
def f_X11_settled (x1 : Int32) (σ : k_St) : Option (Int32 × k_St) :=
  k_bd (f_X11_hasLake σ) fun v1 =>
  k_if (v1 = (0 : Int32))
    (some ((-1 : Int32), σ))
    (k_bd (f_X7_start x1 σ) fun s14 =>
    k_loop (fun (g19 : Int32 × k_St → Option (Int32 × k_St)) (z19 : Int32 × k_St) => match z19 with
      | (v2_19, s_19) =>
        k_if ((256 : Int32) ≤ v2_19)
          (k_bd (f_X7_told s_19) fun v72 =>
          some (v72, s_19))
          (k_bd (f_X11_signsBelow v2_19 (k_rd s_19 12 1)) fun v34 =>
          k_if (v34 = (0 : Int32))
            (k_nm (v2_19 + (1 : Int32)) fun y62 =>
            g19 (y62, s_19))
            (k_b2 (f_X0_isSettled v2_19 s_19) fun v45 s45 =>
            k_if (v45 = (0 : Int32))
              (k_nm (v2_19 + (1 : Int32)) fun y62 =>
              g19 (y62, s45))
              (k_bd (f_X11_digitsOf v2_19) fun v56 =>
              k_bd (f_X7_add v56 s45) fun s59 =>
              k_nm (v2_19 + (1 : Int32)) fun y62 =>
              g19 (y62, s59))))) 100000 ((0 : Int32), s14))
set_option maxHeartbeats 4000000 in
set_option maxRecDepth 100000 in
theorem e_X11_settled {l : Launch} {w : k_WC} {d : Nat} (hd : 7 ≤ d) {x1 : Int32}  {σ σ' : k_St} {r : Int32} (h : f_X11_settled x1 σ = some (r, σ')) : k_EI l (k_PX w) yX11_settled cX11_settled 3 (some .int) d [.ref (w.2.1 0), .int x1] σ r σ' := by
  refine k_of (own := RX11) rfl (by decide) (Nat.le_of_ble_eq_true rfl) (fun X hX C hr => ?_)
  show k_K (k_PX w) X (k_MQ X (k_Qi (k_PX w) r σ') (k_PX w).2.2.1) 0 [(0, .ref (w.2.1 0)), (1, .int x1)] [] σ
  unfold f_X11_settled at h
  refine k_aload_n C dX11_settled_0 0 rfl ?_
  obtain ⟨v1, h1, h⟩ := k_bd_e h
  refine k_goI (k_runV C dX11_settled_1 (e_X11_hasLake (d := 2) (Nat.le_refl _) h1) k_lX11_175 k_yX11_hasLake (k_oX0 w) (by omega) rfl (Nat.le_of_ble_eq_true rfl)) ?_
  refine k_if_ne C dX11_settled_4 (tgt := 9) (by decide) (fun c4 => ?_) (fun c4 => ?_)
  · replace h := k_if_f h c4
    refine k_aload_n C dX11_settled_9 0 rfl ?_
    refine k_get C dX11_settled_10 (k_gX0_9 w) k_fX11_73 (Or.inl rfl) ?_
    refine k_iload_n C dX11_settled_13 1 rfl ?_
    obtain ⟨s14, h14, h⟩ := k_bd_e h
    refine k_goV (k_runV C dX11_settled_14 (e_X7_start (d := 2) (Nat.le_refl _) h14) k_lX11_245 k_yX7_start (k_oX41 w) (by omega) rfl (Nat.le_of_ble_eq_true rfl)) ?_
    refine k_iconst C dX11_settled_17 (v := 0) rfl ?_
    refine k_istore_n C dX11_settled_18 (by decide) [1, 2, 0] (L' := [(0, .ref (w.2.1 0)), (1, .int x1), (2, .int (0 : Int32))]) rfl ?_
    obtain ⟨b19, eb19, h⟩ := k_lp_e h
    have K19 : ∀ (n : Nat) (v2_19 : Int32) (s_19 : k_St), k_loop b19 n (v2_19, s_19) = some (r, σ') → k_K (k_PX w) X (k_MQ X (k_Qi (k_PX w) r σ') (k_PX w).2.2.1) 19 [(0, .ref (w.2.1 0)), (2, .int v2_19)] [] s_19 := by
      intro n
      induction n with
      | zero => intro v2_19 s_19 h; cases h
      | succ n ih19 =>
        intro v2_19 s_19 h
        obtain ⟨g19, eg19, h⟩ := k_lp_s h
        rw [← eg19] at ih19
        rw [eb19] at h
        refine k_iload_n C dX11_settled_19 1 rfl ?_
        refine k_sipush C dX11_settled_20 (v := 256) rfl ?_
        refine k_icmp_ge C dX11_settled_23 (tgt := 68) (by decide) (fun c23 => ?_) (fun c23 => ?_)
        · replace h := k_if_t h c23
          refine k_aload_n C dX11_settled_68 0 rfl ?_
          refine k_get C dX11_settled_69 (k_gX0_9 w) k_fX11_73 (Or.inl rfl) ?_
          obtain ⟨v72, h72, h⟩ := k_bd_e h
          refine k_goI (k_runV C dX11_settled_72 (e_X7_told (d := 2) (Nat.le_refl _) h72) k_lX11_258 k_yX7_told (k_oX41 w) (by omega) rfl (Nat.le_of_ble_eq_true rfl)) ?_
          exact k_iret C dX11_settled_75 hr (Option.some.inj h)
        · replace h := k_if_f h c23
          refine k_iload_n C dX11_settled_26 1 rfl ?_
          refine k_aload_n C dX11_settled_27 0 rfl ?_
          refine k_get C dX11_settled_28 (k_gX0_3 w) k_fX11_33 (Or.inl rfl) ?_
          refine k_get C dX11_settled_31 (k_gX12_1 w) k_fX11_188 (Or.inl rfl) ?_
          obtain ⟨v34, h34, h⟩ := k_bd_e h
          refine k_goI (k_runS C dX11_settled_34 (e_X11_signsBelow (d := 3) (Nat.le_refl _) h34) k_lX11_248 k_yX11_signsBelow (by omega) rfl (Nat.le_of_ble_eq_true rfl)) ?_
          refine k_if_eq C dX11_settled_37 (tgt := 62) (by decide) (fun c37 => ?_) (fun c37 => ?_)
          · replace h := k_if_t h c37
            refine k_iinc C dX11_settled_62 1 rfl (v := 1) rfl (by decide) [1, 0] (L' := fun z9 => [(0, .ref (w.2.1 0)), (2, .int z9)]) (fun z9 => rfl) (fun y62 ey62 => ?_)
            replace h := k_nm_e h y62 ey62
            refine k_goto C dX11_settled_65 (tgt := 19) (by decide) ?_
            exact ih19 _ _ h
          · replace h := k_if_f h c37
            refine k_aload_n C dX11_settled_40 0 rfl ?_
            refine k_get C dX11_settled_41 (k_gX0_6 w) k_fX11_52 (Or.inl rfl) ?_
            refine k_iload_n C dX11_settled_44 1 rfl ?_
            obtain ⟨v45, s45, h45, h⟩ := k_b2_e h
            refine k_goI (k_runV C dX11_settled_45 (e_X0_isSettled (d := 6) (Nat.le_refl _) h45) k_lX11_251 k_yX0_isSettled (k_oX30 w) (by omega) rfl (Nat.le_of_ble_eq_true rfl)) ?_
            refine k_if_eq C dX11_settled_48 (tgt := 62) (by decide) (fun c48 => ?_) (fun c48 => ?_)
            · replace h := k_if_t h c48
              refine k_iinc C dX11_settled_62 1 rfl (v := 1) rfl (by decide) [1, 0] (L' := fun z9 => [(0, .ref (w.2.1 0)), (2, .int z9)]) (fun z9 => rfl) (fun y62 ey62 => ?_)
              replace h := k_nm_e h y62 ey62
              refine k_goto C dX11_settled_65 (tgt := 19) (by decide) ?_
              exact ih19 _ _ h
            · replace h := k_if_f h c48
              refine k_aload_n C dX11_settled_51 0 rfl ?_
              refine k_get C dX11_settled_52 (k_gX0_9 w) k_fX11_73 (Or.inl rfl) ?_
              refine k_iload_n C dX11_settled_55 1 rfl ?_
              obtain ⟨v56, h56, h⟩ := k_bd_e h
              refine k_goI (k_runS C dX11_settled_56 (e_X11_digitsOf (d := 3) (Nat.le_refl _) h56) k_lX11_254 k_yX11_digitsOf (by omega) rfl (Nat.le_of_ble_eq_true rfl)) ?_
              obtain ⟨s59, h59, h⟩ := k_bd_e h
              refine k_goV (k_runV C dX11_settled_59 (e_X7_add (d := 2) (Nat.le_refl _) h59) k_lX11_257 k_yX7_add (k_oX41 w) (by omega) rfl (Nat.le_of_ble_eq_true rfl)) ?_
              refine k_iinc C dX11_settled_62 1 rfl (v := 1) rfl (by decide) [1, 0] (L' := fun z9 => [(0, .ref (w.2.1 0)), (2, .int z9)]) (fun z9 => rfl) (fun y62 ey62 => ?_)
              replace h := k_nm_e h y62 ey62
              refine k_goto C dX11_settled_65 (tgt := 19) (by decide) ?_
              exact ih19 _ _ h
    refine k_sub (L' := [(0, .ref (w.2.1 0)), (2, .int (0 : Int32))]) [0, 2] rfl ?_
    exact K19 _ _ _ h
  · replace h := k_if_t h c4
    refine k_iconst C dX11_settled_7 (v := -1) rfl ?_
    exact k_iret C dX11_settled_8 hr (Option.some.inj h)
def f_X11_worst (x1 : Int32) (σ : k_St) : Option (Int32 × k_St) :=
  k_bd (f_X11_hasLake σ) fun v1 =>
  k_if (v1 = (0 : Int32))
    (some ((-1 : Int32), σ))
    (k_bd (f_X11_isPart x1) fun v8 =>
    k_if (v8 = (0 : Int32))
      (some ((-1 : Int32), σ))
      (k_loop (fun (g23 : Int64 × Int32 × k_St → Option (Int32 × k_St)) (z23 : Int64 × Int32 × k_St) => match z23 with
        | (v2_23, v4_23, s_23) =>
          k_if ((256 : Int32) ≤ v4_23)
            (k_bd (f_X11_plainMean v2_23 x1 s_23) fun v107 =>
            some (v107, s_23))
            (k_bd (f_X11_signsBelow v4_23 (k_rd s_23 12 1)) fun v40 =>
            k_if (v40 = (0 : Int32))
              (k_nm (v4_23 + (1 : Int32)) fun y98 =>
              g23 (v2_23, y98, s_23))
              (k_b2 (f_X0_isSettled v4_23 s_23) fun v52 s52 =>
              k_if (v52 = (0 : Int32))
                (k_nm (v4_23 + (1 : Int32)) fun y98 =>
                g23 (v2_23, y98, s52))
                (k_b2 (f_X0_answerOf v4_23 s52) fun v70 s70 =>
                k_bd (f_X0_above v4_23 v70 s70) fun v73 =>
                k_if ((lg_cmp v2_23 (-1 : Int64)) = (0 : Int32))
                  (k_nm (v4_23 + (1 : Int32)) fun y98 =>
                  g23 (v73, y98, s70))
                  (k_nm ((o_lmin v2_23 v73)) fun y97 =>
                  k_nm (v4_23 + (1 : Int32)) fun y98 =>
                  g23 (y97, y98, s70)))))) 100000 ((-1 : Int64), (0 : Int32), σ)))
set_option maxHeartbeats 4000000 in
set_option maxRecDepth 100000 in
theorem e_X11_worst {l : Launch} {w : k_WC} {d : Nat} (hd : 7 ≤ d) {x1 : Int32}  {σ σ' : k_St} {r : Int32} (h : f_X11_worst x1 σ = some (r, σ')) : k_EI l (k_PX w) yX11_worst cX11_worst 7 (some .int) d [.ref (w.2.1 0), .int x1] σ r σ' := by
  refine k_of (own := RX11) rfl (by decide) (Nat.le_of_ble_eq_true rfl) (fun X hX C hr => ?_)
  show k_K (k_PX w) X (k_MQ X (k_Qi (k_PX w) r σ') (k_PX w).2.2.1) 0 [(0, .ref (w.2.1 0)), (1, .int x1)] [] σ
  unfold f_X11_worst at h
  refine k_aload_n C dX11_worst_0 0 rfl ?_
  obtain ⟨v1, h1, h⟩ := k_bd_e h
  refine k_goI (k_runV C dX11_worst_1 (e_X11_hasLake (d := 2) (Nat.le_refl _) h1) k_lX11_175 k_yX11_hasLake (k_oX0 w) (by omega) rfl (Nat.le_of_ble_eq_true rfl)) ?_
  refine k_if_eq C dX11_worst_4 (tgt := 14) (by decide) (fun c4 => ?_) (fun c4 => ?_)
  · replace h := k_if_t h c4
    refine k_iconst C dX11_worst_14 (v := -1) rfl ?_
    exact k_iret C dX11_worst_15 hr (Option.some.inj h)
  · replace h := k_if_f h c4
    refine k_iload_n C dX11_worst_7 1 rfl ?_
    obtain ⟨v8, h8, h⟩ := k_bd_e h
    refine k_goI (k_runS C dX11_worst_8 (e_X11_isPart (d := 3) (Nat.le_refl _) h8) k_lX11_220 k_yX11_isPart (by omega) rfl (Nat.le_of_ble_eq_true rfl)) ?_
    refine k_if_ne C dX11_worst_11 (tgt := 16) (by decide) (fun c11 => ?_) (fun c11 => ?_)
    · replace h := k_if_f h c11
      refine k_ldc2 C dX11_worst_16 k_cX11_260 ?_
      refine k_lstore_n C dX11_worst_19 (by decide) [1, 2, 0] (L' := [(0, .ref (w.2.1 0)), (1, .int x1), (2, .long (-1 : Int64))]) rfl ?_
      refine k_iconst C dX11_worst_20 (v := 0) rfl ?_
      refine k_istore C dX11_worst_21 (by decide) [1, 2, 3, 0] (L' := [(0, .ref (w.2.1 0)), (1, .int x1), (2, .long (-1 : Int64)), (4, .int (0 : Int32))]) rfl ?_
      obtain ⟨b23, eb23, h⟩ := k_lp_e h
      have K23 : ∀ (n : Nat) (v2_23 : Int64) (v4_23 : Int32) (s_23 : k_St), k_loop b23 n (v2_23, v4_23, s_23) = some (r, σ') → k_K (k_PX w) X (k_MQ X (k_Qi (k_PX w) r σ') (k_PX w).2.2.1) 23 [(0, .ref (w.2.1 0)), (1, .int x1), (2, .long v2_23), (4, .int v4_23)] [] s_23 := by
        intro n
        induction n with
        | zero => intro v2_23 v4_23 s_23 h; cases h
        | succ n ih23 =>
          intro v2_23 v4_23 s_23 h
          obtain ⟨g23, eg23, h⟩ := k_lp_s h
          rw [← eg23] at ih23
          rw [eb23] at h
          refine k_iload C dX11_worst_23 3 rfl ?_
          refine k_sipush C dX11_worst_25 (v := 256) rfl ?_
          refine k_icmp_ge C dX11_worst_28 (tgt := 104) (by decide) (fun c28 => ?_) (fun c28 => ?_)
          · replace h := k_if_t h c28
            refine k_aload_n C dX11_worst_104 0 rfl ?_
            refine k_lload_n C dX11_worst_105 2 rfl ?_
            refine k_iload_n C dX11_worst_106 1 rfl ?_
            obtain ⟨v107, h107, h⟩ := k_bd_e h
            refine k_goI (k_runV C dX11_worst_107 (e_X11_plainMean (d := 4) (Nat.le_refl _) h107) k_lX11_227 k_yX11_plainMean (k_oX0 w) (by omega) rfl (Nat.le_of_ble_eq_true rfl)) ?_
            exact k_iret C dX11_worst_110 hr (Option.some.inj h)
          · replace h := k_if_f h c28
            refine k_iload C dX11_worst_31 3 rfl ?_
            refine k_aload_n C dX11_worst_33 0 rfl ?_
            refine k_get C dX11_worst_34 (k_gX0_3 w) k_fX11_33 (Or.inl rfl) ?_
            refine k_get C dX11_worst_37 (k_gX12_1 w) k_fX11_188 (Or.inl rfl) ?_
            obtain ⟨v40, h40, h⟩ := k_bd_e h
            refine k_goI (k_runS C dX11_worst_40 (e_X11_signsBelow (d := 3) (Nat.le_refl _) h40) k_lX11_248 k_yX11_signsBelow (by omega) rfl (Nat.le_of_ble_eq_true rfl)) ?_
            refine k_if_eq C dX11_worst_43 (tgt := 98) (by decide) (fun c43 => ?_) (fun c43 => ?_)
            · replace h := k_if_t h c43
              refine k_iinc C dX11_worst_98 3 rfl (v := 1) rfl (by decide) [1, 2, 3, 0] (L' := fun z9 => [(0, .ref (w.2.1 0)), (1, .int x1), (2, .long v2_23), (4, .int z9)]) (fun z9 => rfl) (fun y98 ey98 => ?_)
              replace h := k_nm_e h y98 ey98
              refine k_goto C dX11_worst_101 (tgt := 23) (by decide) ?_
              exact ih23 _ _ _ h
            · replace h := k_if_f h c43
              refine k_aload_n C dX11_worst_46 0 rfl ?_
              refine k_get C dX11_worst_47 (k_gX0_6 w) k_fX11_52 (Or.inl rfl) ?_
              refine k_iload C dX11_worst_50 3 rfl ?_
              obtain ⟨v52, s52, h52, h⟩ := k_b2_e h
              refine k_goI (k_runV C dX11_worst_52 (e_X0_isSettled (d := 6) (Nat.le_refl _) h52) k_lX11_251 k_yX0_isSettled (k_oX30 w) (by omega) rfl (Nat.le_of_ble_eq_true rfl)) ?_
              refine k_if_eq C dX11_worst_55 (tgt := 98) (by decide) (fun c55 => ?_) (fun c55 => ?_)
              · replace h := k_if_t h c55
                refine k_iinc C dX11_worst_98 3 rfl (v := 1) rfl (by decide) [1, 2, 3, 0] (L' := fun z9 => [(0, .ref (w.2.1 0)), (1, .int x1), (2, .long v2_23), (4, .int z9)]) (fun z9 => rfl) (fun y98 ey98 => ?_)
                replace h := k_nm_e h y98 ey98
                refine k_goto C dX11_worst_101 (tgt := 23) (by decide) ?_
                exact ih23 _ _ _ h
              · replace h := k_if_f h c55
                refine k_aload_n C dX11_worst_58 0 rfl ?_
                refine k_get C dX11_worst_59 (k_gX0_6 w) k_fX11_52 (Or.inl rfl) ?_
                refine k_iload C dX11_worst_62 3 rfl ?_
                refine k_aload_n C dX11_worst_64 0 rfl ?_
                refine k_get C dX11_worst_65 (k_gX0_6 w) k_fX11_52 (Or.inl rfl) ?_
                refine k_iload C dX11_worst_68 3 rfl ?_
                obtain ⟨v70, s70, h70, h⟩ := k_b2_e h
                refine k_goL (k_runV C dX11_worst_70 (e_X0_answerOf (d := 5) (Nat.le_refl _) h70) k_lX11_216 k_yX0_answerOf (k_oX30 w) (by omega) rfl (Nat.le_of_ble_eq_true rfl)) ?_
                obtain ⟨v73, h73, h⟩ := k_bd_e h
                refine k_goL (k_runV C dX11_worst_73 (e_X0_above (d := 6) (Nat.le_refl _) h73) k_lX11_223 k_yX0_above (k_oX30 w) (by omega) rfl (Nat.le_of_ble_eq_true rfl)) ?_
                refine k_lstore C dX11_worst_76 (by decide) [1, 2, 3, 4, 0] (L' := [(0, .ref (w.2.1 0)), (1, .int x1), (2, .long v2_23), (4, .int v4_23), (5, .long v73)]) rfl ?_
                refine k_lload_n C dX11_worst_78 2 rfl ?_
                refine k_ldc2 C dX11_worst_79 k_cX11_260 ?_
                refine k_lcmp C dX11_worst_82 ?_
                refine k_if_ne C dX11_worst_83 (tgt := 91) (by decide) (fun c83 => ?_) (fun c83 => ?_)
                · replace h := k_if_f h c83
                  refine k_lload_n C dX11_worst_91 2 rfl ?_
                  refine k_lload C dX11_worst_92 4 rfl ?_
                  refine k_mmin_long C dX11_worst_94 k_lX11_262 k_ym_lmin (by omega) (Nat.le_of_ble_eq_true rfl) ?_
                  refine k_topl (fun y97 ey97 => ?_)
                  replace h := k_nm_e h y97 ey97
                  refine k_lstore_n C dX11_worst_97 (by decide) [1, 2, 0, 3, 4] (L' := [(0, .ref (w.2.1 0)), (1, .int x1), (2, .long y97), (4, .int v4_23), (5, .long v73)]) rfl ?_
                  refine k_iinc C dX11_worst_98 3 rfl (v := 1) rfl (by decide) [1, 2, 3, 0, 4] (L' := fun z9 => [(0, .ref (w.2.1 0)), (1, .int x1), (2, .long y97), (4, .int z9), (5, .long v73)]) (fun z9 => rfl) (fun y98 ey98 => ?_)
                  replace h := k_nm_e h y98 ey98
                  refine k_goto C dX11_worst_101 (tgt := 23) (by decide) ?_
                  refine k_sub (L' := [(0, .ref (w.2.1 0)), (1, .int x1), (2, .long y97), (4, .int y98)]) [0, 1, 2, 3] rfl ?_
                  exact ih23 _ _ _ h
                · replace h := k_if_t h c83
                  refine k_lload C dX11_worst_86 4 rfl ?_
                  refine k_goto C dX11_worst_88 (tgt := 97) (by decide) ?_
                  refine k_lstore_n C dX11_worst_97 (by decide) [1, 2, 0, 3, 4] (L' := [(0, .ref (w.2.1 0)), (1, .int x1), (2, .long v73), (4, .int v4_23), (5, .long v73)]) rfl ?_
                  refine k_iinc C dX11_worst_98 3 rfl (v := 1) rfl (by decide) [1, 2, 3, 0, 4] (L' := fun z9 => [(0, .ref (w.2.1 0)), (1, .int x1), (2, .long v73), (4, .int z9), (5, .long v73)]) (fun z9 => rfl) (fun y98 ey98 => ?_)
                  replace h := k_nm_e h y98 ey98
                  refine k_goto C dX11_worst_101 (tgt := 23) (by decide) ?_
                  refine k_sub (L' := [(0, .ref (w.2.1 0)), (1, .int x1), (2, .long v73), (4, .int y98)]) [0, 1, 2, 3] rfl ?_
                  exact ih23 _ _ _ h
      exact K23 _ _ _ _ h
    · replace h := k_if_t h c11
      refine k_iconst C dX11_worst_14 (v := -1) rfl ?_
      exact k_iret C dX11_worst_15 hr (Option.some.inj h)
def f_X11_code (x1 : Int32) (x2 : Int32) (x3 : Int32) (σ : k_St) : Option (Int32 × k_St) :=
  k_b2 (f_X9_make x1 x2 σ) fun v6 s6 =>
  k_if (v6 = (0 : Int32))
    (some ((-1 : Int32), s6))
    (k_if (x3 = (-1 : Int32))
      (some ((k_rd s6 39 0), s6))
      (k_bd (f_X9_wordAt x3 s6) fun v34 =>
      some (v34, s6)))
set_option maxHeartbeats 4000000 in
set_option maxRecDepth 100000 in
theorem e_X11_code {l : Launch} {w : k_WC} {d : Nat} (hd : 6 ≤ d) {x1 : Int32} {x2 : Int32} {x3 : Int32}  {σ σ' : k_St} {r : Int32} (h : f_X11_code x1 x2 x3 σ = some (r, σ')) : k_EI l (k_PX w) yX11_code cX11_code 4 (some .int) d [.ref (w.2.1 0), .int x1, .int x2, .int x3] σ r σ' := by
  refine k_of (own := RX11) rfl (by decide) (Nat.le_of_ble_eq_true rfl) (fun X hX C hr => ?_)
  show k_K (k_PX w) X (k_MQ X (k_Qi (k_PX w) r σ') (k_PX w).2.2.1) 0 [(0, .ref (w.2.1 0)), (1, .int x1), (2, .int x2), (3, .int x3)] [] σ
  unfold f_X11_code at h
  refine k_aload_n C dX11_code_0 0 rfl ?_
  refine k_get C dX11_code_1 (k_gX0_8 w) k_fX11_66 (Or.inl rfl) ?_
  refine k_iload_n C dX11_code_4 1 rfl ?_
  refine k_iload_n C dX11_code_5 2 rfl ?_
  obtain ⟨v6, s6, h6, h⟩ := k_b2_e h
  refine k_goI (k_runV C dX11_code_6 (e_X9_make (d := 5) (Nat.le_refl _) h6) k_lX11_268 k_yX9_make (k_oX39 w) (by omega) rfl (Nat.le_of_ble_eq_true rfl)) ?_
  refine k_if_ne C dX11_code_9 (tgt := 14) (by decide) (fun c9 => ?_) (fun c9 => ?_)
  · replace h := k_if_f h c9
    refine k_iload_n C dX11_code_14 3 rfl ?_
    refine k_iconst C dX11_code_15 (v := -1) rfl ?_
    refine k_icmp_ne C dX11_code_16 (tgt := 29) (by decide) (fun c16 => ?_) (fun c16 => ?_)
    · replace h := k_if_f h c16
      refine k_aload_n C dX11_code_29 0 rfl ?_
      refine k_get C dX11_code_30 (k_gX0_8 w) k_fX11_66 (Or.inl rfl) ?_
      refine k_iload_n C dX11_code_33 3 rfl ?_
      obtain ⟨v34, h34, h⟩ := k_bd_e h
      refine k_goI (k_runV C dX11_code_34 (e_X9_wordAt (d := 3) (Nat.le_refl _) h34) k_lX11_272 k_yX9_wordAt (k_oX39 w) (by omega) rfl (Nat.le_of_ble_eq_true rfl)) ?_
      exact k_iret C dX11_code_37 hr (Option.some.inj h)
    · replace h := k_if_t h c16
      refine k_aload_n C dX11_code_19 0 rfl ?_
      refine k_get C dX11_code_20 (k_gX0_8 w) k_fX11_66 (Or.inl rfl) ?_
      refine k_get C dX11_code_23 (k_gX39_0 w) k_fX11_271 (Or.inl rfl) ?_
      refine k_goto C dX11_code_26 (tgt := 37) (by decide) ?_
      exact k_iret C dX11_code_37 hr (Option.some.inj h)
  · replace h := k_if_t h c9
    refine k_iconst C dX11_code_12 (v := -1) rfl ?_
    exact k_iret C dX11_code_13 hr (Option.some.inj h)
def f_X11_read (x1 : Int32) (x2 : Int32) (x3 : Int32) (σ : k_St) : Option (Int32 × k_St) :=
  k_b2 (f_X9_make x1 x2 σ) fun v6 s6 =>
  k_if (v6 = (0 : Int32))
    (some ((-1 : Int32), s6))
    (k_bd (f_X9_meaningOf x3 s6) fun v17 =>
    some (v17, s6))
set_option maxHeartbeats 4000000 in
set_option maxRecDepth 100000 in
theorem e_X11_read {l : Launch} {w : k_WC} {d : Nat} (hd : 6 ≤ d) {x1 : Int32} {x2 : Int32} {x3 : Int32}  {σ σ' : k_St} {r : Int32} (h : f_X11_read x1 x2 x3 σ = some (r, σ')) : k_EI l (k_PX w) yX11_read cX11_read 4 (some .int) d [.ref (w.2.1 0), .int x1, .int x2, .int x3] σ r σ' := by
  refine k_of (own := RX11) rfl (by decide) (Nat.le_of_ble_eq_true rfl) (fun X hX C hr => ?_)
  show k_K (k_PX w) X (k_MQ X (k_Qi (k_PX w) r σ') (k_PX w).2.2.1) 0 [(0, .ref (w.2.1 0)), (1, .int x1), (2, .int x2), (3, .int x3)] [] σ
  unfold f_X11_read at h
  refine k_aload_n C dX11_read_0 0 rfl ?_
  refine k_get C dX11_read_1 (k_gX0_8 w) k_fX11_66 (Or.inl rfl) ?_
  refine k_iload_n C dX11_read_4 1 rfl ?_
  refine k_iload_n C dX11_read_5 2 rfl ?_
  obtain ⟨v6, s6, h6, h⟩ := k_b2_e h
  refine k_goI (k_runV C dX11_read_6 (e_X9_make (d := 5) (Nat.le_refl _) h6) k_lX11_268 k_yX9_make (k_oX39 w) (by omega) rfl (Nat.le_of_ble_eq_true rfl)) ?_
  refine k_if_eq C dX11_read_9 (tgt := 23) (by decide) (fun c9 => ?_) (fun c9 => ?_)
  · replace h := k_if_t h c9
    refine k_iconst C dX11_read_23 (v := -1) rfl ?_
    exact k_iret C dX11_read_24 hr (Option.some.inj h)
  · replace h := k_if_f h c9
    refine k_aload_n C dX11_read_12 0 rfl ?_
    refine k_get C dX11_read_13 (k_gX0_8 w) k_fX11_66 (Or.inl rfl) ?_
    refine k_iload_n C dX11_read_16 3 rfl ?_
    obtain ⟨v17, h17, h⟩ := k_bd_e h
    refine k_goI (k_runV C dX11_read_17 (e_X9_meaningOf (d := 3) (Nat.le_refl _) h17) k_lX11_275 k_yX9_meaningOf (k_oX39 w) (by omega) rfl (Nat.le_of_ble_eq_true rfl)) ?_
    refine k_goto C dX11_read_20 (tgt := 24) (by decide) ?_
    exact k_iret C dX11_read_24 hr (Option.some.inj h)
def f_X11_spread (x1 : Int32) (x2 : Int32) (σ : k_St) : Option (Int32 × k_St) :=
  k_b2 (f_X9_make x1 x2 σ) fun v6 s6 =>
  k_if (v6 = (0 : Int32))
    (some ((-1 : Int32), s6))
    (k_bd (f_X9_leastApart s6) fun v16 =>
    some (v16, s6))
set_option maxHeartbeats 4000000 in
set_option maxRecDepth 100000 in
theorem e_X11_spread {l : Launch} {w : k_WC} {d : Nat} (hd : 6 ≤ d) {x1 : Int32} {x2 : Int32}  {σ σ' : k_St} {r : Int32} (h : f_X11_spread x1 x2 σ = some (r, σ')) : k_EI l (k_PX w) yX11_spread cX11_spread 3 (some .int) d [.ref (w.2.1 0), .int x1, .int x2] σ r σ' := by
  refine k_of (own := RX11) rfl (by decide) (Nat.le_of_ble_eq_true rfl) (fun X hX C hr => ?_)
  show k_K (k_PX w) X (k_MQ X (k_Qi (k_PX w) r σ') (k_PX w).2.2.1) 0 [(0, .ref (w.2.1 0)), (1, .int x1), (2, .int x2)] [] σ
  unfold f_X11_spread at h
  refine k_aload_n C dX11_spread_0 0 rfl ?_
  refine k_get C dX11_spread_1 (k_gX0_8 w) k_fX11_66 (Or.inl rfl) ?_
  refine k_iload_n C dX11_spread_4 1 rfl ?_
  refine k_iload_n C dX11_spread_5 2 rfl ?_
  obtain ⟨v6, s6, h6, h⟩ := k_b2_e h
  refine k_goI (k_runV C dX11_spread_6 (e_X9_make (d := 5) (Nat.le_refl _) h6) k_lX11_268 k_yX9_make (k_oX39 w) (by omega) rfl (Nat.le_of_ble_eq_true rfl)) ?_
  refine k_if_eq C dX11_spread_9 (tgt := 22) (by decide) (fun c9 => ?_) (fun c9 => ?_)
  · replace h := k_if_t h c9
    refine k_iconst C dX11_spread_22 (v := -1) rfl ?_
    exact k_iret C dX11_spread_23 hr (Option.some.inj h)
  · replace h := k_if_f h c9
    refine k_aload_n C dX11_spread_12 0 rfl ?_
    refine k_get C dX11_spread_13 (k_gX0_8 w) k_fX11_66 (Or.inl rfl) ?_
    obtain ⟨v16, h16, h⟩ := k_bd_e h
    refine k_goI (k_runV C dX11_spread_16 (e_X9_leastApart (d := 3) (Nat.le_refl _) h16) k_lX11_278 k_yX9_leastApart (k_oX39 w) (by omega) rfl (Nat.le_of_ble_eq_true rfl)) ?_
    refine k_goto C dX11_spread_19 (tgt := 23) (by decide) ?_
    exact k_iret C dX11_spread_23 hr (Option.some.inj h)
def f_X11_shelve (x1 : Int32) (x2 : Int32) (σ : k_St) : Option (Int32 × k_St) :=
  k_bd (f_X11_hasLake σ) fun v1 =>
  k_if (v1 = (0 : Int32))
    (some ((0 : Int32), σ))
    (k_bd (f_X11_isShelf x2) fun v8 =>
    k_if (v8 = (0 : Int32))
      (some ((0 : Int32), σ))
      (k_if (x1 = (0 : Int32))
        (k_gd (k_ix x2 4 = true) <|
        k_nm (k_wr σ 43 x2.toNatClampNeg (k_rd σ 16 0)) fun s54 =>
        some ((1 : Int32), s54))
        (k_gd (k_ix x2 4 = true) <|
        k_nm (k_wl σ 44 x2.toNatClampNeg (k_rl σ 16 1)) fun s35 =>
        some ((1 : Int32), s35))))
set_option maxHeartbeats 4000000 in
set_option maxRecDepth 100000 in
theorem e_X11_shelve {l : Launch} {w : k_WC} {d : Nat} (hd : 4 ≤ d) {x1 : Int32} {x2 : Int32}  {σ σ' : k_St} {r : Int32} (h : f_X11_shelve x1 x2 σ = some (r, σ')) : k_EI l (k_PX w) yX11_shelve cX11_shelve 3 (some .boolean) d [.ref (w.2.1 0), .int x1, .int x2] σ r σ' := by
  refine k_of (own := RX11) rfl (by decide) (Nat.le_of_ble_eq_true rfl) (fun X hX C hr => ?_)
  show k_K (k_PX w) X (k_MQ X (k_Qi (k_PX w) r σ') (k_PX w).2.2.1) 0 [(0, .ref (w.2.1 0)), (1, .int x1), (2, .int x2)] [] σ
  unfold f_X11_shelve at h
  refine k_aload_n C dX11_shelve_0 0 rfl ?_
  obtain ⟨v1, h1, h⟩ := k_bd_e h
  refine k_goI (k_runV C dX11_shelve_1 (e_X11_hasLake (d := 2) (Nat.le_refl _) h1) k_lX11_175 k_yX11_hasLake (k_oX0 w) (by omega) rfl (Nat.le_of_ble_eq_true rfl)) ?_
  refine k_if_eq C dX11_shelve_4 (tgt := 14) (by decide) (fun c4 => ?_) (fun c4 => ?_)
  · replace h := k_if_t h c4
    refine k_iconst C dX11_shelve_14 (v := 0) rfl ?_
    exact k_zret C dX11_shelve_15 hr rfl (Option.some.inj h)
  · replace h := k_if_f h c4
    refine k_iload_n C dX11_shelve_7 2 rfl ?_
    obtain ⟨v8, h8, h⟩ := k_bd_e h
    refine k_goI (k_runS C dX11_shelve_8 (e_X11_isShelf (d := 3) (Nat.le_refl _) h8) k_lX11_281 k_yX11_isShelf (by omega) rfl (Nat.le_of_ble_eq_true rfl)) ?_
    refine k_if_ne C dX11_shelve_11 (tgt := 16) (by decide) (fun c11 => ?_) (fun c11 => ?_)
    · replace h := k_if_f h c11
      refine k_iload_n C dX11_shelve_16 1 rfl ?_
      refine k_if_eq C dX11_shelve_17 (tgt := 39) (by decide) (fun c17 => ?_) (fun c17 => ?_)
      · replace h := k_if_t h c17
        refine k_aload_n C dX11_shelve_39 0 rfl ?_
        refine k_get C dX11_shelve_40 (k_gX0_10 w) k_fX11_82 (Or.inl rfl) ?_
        refine k_get C dX11_shelve_43 (k_gX42_0 w) k_fX11_288 (Or.inl rfl) ?_
        refine k_iload_n C dX11_shelve_46 2 rfl ?_
        refine k_aload_n C dX11_shelve_47 0 rfl ?_
        refine k_get C dX11_shelve_48 (k_gX0_4 w) k_fX11_40 (Or.inl rfl) ?_
        refine k_get C dX11_shelve_51 (k_gX16_0 w) k_fX11_194 (Or.inl rfl) ?_
        obtain ⟨q54, h⟩ := k_gd_e h
        refine k_iast C dX11_shelve_54 (k_aX43 w) q54 ?_
        refine k_st (fun s54 es54 => ?_)
        replace h := k_nm_e h s54 es54
        refine k_iconst C dX11_shelve_55 (v := 1) rfl ?_
        exact k_zret C dX11_shelve_56 hr rfl (Option.some.inj h)
      · replace h := k_if_f h c17
        refine k_aload_n C dX11_shelve_20 0 rfl ?_
        refine k_get C dX11_shelve_21 (k_gX0_10 w) k_fX11_82 (Or.inl rfl) ?_
        refine k_get C dX11_shelve_24 (k_gX42_1 w) k_fX11_284 (Or.inl rfl) ?_
        refine k_iload_n C dX11_shelve_27 2 rfl ?_
        refine k_aload_n C dX11_shelve_28 0 rfl ?_
        refine k_get C dX11_shelve_29 (k_gX0_4 w) k_fX11_40 (Or.inl rfl) ?_
        refine k_get C dX11_shelve_32 (k_gX16_1 w) k_fX11_201 (Or.inl rfl) ?_
        obtain ⟨q35, h⟩ := k_gd_e h
        refine k_last C dX11_shelve_35 (k_aX44 w) q35 ?_
        refine k_st (fun s35 es35 => ?_)
        replace h := k_nm_e h s35 es35
        refine k_goto C dX11_shelve_36 (tgt := 55) (by decide) ?_
        refine k_iconst C dX11_shelve_55 (v := 1) rfl ?_
        exact k_zret C dX11_shelve_56 hr rfl (Option.some.inj h)
    · replace h := k_if_t h c11
      refine k_iconst C dX11_shelve_14 (v := 0) rfl ?_
      exact k_zret C dX11_shelve_15 hr rfl (Option.some.inj h)
def f_X11_fit (x1 : Int32) (x2 : Int32) (x3 : Int32) (σ : k_St) : Option (Int32) :=
  k_bd (f_X5_hasTugs x1 σ) fun v5 =>
  k_if (v5 = (0 : Int32))
    (some (-1 : Int32))
    (k_bd (f_X5_hasThrows x2 σ) fun v16 =>
    k_if (v16 = (0 : Int32))
      (some (-1 : Int32))
      (k_bd (f_X11_isPart x3) fun v23 =>
      k_if (v23 = (0 : Int32))
        (some (-1 : Int32))
        (k_gd (k_ix x1 4 = true) <|
        k_gd (k_ix x2 4 = true) <|
        k_bd (f_X0_above (k_rd σ 43 x1.toNatClampNeg) (k_rl σ 44 x2.toNatClampNeg) σ) fun v54 =>
        k_bd (f_X11_plainMean v54 x3 σ) fun v58 =>
        some v58)))
set_option maxHeartbeats 4000000 in
set_option maxRecDepth 100000 in
theorem e_X11_fit {l : Launch} {w : k_WC} {d : Nat} (hd : 7 ≤ d) {x1 : Int32} {x2 : Int32} {x3 : Int32}  {σ : k_St} {r : Int32} (h : f_X11_fit x1 x2 x3 σ = some r) : k_EI l (k_PX w) yX11_fit cX11_fit 4 (some .int) d [.ref (w.2.1 0), .int x1, .int x2, .int x3] σ r σ := by
  refine k_of (own := RX11) rfl (by decide) (Nat.le_of_ble_eq_true rfl) (fun X hX C hr => ?_)
  show k_K (k_PX w) X (k_MQ X (k_Qi (k_PX w) r σ) (k_PX w).2.2.1) 0 [(0, .ref (w.2.1 0)), (1, .int x1), (2, .int x2), (3, .int x3)] [] σ
  unfold f_X11_fit at h
  refine k_aload_n C dX11_fit_0 0 rfl ?_
  refine k_get C dX11_fit_1 (k_gX0_10 w) k_fX11_82 (Or.inl rfl) ?_
  refine k_iload_n C dX11_fit_4 1 rfl ?_
  obtain ⟨v5, h5, h⟩ := k_bd_e h
  refine k_goI (k_runV C dX11_fit_5 (e_X5_hasTugs (d := 4) (Nat.le_refl _) h5) k_lX11_291 k_yX5_hasTugs (k_oX42 w) (by omega) rfl (Nat.le_of_ble_eq_true rfl)) ?_
  refine k_if_eq C dX11_fit_8 (tgt := 29) (by decide) (fun c8 => ?_) (fun c8 => ?_)
  · replace h := k_if_t h c8
    refine k_iconst C dX11_fit_29 (v := -1) rfl ?_
    exact k_iret C dX11_fit_30 hr (k_p1 h)
  · replace h := k_if_f h c8
    refine k_aload_n C dX11_fit_11 0 rfl ?_
    refine k_get C dX11_fit_12 (k_gX0_10 w) k_fX11_82 (Or.inl rfl) ?_
    refine k_iload_n C dX11_fit_15 2 rfl ?_
    obtain ⟨v16, h16, h⟩ := k_bd_e h
    refine k_goI (k_runV C dX11_fit_16 (e_X5_hasThrows (d := 4) (Nat.le_refl _) h16) k_lX11_294 k_yX5_hasThrows (k_oX42 w) (by omega) rfl (Nat.le_of_ble_eq_true rfl)) ?_
    refine k_if_eq C dX11_fit_19 (tgt := 29) (by decide) (fun c19 => ?_) (fun c19 => ?_)
    · replace h := k_if_t h c19
      refine k_iconst C dX11_fit_29 (v := -1) rfl ?_
      exact k_iret C dX11_fit_30 hr (k_p1 h)
    · replace h := k_if_f h c19
      refine k_iload_n C dX11_fit_22 3 rfl ?_
      obtain ⟨v23, h23, h⟩ := k_bd_e h
      refine k_goI (k_runS C dX11_fit_23 (e_X11_isPart (d := 3) (Nat.le_refl _) h23) k_lX11_220 k_yX11_isPart (by omega) rfl (Nat.le_of_ble_eq_true rfl)) ?_
      refine k_if_ne C dX11_fit_26 (tgt := 31) (by decide) (fun c26 => ?_) (fun c26 => ?_)
      · replace h := k_if_f h c26
        refine k_aload_n C dX11_fit_31 0 rfl ?_
        refine k_aload_n C dX11_fit_32 0 rfl ?_
        refine k_get C dX11_fit_33 (k_gX0_6 w) k_fX11_52 (Or.inl rfl) ?_
        refine k_aload_n C dX11_fit_36 0 rfl ?_
        refine k_get C dX11_fit_37 (k_gX0_10 w) k_fX11_82 (Or.inl rfl) ?_
        refine k_get C dX11_fit_40 (k_gX42_0 w) k_fX11_288 (Or.inl rfl) ?_
        refine k_iload_n C dX11_fit_43 1 rfl ?_
        obtain ⟨q44, h⟩ := k_gd_e h
        refine k_iald C dX11_fit_44 (k_aX43 w) q44 ?_
        refine k_aload_n C dX11_fit_45 0 rfl ?_
        refine k_get C dX11_fit_46 (k_gX0_10 w) k_fX11_82 (Or.inl rfl) ?_
        refine k_get C dX11_fit_49 (k_gX42_1 w) k_fX11_284 (Or.inl rfl) ?_
        refine k_iload_n C dX11_fit_52 2 rfl ?_
        obtain ⟨q53, h⟩ := k_gd_e h
        refine k_lald C dX11_fit_53 (k_aX44 w) q53 ?_
        obtain ⟨v54, h54, h⟩ := k_bd_e h
        refine k_goL (k_runV C dX11_fit_54 (e_X0_above (d := 6) (Nat.le_refl _) h54) k_lX11_223 k_yX0_above (k_oX30 w) (by omega) rfl (Nat.le_of_ble_eq_true rfl)) ?_
        refine k_iload_n C dX11_fit_57 3 rfl ?_
        obtain ⟨v58, h58, h⟩ := k_bd_e h
        refine k_goI (k_runV C dX11_fit_58 (e_X11_plainMean (d := 4) (Nat.le_refl _) h58) k_lX11_227 k_yX11_plainMean (k_oX0 w) (by omega) rfl (Nat.le_of_ble_eq_true rfl)) ?_
        exact k_iret C dX11_fit_61 hr (k_p1 h)
      · replace h := k_if_t h c26
        refine k_iconst C dX11_fit_29 (v := -1) rfl ?_
        exact k_iret C dX11_fit_30 hr (k_p1 h)
def f_X11_pair (x1 : Int32) (σ : k_St) : Option (Int32 × k_St) :=
  k_bd (f_X5_hasTugs x1 σ) fun v5 =>
  k_if (v5 = (0 : Int32))
    (some ((-1 : Int32), σ))
    (k_bd (f_X5_reckonFits σ) fun s17 =>
    k_b2 (f_X5_pairOf x1 s17) fun v25 s25 =>
    some (v25, s25))
set_option maxHeartbeats 4000000 in
set_option maxRecDepth 100000 in
theorem e_X11_pair {l : Launch} {w : k_WC} {d : Nat} (hd : 8 ≤ d) {x1 : Int32}  {σ σ' : k_St} {r : Int32} (h : f_X11_pair x1 σ = some (r, σ')) : k_EI l (k_PX w) yX11_pair cX11_pair 2 (some .int) d [.ref (w.2.1 0), .int x1] σ r σ' := by
  refine k_of (own := RX11) rfl (by decide) (Nat.le_of_ble_eq_true rfl) (fun X hX C hr => ?_)
  show k_K (k_PX w) X (k_MQ X (k_Qi (k_PX w) r σ') (k_PX w).2.2.1) 0 [(0, .ref (w.2.1 0)), (1, .int x1)] [] σ
  unfold f_X11_pair at h
  refine k_aload_n C dX11_pair_0 0 rfl ?_
  refine k_get C dX11_pair_1 (k_gX0_10 w) k_fX11_82 (Or.inl rfl) ?_
  refine k_iload_n C dX11_pair_4 1 rfl ?_
  obtain ⟨v5, h5, h⟩ := k_bd_e h
  refine k_goI (k_runV C dX11_pair_5 (e_X5_hasTugs (d := 4) (Nat.le_refl _) h5) k_lX11_291 k_yX5_hasTugs (k_oX42 w) (by omega) rfl (Nat.le_of_ble_eq_true rfl)) ?_
  refine k_if_ne C dX11_pair_8 (tgt := 13) (by decide) (fun c8 => ?_) (fun c8 => ?_)
  · replace h := k_if_f h c8
    refine k_aload_n C dX11_pair_13 0 rfl ?_
    refine k_get C dX11_pair_14 (k_gX0_10 w) k_fX11_82 (Or.inl rfl) ?_
    obtain ⟨s17, h17, h⟩ := k_bd_e h
    refine k_goV (k_runV C dX11_pair_17 (e_X5_reckonFits (d := 7) (Nat.le_refl _) h17) k_lX11_297 k_yX5_reckonFits (k_oX42 w) (by omega) rfl (Nat.le_of_ble_eq_true rfl)) ?_
    refine k_aload_n C dX11_pair_20 0 rfl ?_
    refine k_get C dX11_pair_21 (k_gX0_10 w) k_fX11_82 (Or.inl rfl) ?_
    refine k_iload_n C dX11_pair_24 1 rfl ?_
    obtain ⟨v25, s25, h25, h⟩ := k_b2_e h
    refine k_goI (k_runV C dX11_pair_25 (e_X5_pairOf (d := 3) (Nat.le_refl _) h25) k_lX11_300 k_yX5_pairOf (k_oX42 w) (by omega) rfl (Nat.le_of_ble_eq_true rfl)) ?_
    exact k_iret C dX11_pair_28 hr (Option.some.inj h)
  · replace h := k_if_t h c8
    refine k_iconst C dX11_pair_11 (v := -1) rfl ?_
    exact k_iret C dX11_pair_12 hr (Option.some.inj h)
def f_X11_leavers (x1 : Int32) (x2 : Int32) (σ : k_St) : Option (Int32 × k_St) :=
  k_bd (f_X11_hasLake σ) fun v1 =>
  k_if (v1 = (0 : Int32))
    (some ((-1 : Int32), σ))
    (k_bd (f_X5_isRow x1 σ) fun v12 =>
    k_if (v12 = (0 : Int32))
      (some ((-1 : Int32), σ))
      (k_bd (f_X5_reckonFits σ) fun s24 =>
      k_b2 (f_X5_listLeavers x1 x2 s24) fun v33 s33 =>
      some (v33, s33)))
set_option maxHeartbeats 4000000 in
set_option maxRecDepth 100000 in
theorem e_X11_leavers {l : Launch} {w : k_WC} {d : Nat} (hd : 8 ≤ d) {x1 : Int32} {x2 : Int32}  {σ σ' : k_St} {r : Int32} (h : f_X11_leavers x1 x2 σ = some (r, σ')) : k_EI l (k_PX w) yX11_leavers cX11_leavers 3 (some .int) d [.ref (w.2.1 0), .int x1, .int x2] σ r σ' := by
  refine k_of (own := RX11) rfl (by decide) (Nat.le_of_ble_eq_true rfl) (fun X hX C hr => ?_)
  show k_K (k_PX w) X (k_MQ X (k_Qi (k_PX w) r σ') (k_PX w).2.2.1) 0 [(0, .ref (w.2.1 0)), (1, .int x1), (2, .int x2)] [] σ
  unfold f_X11_leavers at h
  refine k_aload_n C dX11_leavers_0 0 rfl ?_
  obtain ⟨v1, h1, h⟩ := k_bd_e h
  refine k_goI (k_runV C dX11_leavers_1 (e_X11_hasLake (d := 2) (Nat.le_refl _) h1) k_lX11_175 k_yX11_hasLake (k_oX0 w) (by omega) rfl (Nat.le_of_ble_eq_true rfl)) ?_
  refine k_if_eq C dX11_leavers_4 (tgt := 18) (by decide) (fun c4 => ?_) (fun c4 => ?_)
  · replace h := k_if_t h c4
    refine k_iconst C dX11_leavers_18 (v := -1) rfl ?_
    exact k_iret C dX11_leavers_19 hr (Option.some.inj h)
  · replace h := k_if_f h c4
    refine k_aload_n C dX11_leavers_7 0 rfl ?_
    refine k_get C dX11_leavers_8 (k_gX0_10 w) k_fX11_82 (Or.inl rfl) ?_
    refine k_iload_n C dX11_leavers_11 1 rfl ?_
    obtain ⟨v12, h12, h⟩ := k_bd_e h
    refine k_goI (k_runV C dX11_leavers_12 (e_X5_isRow (d := 5) (Nat.le_refl _) h12) k_lX11_303 k_yX5_isRow (k_oX42 w) (by omega) rfl (Nat.le_of_ble_eq_true rfl)) ?_
    refine k_if_ne C dX11_leavers_15 (tgt := 20) (by decide) (fun c15 => ?_) (fun c15 => ?_)
    · replace h := k_if_f h c15
      refine k_aload_n C dX11_leavers_20 0 rfl ?_
      refine k_get C dX11_leavers_21 (k_gX0_10 w) k_fX11_82 (Or.inl rfl) ?_
      obtain ⟨s24, h24, h⟩ := k_bd_e h
      refine k_goV (k_runV C dX11_leavers_24 (e_X5_reckonFits (d := 7) (Nat.le_refl _) h24) k_lX11_297 k_yX5_reckonFits (k_oX42 w) (by omega) rfl (Nat.le_of_ble_eq_true rfl)) ?_
      refine k_aload_n C dX11_leavers_27 0 rfl ?_
      refine k_get C dX11_leavers_28 (k_gX0_10 w) k_fX11_82 (Or.inl rfl) ?_
      refine k_iload_n C dX11_leavers_31 1 rfl ?_
      refine k_iload_n C dX11_leavers_32 2 rfl ?_
      obtain ⟨v33, s33, h33, h⟩ := k_b2_e h
      refine k_goI (k_runV C dX11_leavers_33 (e_X5_listLeavers (d := 5) (Nat.le_refl _) h33) k_lX11_306 k_yX5_listLeavers (k_oX42 w) (by omega) rfl (Nat.le_of_ble_eq_true rfl)) ?_
      exact k_iret C dX11_leavers_36 hr (Option.some.inj h)
    · replace h := k_if_t h c15
      refine k_iconst C dX11_leavers_18 (v := -1) rfl ?_
      exact k_iret C dX11_leavers_19 hr (Option.some.inj h)
def f_X11_crossed (x1 : Int32) (x2 : Int32) (x3 : Int32) (σ : k_St) : Option (Int64) :=
  k_bd (f_X5_isBoat x1 σ) fun v5 =>
  k_if (v5 = (0 : Int32))
    (some (-1 : Int64))
    (k_bd (f_X5_isBoat x2 σ) fun v16 =>
    k_if (v16 = (0 : Int32))
      (some (-1 : Int64))
      (k_bd (f_X11_isPart x3) fun v23 =>
      k_if (v23 = (0 : Int32))
        (some (-1 : Int64))
        (k_bd (f_X5_gainOf x1 x2 σ) fun v39 =>
        k_bd (f_X11_plain v39 ((10000 : Int64) * (k_rd σ 12 2).toInt64) x3) fun v55 =>
        some v55)))
set_option maxHeartbeats 4000000 in
set_option maxRecDepth 100000 in
theorem e_X11_crossed {l : Launch} {w : k_WC} {d : Nat} (hd : 7 ≤ d) {x1 : Int32} {x2 : Int32} {x3 : Int32}  {σ : k_St} {r : Int64} (h : f_X11_crossed x1 x2 x3 σ = some r) : k_EL l (k_PX w) yX11_crossed cX11_crossed 4 d [.ref (w.2.1 0), .int x1, .int x2, .int x3] σ r σ := by
  refine k_of (own := RX11) rfl (by decide) (Nat.le_of_ble_eq_true rfl) (fun X hX C hr => ?_)
  show k_K (k_PX w) X (k_MQ X (k_Ql (k_PX w) r σ) (k_PX w).2.2.1) 0 [(0, .ref (w.2.1 0)), (1, .int x1), (2, .int x2), (3, .int x3)] [] σ
  unfold f_X11_crossed at h
  refine k_aload_n C dX11_crossed_0 0 rfl ?_
  refine k_get C dX11_crossed_1 (k_gX0_10 w) k_fX11_82 (Or.inl rfl) ?_
  refine k_iload_n C dX11_crossed_4 1 rfl ?_
  obtain ⟨v5, h5, h⟩ := k_bd_e h
  refine k_goI (k_runV C dX11_crossed_5 (e_X5_isBoat (d := 5) (Nat.le_refl _) h5) k_lX11_309 k_yX5_isBoat (k_oX42 w) (by omega) rfl (Nat.le_of_ble_eq_true rfl)) ?_
  refine k_if_eq C dX11_crossed_8 (tgt := 29) (by decide) (fun c8 => ?_) (fun c8 => ?_)
  · replace h := k_if_t h c8
    refine k_ldc2 C dX11_crossed_29 k_cX11_260 ?_
    exact k_lret C dX11_crossed_32 hr (k_p1 h)
  · replace h := k_if_f h c8
    refine k_aload_n C dX11_crossed_11 0 rfl ?_
    refine k_get C dX11_crossed_12 (k_gX0_10 w) k_fX11_82 (Or.inl rfl) ?_
    refine k_iload_n C dX11_crossed_15 2 rfl ?_
    obtain ⟨v16, h16, h⟩ := k_bd_e h
    refine k_goI (k_runV C dX11_crossed_16 (e_X5_isBoat (d := 5) (Nat.le_refl _) h16) k_lX11_309 k_yX5_isBoat (k_oX42 w) (by omega) rfl (Nat.le_of_ble_eq_true rfl)) ?_
    refine k_if_eq C dX11_crossed_19 (tgt := 29) (by decide) (fun c19 => ?_) (fun c19 => ?_)
    · replace h := k_if_t h c19
      refine k_ldc2 C dX11_crossed_29 k_cX11_260 ?_
      exact k_lret C dX11_crossed_32 hr (k_p1 h)
    · replace h := k_if_f h c19
      refine k_iload_n C dX11_crossed_22 3 rfl ?_
      obtain ⟨v23, h23, h⟩ := k_bd_e h
      refine k_goI (k_runS C dX11_crossed_23 (e_X11_isPart (d := 3) (Nat.le_refl _) h23) k_lX11_220 k_yX11_isPart (by omega) rfl (Nat.le_of_ble_eq_true rfl)) ?_
      refine k_if_ne C dX11_crossed_26 (tgt := 33) (by decide) (fun c26 => ?_) (fun c26 => ?_)
      · replace h := k_if_f h c26
        refine k_aload_n C dX11_crossed_33 0 rfl ?_
        refine k_get C dX11_crossed_34 (k_gX0_10 w) k_fX11_82 (Or.inl rfl) ?_
        refine k_iload_n C dX11_crossed_37 1 rfl ?_
        refine k_iload_n C dX11_crossed_38 2 rfl ?_
        obtain ⟨v39, h39, h⟩ := k_bd_e h
        refine k_goL (k_runV C dX11_crossed_39 (e_X5_gainOf (d := 6) (Nat.le_refl _) h39) k_lX11_312 k_yX5_gainOf (k_oX42 w) (by omega) rfl (Nat.le_of_ble_eq_true rfl)) ?_
        refine k_ldc2 C dX11_crossed_42 k_cX11_316 ?_
        refine k_aload_n C dX11_crossed_45 0 rfl ?_
        refine k_get C dX11_crossed_46 (k_gX0_3 w) k_fX11_33 (Or.inl rfl) ?_
        refine k_get C dX11_crossed_49 (k_gX12_2 w) k_fX11_318 (Or.inl rfl) ?_
        refine k_i2l C dX11_crossed_52 ?_
        refine k_lmul C dX11_crossed_53 ?_
        refine k_iload_n C dX11_crossed_54 3 rfl ?_
        obtain ⟨v55, h55, h⟩ := k_bd_e h
        refine k_goL (k_runS C dX11_crossed_55 (e_X11_plain (d := 3) (Nat.le_refl _) h55) k_lX11_321 k_yX11_plain (by omega) rfl (Nat.le_of_ble_eq_true rfl)) ?_
        exact k_lret C dX11_crossed_58 hr (k_p1 h)
      · replace h := k_if_t h c26
        refine k_ldc2 C dX11_crossed_29 k_cX11_260 ?_
        exact k_lret C dX11_crossed_32 hr (k_p1 h)
def f_X11_rests (x1 : Int32) (x2 : Int32) (x3 : Int32) (σ : k_St) : Option (Int32 × k_St) :=
  k_bd (f_X5_hasTugs x1 σ) fun v5 =>
  k_if (v5 = (0 : Int32))
    (some ((-1 : Int32), σ))
    (k_bd (f_X5_hasTugs x2 σ) fun v16 =>
    k_if (v16 = (0 : Int32))
      (some ((-1 : Int32), σ))
      (k_bd (f_X5_reckonGains x1 x2 σ) fun s30 =>
      k_b2 (f_X5_listRests x3 s30) fun v38 s38 =>
      some (v38, s38)))
set_option maxHeartbeats 4000000 in
set_option maxRecDepth 100000 in
theorem e_X11_rests {l : Launch} {w : k_WC} {d : Nat} (hd : 8 ≤ d) {x1 : Int32} {x2 : Int32} {x3 : Int32}  {σ σ' : k_St} {r : Int32} (h : f_X11_rests x1 x2 x3 σ = some (r, σ')) : k_EI l (k_PX w) yX11_rests cX11_rests 4 (some .int) d [.ref (w.2.1 0), .int x1, .int x2, .int x3] σ r σ' := by
  refine k_of (own := RX11) rfl (by decide) (Nat.le_of_ble_eq_true rfl) (fun X hX C hr => ?_)
  show k_K (k_PX w) X (k_MQ X (k_Qi (k_PX w) r σ') (k_PX w).2.2.1) 0 [(0, .ref (w.2.1 0)), (1, .int x1), (2, .int x2), (3, .int x3)] [] σ
  unfold f_X11_rests at h
  refine k_aload_n C dX11_rests_0 0 rfl ?_
  refine k_get C dX11_rests_1 (k_gX0_10 w) k_fX11_82 (Or.inl rfl) ?_
  refine k_iload_n C dX11_rests_4 1 rfl ?_
  obtain ⟨v5, h5, h⟩ := k_bd_e h
  refine k_goI (k_runV C dX11_rests_5 (e_X5_hasTugs (d := 4) (Nat.le_refl _) h5) k_lX11_291 k_yX5_hasTugs (k_oX42 w) (by omega) rfl (Nat.le_of_ble_eq_true rfl)) ?_
  refine k_if_eq C dX11_rests_8 (tgt := 22) (by decide) (fun c8 => ?_) (fun c8 => ?_)
  · replace h := k_if_t h c8
    refine k_iconst C dX11_rests_22 (v := -1) rfl ?_
    exact k_iret C dX11_rests_23 hr (Option.some.inj h)
  · replace h := k_if_f h c8
    refine k_aload_n C dX11_rests_11 0 rfl ?_
    refine k_get C dX11_rests_12 (k_gX0_10 w) k_fX11_82 (Or.inl rfl) ?_
    refine k_iload_n C dX11_rests_15 2 rfl ?_
    obtain ⟨v16, h16, h⟩ := k_bd_e h
    refine k_goI (k_runV C dX11_rests_16 (e_X5_hasTugs (d := 4) (Nat.le_refl _) h16) k_lX11_291 k_yX5_hasTugs (k_oX42 w) (by omega) rfl (Nat.le_of_ble_eq_true rfl)) ?_
    refine k_if_ne C dX11_rests_19 (tgt := 24) (by decide) (fun c19 => ?_) (fun c19 => ?_)
    · replace h := k_if_f h c19
      refine k_aload_n C dX11_rests_24 0 rfl ?_
      refine k_get C dX11_rests_25 (k_gX0_10 w) k_fX11_82 (Or.inl rfl) ?_
      refine k_iload_n C dX11_rests_28 1 rfl ?_
      refine k_iload_n C dX11_rests_29 2 rfl ?_
      obtain ⟨s30, h30, h⟩ := k_bd_e h
      refine k_goV (k_runV C dX11_rests_30 (e_X5_reckonGains (d := 7) (Nat.le_refl _) h30) k_lX11_325 k_yX5_reckonGains (k_oX42 w) (by omega) rfl (Nat.le_of_ble_eq_true rfl)) ?_
      refine k_aload_n C dX11_rests_33 0 rfl ?_
      refine k_get C dX11_rests_34 (k_gX0_10 w) k_fX11_82 (Or.inl rfl) ?_
      refine k_iload_n C dX11_rests_37 3 rfl ?_
      obtain ⟨v38, s38, h38, h⟩ := k_b2_e h
      refine k_goI (k_runV C dX11_rests_38 (e_X5_listRests (d := 5) (Nat.le_refl _) h38) k_lX11_329 k_yX5_listRests (k_oX42 w) (by omega) rfl (Nat.le_of_ble_eq_true rfl)) ?_
      exact k_iret C dX11_rests_41 hr (Option.some.inj h)
    · replace h := k_if_t h c19
      refine k_iconst C dX11_rests_22 (v := -1) rfl ?_
      exact k_iret C dX11_rests_23 hr (Option.some.inj h)
def f_X11_see (x1 : Int32) (x2 : Int32) (σ : k_St) : Option (Int32 × k_St) :=
  k_bd (f_X11_isPlace x1 σ) fun v2 =>
  k_if (v2 = (0 : Int32))
    (some ((-1 : Int32), σ))
    (k_bd (f_X11_isPlace x2 σ) fun v10 =>
    k_if (v10 = (0 : Int32))
      (some ((-1 : Int32), σ))
      (k_if ((k_rd σ 0 13) < (20 : Int32))
        (k_gd (k_ix (k_rd σ 0 13) 20 = true) <|
        k_nm (k_wr σ 48 (k_rd σ 0 13).toNatClampNeg x1) fun s36 =>
        k_gd (k_ix (k_rd s36 0 13) 20 = true) <|
        k_nm (k_wr s36 49 (k_rd s36 0 13).toNatClampNeg x2) fun s46 =>
        k_nm (k_wr s46 0 13 ((k_rd s46 0 13) + (1 : Int32))) fun s54 =>
        some ((k_rd s54 0 13), s54))
        (some ((-1 : Int32), σ))))
set_option maxHeartbeats 4000000 in
set_option maxRecDepth 100000 in
theorem e_X11_see {l : Launch} {w : k_WC} {d : Nat} (hd : 4 ≤ d) {x1 : Int32} {x2 : Int32}  {σ σ' : k_St} {r : Int32} (h : f_X11_see x1 x2 σ = some (r, σ')) : k_EI l (k_PX w) yX11_see cX11_see 3 (some .int) d [.ref (w.2.1 0), .int x1, .int x2] σ r σ' := by
  refine k_of (own := RX11) rfl (by decide) (Nat.le_of_ble_eq_true rfl) (fun X hX C hr => ?_)
  show k_K (k_PX w) X (k_MQ X (k_Qi (k_PX w) r σ') (k_PX w).2.2.1) 0 [(0, .ref (w.2.1 0)), (1, .int x1), (2, .int x2)] [] σ
  unfold f_X11_see at h
  refine k_aload_n C dX11_see_0 0 rfl ?_
  refine k_iload_n C dX11_see_1 1 rfl ?_
  obtain ⟨v2, h2, h⟩ := k_bd_e h
  refine k_goI (k_runV C dX11_see_2 (e_X11_isPlace (d := 3) (Nat.le_refl _) h2) k_lX11_158 k_yX11_isPlace (k_oX0 w) (by omega) rfl (Nat.le_of_ble_eq_true rfl)) ?_
  refine k_if_eq C dX11_see_5 (tgt := 25) (by decide) (fun c5 => ?_) (fun c5 => ?_)
  · replace h := k_if_t h c5
    refine k_iconst C dX11_see_25 (v := -1) rfl ?_
    exact k_iret C dX11_see_26 hr (Option.some.inj h)
  · replace h := k_if_f h c5
    refine k_aload_n C dX11_see_8 0 rfl ?_
    refine k_iload_n C dX11_see_9 2 rfl ?_
    obtain ⟨v10, h10, h⟩ := k_bd_e h
    refine k_goI (k_runV C dX11_see_10 (e_X11_isPlace (d := 3) (Nat.le_refl _) h10) k_lX11_158 k_yX11_isPlace (k_oX0 w) (by omega) rfl (Nat.le_of_ble_eq_true rfl)) ?_
    refine k_if_eq C dX11_see_13 (tgt := 25) (by decide) (fun c13 => ?_) (fun c13 => ?_)
    · replace h := k_if_t h c13
      refine k_iconst C dX11_see_25 (v := -1) rfl ?_
      exact k_iret C dX11_see_26 hr (Option.some.inj h)
    · replace h := k_if_f h c13
      refine k_aload_n C dX11_see_16 0 rfl ?_
      refine k_get C dX11_see_17 (k_gX0_13 w) k_fX11_93 (Or.inl rfl) ?_
      refine k_bipush C dX11_see_20 (v := 20) rfl ?_
      refine k_icmp_lt C dX11_see_22 (tgt := 27) (by decide) (fun c22 => ?_) (fun c22 => ?_)
      · replace h := k_if_t h c22
        refine k_aload_n C dX11_see_27 0 rfl ?_
        refine k_get C dX11_see_28 (k_gX0_11 w) k_fX11_86 (Or.inl rfl) ?_
        refine k_aload_n C dX11_see_31 0 rfl ?_
        refine k_get C dX11_see_32 (k_gX0_13 w) k_fX11_93 (Or.inl rfl) ?_
        refine k_iload_n C dX11_see_35 1 rfl ?_
        obtain ⟨q36, h⟩ := k_gd_e h
        refine k_iast C dX11_see_36 (k_aX48 w) q36 ?_
        refine k_st (fun s36 es36 => ?_)
        replace h := k_nm_e h s36 es36
        refine k_aload_n C dX11_see_37 0 rfl ?_
        refine k_get C dX11_see_38 (k_gX0_12 w) k_fX11_90 (Or.inl rfl) ?_
        refine k_aload_n C dX11_see_41 0 rfl ?_
        refine k_get C dX11_see_42 (k_gX0_13 w) k_fX11_93 (Or.inl rfl) ?_
        refine k_iload_n C dX11_see_45 2 rfl ?_
        obtain ⟨q46, h⟩ := k_gd_e h
        refine k_iast C dX11_see_46 (k_aX49 w) q46 ?_
        refine k_st (fun s46 es46 => ?_)
        replace h := k_nm_e h s46 es46
        refine k_aload_n C dX11_see_47 0 rfl ?_
        refine k_dup C dX11_see_48 rfl ?_
        refine k_get C dX11_see_49 (k_gX0_13 w) k_fX11_93 (Or.inl rfl) ?_
        refine k_iconst C dX11_see_52 (v := 1) rfl ?_
        refine k_iadd C dX11_see_53 ?_
        refine k_puti C dX11_see_54 (k_pX0_13 w) k_fX11_93 (Or.inl rfl) k_xi ?_
        refine k_st (fun s54 es54 => ?_)
        replace h := k_nm_e h s54 es54
        refine k_aload_n C dX11_see_57 0 rfl ?_
        refine k_get C dX11_see_58 (k_gX0_13 w) k_fX11_93 (Or.inl rfl) ?_
        exact k_iret C dX11_see_61 hr (Option.some.inj h)
      · replace h := k_if_f h c22
        refine k_iconst C dX11_see_25 (v := -1) rfl ?_
        exact k_iret C dX11_see_26 hr (Option.some.inj h)
def f_X11_canBeMeant (x1 : Int32) (σ : k_St) : Option (Int32) :=
  k_loop (fun (g2 : Int32 → Option (Int32)) (z2 : Int32) => match z2 with
    | v2_2 =>
      k_if ((k_rd σ 0 13) ≤ v2_2)
        (some (1 : Int32))
        (k_if ((20 : Int32) ≤ v2_2)
          (some (1 : Int32))
          (k_gd (k_ix v2_2 20 = true) <|
          k_nm ((k_rd σ 48 v2_2.toNatClampNeg)) fun y22 =>
          k_bd (f_X1_heard y22 (k_rd σ 16 4) σ) fun v36 =>
          k_bd (f_X11_signOf x1 v36) fun v39 =>
          k_bd (f_X1_seen y22 (k_rd σ 16 3) σ) fun v63 =>
          k_bd (f_X11_placeOf (k_rl σ 16 1) v63 v39) fun v68 =>
          k_gd (k_ix v2_2 20 = true) <|
          k_if (v68 = (k_rd σ 49 v2_2.toNatClampNeg))
            (k_nm (v2_2 + (1 : Int32)) fun y82 =>
            g2 y82)
            (some (0 : Int32))))) 100000 (0 : Int32)
set_option maxHeartbeats 4000000 in
set_option maxRecDepth 100000 in
theorem e_X11_canBeMeant {l : Launch} {w : k_WC} {d : Nat} (hd : 4 ≤ d) {x1 : Int32}  {σ : k_St} {r : Int32} (h : f_X11_canBeMeant x1 σ = some r) : k_EI l (k_PX w) yX11_canBeMeant cX11_canBeMeant 5 (some .boolean) d [.ref (w.2.1 0), .int x1] σ r σ := by
  refine k_of (own := RX11) rfl (by decide) (Nat.le_of_ble_eq_true rfl) (fun X hX C hr => ?_)
  show k_K (k_PX w) X (k_MQ X (k_Qi (k_PX w) r σ) (k_PX w).2.2.1) 0 [(0, .ref (w.2.1 0)), (1, .int x1)] [] σ
  unfold f_X11_canBeMeant at h
  refine k_iconst C dX11_canBeMeant_0 (v := 0) rfl ?_
  refine k_istore_n C dX11_canBeMeant_1 (by decide) [1, 2, 0] (L' := [(0, .ref (w.2.1 0)), (1, .int x1), (2, .int (0 : Int32))]) rfl ?_
  obtain ⟨b2, eb2, h⟩ := k_lp_e h
  have K2 : ∀ (n : Nat) (v2_2 : Int32), k_loop b2 n v2_2 = some r → k_K (k_PX w) X (k_MQ X (k_Qi (k_PX w) r σ) (k_PX w).2.2.1) 2 [(0, .ref (w.2.1 0)), (1, .int x1), (2, .int v2_2)] [] σ := by
    intro n
    induction n with
    | zero => intro v2_2 h; cases h
    | succ n ih2 =>
      intro v2_2 h
      obtain ⟨g2, eg2, h⟩ := k_lp_s h
      rw [← eg2] at ih2
      rw [eb2] at h
      refine k_iload_n C dX11_canBeMeant_2 2 rfl ?_
      refine k_aload_n C dX11_canBeMeant_3 0 rfl ?_
      refine k_get C dX11_canBeMeant_4 (k_gX0_13 w) k_fX11_93 (Or.inl rfl) ?_
      refine k_icmp_ge C dX11_canBeMeant_7 (tgt := 88) (by decide) (fun c7 => ?_) (fun c7 => ?_)
      · replace h := k_if_t h c7
        refine k_iconst C dX11_canBeMeant_88 (v := 1) rfl ?_
        exact k_zret C dX11_canBeMeant_89 hr rfl (k_p1 h)
      · replace h := k_if_f h c7
        refine k_iload_n C dX11_canBeMeant_10 2 rfl ?_
        refine k_bipush C dX11_canBeMeant_11 (v := 20) rfl ?_
        refine k_icmp_ge C dX11_canBeMeant_13 (tgt := 88) (by decide) (fun c13 => ?_) (fun c13 => ?_)
        · replace h := k_if_t h c13
          refine k_iconst C dX11_canBeMeant_88 (v := 1) rfl ?_
          exact k_zret C dX11_canBeMeant_89 hr rfl (k_p1 h)
        · replace h := k_if_f h c13
          refine k_aload_n C dX11_canBeMeant_16 0 rfl ?_
          refine k_get C dX11_canBeMeant_17 (k_gX0_11 w) k_fX11_86 (Or.inl rfl) ?_
          refine k_iload_n C dX11_canBeMeant_20 2 rfl ?_
          obtain ⟨q21, h⟩ := k_gd_e h
          refine k_iald C dX11_canBeMeant_21 (k_aX48 w) q21 ?_
          refine k_topi (fun y22 ey22 => ?_)
          replace h := k_nm_e h y22 ey22
          refine k_istore_n C dX11_canBeMeant_22 (by decide) [1, 2, 3, 0] (L' := [(0, .ref (w.2.1 0)), (1, .int x1), (2, .int v2_2), (3, .int y22)]) rfl ?_
          refine k_iload_n C dX11_canBeMeant_23 1 rfl ?_
          refine k_aload_n C dX11_canBeMeant_24 0 rfl ?_
          refine k_get C dX11_canBeMeant_25 (k_gX0_3 w) k_fX11_33 (Or.inl rfl) ?_
          refine k_iload_n C dX11_canBeMeant_28 3 rfl ?_
          refine k_aload_n C dX11_canBeMeant_29 0 rfl ?_
          refine k_get C dX11_canBeMeant_30 (k_gX0_4 w) k_fX11_40 (Or.inl rfl) ?_
          refine k_get C dX11_canBeMeant_33 (k_gX16_4 w) k_fX11_185 (Or.inl rfl) ?_
          obtain ⟨v36, h36, h⟩ := k_bd_e h
          refine k_goI (k_runV C dX11_canBeMeant_36 (e_X1_heard (d := 3) (Nat.le_refl _) h36) k_lX11_335 k_yX1_heard (k_oX12 w) (by omega) rfl (Nat.le_of_ble_eq_true rfl)) ?_
          obtain ⟨v39, h39, h⟩ := k_bd_e h
          refine k_goI (k_runS C dX11_canBeMeant_39 (e_X11_signOf (d := 2) (Nat.le_refl _) h39) k_lX11_339 k_yX11_signOf (by omega) rfl (Nat.le_of_ble_eq_true rfl)) ?_
          refine k_istore C dX11_canBeMeant_42 (by decide) [1, 2, 3, 4, 0] (L' := [(0, .ref (w.2.1 0)), (1, .int x1), (2, .int v2_2), (3, .int y22), (4, .int v39)]) rfl ?_
          refine k_aload_n C dX11_canBeMeant_44 0 rfl ?_
          refine k_get C dX11_canBeMeant_45 (k_gX0_4 w) k_fX11_40 (Or.inl rfl) ?_
          refine k_get C dX11_canBeMeant_48 (k_gX16_1 w) k_fX11_201 (Or.inl rfl) ?_
          refine k_aload_n C dX11_canBeMeant_51 0 rfl ?_
          refine k_get C dX11_canBeMeant_52 (k_gX0_3 w) k_fX11_33 (Or.inl rfl) ?_
          refine k_iload_n C dX11_canBeMeant_55 3 rfl ?_
          refine k_aload_n C dX11_canBeMeant_56 0 rfl ?_
          refine k_get C dX11_canBeMeant_57 (k_gX0_4 w) k_fX11_40 (Or.inl rfl) ?_
          refine k_get C dX11_canBeMeant_60 (k_gX16_3 w) k_fX11_182 (Or.inl rfl) ?_
          obtain ⟨v63, h63, h⟩ := k_bd_e h
          refine k_goI (k_runV C dX11_canBeMeant_63 (e_X1_seen (d := 3) (Nat.le_refl _) h63) k_lX11_342 k_yX1_seen (k_oX12 w) (by omega) rfl (Nat.le_of_ble_eq_true rfl)) ?_
          refine k_iload C dX11_canBeMeant_66 4 rfl ?_
          obtain ⟨v68, h68, h⟩ := k_bd_e h
          refine k_goI (k_runS C dX11_canBeMeant_68 (e_X11_placeOf (d := 2) (Nat.le_refl _) h68) k_lX11_209 k_yX11_placeOf (by omega) rfl (Nat.le_of_ble_eq_true rfl)) ?_
          refine k_aload_n C dX11_canBeMeant_71 0 rfl ?_
          refine k_get C dX11_canBeMeant_72 (k_gX0_12 w) k_fX11_90 (Or.inl rfl) ?_
          refine k_iload_n C dX11_canBeMeant_75 2 rfl ?_
          obtain ⟨q76, h⟩ := k_gd_e h
          refine k_iald C dX11_canBeMeant_76 (k_aX49 w) q76 ?_
          refine k_icmp_eq C dX11_canBeMeant_77 (tgt := 82) (by decide) (fun c77 => ?_) (fun c77 => ?_)
          · replace h := k_if_t h c77
            refine k_iinc C dX11_canBeMeant_82 2 rfl (v := 1) rfl (by decide) [1, 2, 0, 3, 4] (L' := fun z9 => [(0, .ref (w.2.1 0)), (1, .int x1), (2, .int z9), (3, .int y22), (4, .int v39)]) (fun z9 => rfl) (fun y82 ey82 => ?_)
            replace h := k_nm_e h y82 ey82
            refine k_goto C dX11_canBeMeant_85 (tgt := 2) (by decide) ?_
            refine k_sub (L' := [(0, .ref (w.2.1 0)), (1, .int x1), (2, .int y82)]) [0, 1, 2] rfl ?_
            exact ih2 _ h
          · replace h := k_if_f h c77
            refine k_iconst C dX11_canBeMeant_80 (v := 0) rfl ?_
            exact k_zret C dX11_canBeMeant_81 hr rfl (k_p1 h)
  exact K2 _ _ h
def f_X11_meant (x1 : Int32) (σ : k_St) : Option (Int32 × k_St) :=
  k_bd (f_X11_hasLake σ) fun v1 =>
  k_if (v1 = (0 : Int32))
    (some ((-1 : Int32), σ))
    (k_bd (f_X7_start x1 σ) fun s14 =>
    k_loop (fun (g19 : Int32 × k_St → Option (Int32 × k_St)) (z19 : Int32 × k_St) => match z19 with
      | (v2_19, s_19) =>
        k_if ((256 : Int32) ≤ v2_19)
          (k_bd (f_X7_told s_19) fun v69 =>
          some (v69, s_19))
          (k_bd (f_X11_signsBelow v2_19 (k_rd s_19 12 1)) fun v34 =>
          k_if (v34 = (0 : Int32))
            (k_nm (v2_19 + (1 : Int32)) fun y59 =>
            g19 (y59, s_19))
            (k_bd (f_X11_canBeMeant v2_19 s_19) fun v42 =>
            k_if (v42 = (0 : Int32))
              (k_nm (v2_19 + (1 : Int32)) fun y59 =>
              g19 (y59, s_19))
              (k_bd (f_X11_digitsOf v2_19) fun v53 =>
              k_bd (f_X7_add v53 s_19) fun s56 =>
              k_nm (v2_19 + (1 : Int32)) fun y59 =>
              g19 (y59, s56))))) 100000 ((0 : Int32), s14))
set_option maxHeartbeats 4000000 in
set_option maxRecDepth 100000 in
theorem e_X11_meant {l : Launch} {w : k_WC} {d : Nat} (hd : 5 ≤ d) {x1 : Int32}  {σ σ' : k_St} {r : Int32} (h : f_X11_meant x1 σ = some (r, σ')) : k_EI l (k_PX w) yX11_meant cX11_meant 3 (some .int) d [.ref (w.2.1 0), .int x1] σ r σ' := by
  refine k_of (own := RX11) rfl (by decide) (Nat.le_of_ble_eq_true rfl) (fun X hX C hr => ?_)
  show k_K (k_PX w) X (k_MQ X (k_Qi (k_PX w) r σ') (k_PX w).2.2.1) 0 [(0, .ref (w.2.1 0)), (1, .int x1)] [] σ
  unfold f_X11_meant at h
  refine k_aload_n C dX11_meant_0 0 rfl ?_
  obtain ⟨v1, h1, h⟩ := k_bd_e h
  refine k_goI (k_runV C dX11_meant_1 (e_X11_hasLake (d := 2) (Nat.le_refl _) h1) k_lX11_175 k_yX11_hasLake (k_oX0 w) (by omega) rfl (Nat.le_of_ble_eq_true rfl)) ?_
  refine k_if_ne C dX11_meant_4 (tgt := 9) (by decide) (fun c4 => ?_) (fun c4 => ?_)
  · replace h := k_if_f h c4
    refine k_aload_n C dX11_meant_9 0 rfl ?_
    refine k_get C dX11_meant_10 (k_gX0_9 w) k_fX11_73 (Or.inl rfl) ?_
    refine k_iload_n C dX11_meant_13 1 rfl ?_
    obtain ⟨s14, h14, h⟩ := k_bd_e h
    refine k_goV (k_runV C dX11_meant_14 (e_X7_start (d := 2) (Nat.le_refl _) h14) k_lX11_245 k_yX7_start (k_oX41 w) (by omega) rfl (Nat.le_of_ble_eq_true rfl)) ?_
    refine k_iconst C dX11_meant_17 (v := 0) rfl ?_
    refine k_istore_n C dX11_meant_18 (by decide) [1, 2, 0] (L' := [(0, .ref (w.2.1 0)), (1, .int x1), (2, .int (0 : Int32))]) rfl ?_
    obtain ⟨b19, eb19, h⟩ := k_lp_e h
    have K19 : ∀ (n : Nat) (v2_19 : Int32) (s_19 : k_St), k_loop b19 n (v2_19, s_19) = some (r, σ') → k_K (k_PX w) X (k_MQ X (k_Qi (k_PX w) r σ') (k_PX w).2.2.1) 19 [(0, .ref (w.2.1 0)), (2, .int v2_19)] [] s_19 := by
      intro n
      induction n with
      | zero => intro v2_19 s_19 h; cases h
      | succ n ih19 =>
        intro v2_19 s_19 h
        obtain ⟨g19, eg19, h⟩ := k_lp_s h
        rw [← eg19] at ih19
        rw [eb19] at h
        refine k_iload_n C dX11_meant_19 1 rfl ?_
        refine k_sipush C dX11_meant_20 (v := 256) rfl ?_
        refine k_icmp_ge C dX11_meant_23 (tgt := 65) (by decide) (fun c23 => ?_) (fun c23 => ?_)
        · replace h := k_if_t h c23
          refine k_aload_n C dX11_meant_65 0 rfl ?_
          refine k_get C dX11_meant_66 (k_gX0_9 w) k_fX11_73 (Or.inl rfl) ?_
          obtain ⟨v69, h69, h⟩ := k_bd_e h
          refine k_goI (k_runV C dX11_meant_69 (e_X7_told (d := 2) (Nat.le_refl _) h69) k_lX11_258 k_yX7_told (k_oX41 w) (by omega) rfl (Nat.le_of_ble_eq_true rfl)) ?_
          exact k_iret C dX11_meant_72 hr (Option.some.inj h)
        · replace h := k_if_f h c23
          refine k_iload_n C dX11_meant_26 1 rfl ?_
          refine k_aload_n C dX11_meant_27 0 rfl ?_
          refine k_get C dX11_meant_28 (k_gX0_3 w) k_fX11_33 (Or.inl rfl) ?_
          refine k_get C dX11_meant_31 (k_gX12_1 w) k_fX11_188 (Or.inl rfl) ?_
          obtain ⟨v34, h34, h⟩ := k_bd_e h
          refine k_goI (k_runS C dX11_meant_34 (e_X11_signsBelow (d := 3) (Nat.le_refl _) h34) k_lX11_248 k_yX11_signsBelow (by omega) rfl (Nat.le_of_ble_eq_true rfl)) ?_
          refine k_if_eq C dX11_meant_37 (tgt := 59) (by decide) (fun c37 => ?_) (fun c37 => ?_)
          · replace h := k_if_t h c37
            refine k_iinc C dX11_meant_59 1 rfl (v := 1) rfl (by decide) [1, 0] (L' := fun z9 => [(0, .ref (w.2.1 0)), (2, .int z9)]) (fun z9 => rfl) (fun y59 ey59 => ?_)
            replace h := k_nm_e h y59 ey59
            refine k_goto C dX11_meant_62 (tgt := 19) (by decide) ?_
            exact ih19 _ _ h
          · replace h := k_if_f h c37
            refine k_aload_n C dX11_meant_40 0 rfl ?_
            refine k_iload_n C dX11_meant_41 1 rfl ?_
            obtain ⟨v42, h42, h⟩ := k_bd_e h
            refine k_goI (k_runV C dX11_meant_42 (e_X11_canBeMeant (d := 4) (Nat.le_refl _) h42) k_lX11_332 k_yX11_canBeMeant (k_oX0 w) (by omega) rfl (Nat.le_of_ble_eq_true rfl)) ?_
            refine k_if_eq C dX11_meant_45 (tgt := 59) (by decide) (fun c45 => ?_) (fun c45 => ?_)
            · replace h := k_if_t h c45
              refine k_iinc C dX11_meant_59 1 rfl (v := 1) rfl (by decide) [1, 0] (L' := fun z9 => [(0, .ref (w.2.1 0)), (2, .int z9)]) (fun z9 => rfl) (fun y59 ey59 => ?_)
              replace h := k_nm_e h y59 ey59
              refine k_goto C dX11_meant_62 (tgt := 19) (by decide) ?_
              exact ih19 _ _ h
            · replace h := k_if_f h c45
              refine k_aload_n C dX11_meant_48 0 rfl ?_
              refine k_get C dX11_meant_49 (k_gX0_9 w) k_fX11_73 (Or.inl rfl) ?_
              refine k_iload_n C dX11_meant_52 1 rfl ?_
              obtain ⟨v53, h53, h⟩ := k_bd_e h
              refine k_goI (k_runS C dX11_meant_53 (e_X11_digitsOf (d := 3) (Nat.le_refl _) h53) k_lX11_254 k_yX11_digitsOf (by omega) rfl (Nat.le_of_ble_eq_true rfl)) ?_
              obtain ⟨s56, h56, h⟩ := k_bd_e h
              refine k_goV (k_runV C dX11_meant_56 (e_X7_add (d := 2) (Nat.le_refl _) h56) k_lX11_257 k_yX7_add (k_oX41 w) (by omega) rfl (Nat.le_of_ble_eq_true rfl)) ?_
              refine k_iinc C dX11_meant_59 1 rfl (v := 1) rfl (by decide) [1, 0] (L' := fun z9 => [(0, .ref (w.2.1 0)), (2, .int z9)]) (fun z9 => rfl) (fun y59 ey59 => ?_)
              replace h := k_nm_e h y59 ey59
              refine k_goto C dX11_meant_62 (tgt := 19) (by decide) ?_
              exact ih19 _ _ h
    refine k_sub (L' := [(0, .ref (w.2.1 0)), (2, .int (0 : Int32))]) [0, 2] rfl ?_
    exact K19 _ _ _ h
  · replace h := k_if_t h c4
    refine k_iconst C dX11_meant_7 (v := -1) rfl ?_
    exact k_iret C dX11_meant_8 hr (Option.some.inj h)
def f_X11_seed (x1 : Int64) (σ : k_St) : Option (Int32 × k_St) :=
  k_nm (k_wl σ 16 2 x1) fun s5 =>
  some ((1 : Int32), s5)
set_option maxHeartbeats 4000000 in
set_option maxRecDepth 100000 in
theorem e_X11_seed {l : Launch} {w : k_WC} {d : Nat} (hd : 2 ≤ d) {x1 : Int64}  {σ σ' : k_St} {r : Int32} (h : f_X11_seed x1 σ = some (r, σ')) : k_EI l (k_PX w) yX11_seed cX11_seed 3 (some .boolean) d [.ref (w.2.1 0), .long x1] σ r σ' := by
  refine k_of (own := RX11) rfl (by decide) (Nat.le_of_ble_eq_true rfl) (fun X hX C hr => ?_)
  show k_K (k_PX w) X (k_MQ X (k_Qi (k_PX w) r σ') (k_PX w).2.2.1) 0 [(0, .ref (w.2.1 0)), (1, .long x1)] [] σ
  unfold f_X11_seed at h
  refine k_aload_n C dX11_seed_0 0 rfl ?_
  refine k_get C dX11_seed_1 (k_gX0_4 w) k_fX11_40 (Or.inl rfl) ?_
  refine k_lload_n C dX11_seed_4 1 rfl ?_
  refine k_putl C dX11_seed_5 (k_pX16_2 w) k_fX11_345 rfl ?_
  refine k_st (fun s5 es5 => ?_)
  replace h := k_nm_e h s5 es5
  refine k_iconst C dX11_seed_8 (v := 1) rfl ?_
  exact k_zret C dX11_seed_9 hr rfl (Option.some.inj h)
def f_X11_day  (σ : k_St) : Option (Int32 × k_St) :=
  k_bd (f_X11_hasLake σ) fun v1 =>
  k_if (v1 = (0 : Int32))
    (some ((-1 : Int32), σ))
    (k_if ((k_rd σ 16 6) < (40 : Int32))
      (k_bd (f_X6_startDay 16 σ) fun s25 =>
      k_b2 (f_X6_draw 16 (k_rd s25 12 2) s25) fun v43 s43 =>
      k_bd (f_X1_placeOfDraw v43 s43) fun v46 =>
      k_bd (f_X1_heard v46 (k_rd s43 16 4) s43) fun v62 =>
      k_bd (f_X1_seen v46 (k_rd s43 16 3) s43) fun v78 =>
      k_bd (f_X11_signOf (k_rd s43 16 0) v62) fun v90 =>
      k_jn (fun (t0_125 : Int32) (s_125 : k_St) =>
        k_bd (f_X11_placeOf (k_rl s_125 16 1) v78 t0_125) fun v137 =>
        k_jn (fun (t0_149 : Int32) =>
          k_jn (fun (t0_168 : Int32) =>
            k_bd (f_X6_endDay 16 v46 t0_125 t0_168 s_125) fun s179 =>
            k_jn (fun (s_215 : k_St) =>
              k_if (t0_149 = (0 : Int32))
                (k_if ((k_rd s_215 0 16) = (0 : Int32))
                  (some (t0_168, s_215))
                  (k_jn (fun (t3_261 : Int32) =>
                    k_bd (f_X11_withSign (k_rd s_215 16 0) v62 t3_261) fun v261 =>
                    k_nm (k_wr s_215 16 0 v261) fun s264 =>
                    some (t0_168, s264)) fun j261 =>
                  k_if ((k_rd s_215 12 1) ≤ (v90 + (1 : Int32)))
                    (j261 (0 : Int32))
                    (j261 (v90 + (1 : Int32)))))
                (some (t0_168, s_215))) fun j215 =>
            k_if (t0_149 = (0 : Int32))
              (k_if ((k_rd s179 0 15) = (0 : Int32))
                (j215 s179)
                (k_bd (f_X11_withPlace (k_rl s179 16 1) v78 t0_125 v46) fun v209 =>
                k_nm (k_wl s179 16 1 v209) fun s212 =>
                j215 s212))
              (j215 s179)) fun j168 =>
          k_if (t0_149 = (0 : Int32))
            (j168 (0 : Int32))
            (k_bd (f_X1_worthOf v46 s_125) fun v161 =>
            j168 v161)) fun j149 =>
        k_if (v137 = v46)
          (j149 (1 : Int32))
          (j149 (0 : Int32))) fun j125 =>
      k_jn (fun (s_123 : k_St) =>
        j125 v90 s_123) fun j123 =>
      k_if (v90 = (0 : Int32))
        (j123 s43)
        (k_b2 (f_X6_draw 16 (100 : Int32) s43) fun v106 s106 =>
        k_if ((k_rd s106 16 5) ≤ v106)
          (j123 s106)
          (j125 (0 : Int32) s106)))
      (some ((-1 : Int32), σ)))
set_option maxHeartbeats 4000000 in
set_option maxRecDepth 100000 in
theorem e_X11_day {l : Launch} {w : k_WC} {d : Nat} (hd : 4 ≤ d)   {σ σ' : k_St} {r : Int32} (h : f_X11_day σ = some (r, σ')) : k_EI l (k_PX w) yX11_day cX11_day 8 (some .int) d [.ref (w.2.1 0)] σ r σ' := by
  refine k_of (own := RX11) rfl (by decide) (Nat.le_of_ble_eq_true rfl) (fun X hX C hr => ?_)
  show k_K (k_PX w) X (k_MQ X (k_Qi (k_PX w) r σ') (k_PX w).2.2.1) 0 [(0, .ref (w.2.1 0))] [] σ
  unfold f_X11_day at h
  refine k_aload_n C dX11_day_0 0 rfl ?_
  obtain ⟨v1, h1, h⟩ := k_bd_e h
  refine k_goI (k_runV C dX11_day_1 (e_X11_hasLake (d := 2) (Nat.le_refl _) h1) k_lX11_175 k_yX11_hasLake (k_oX0 w) (by omega) rfl (Nat.le_of_ble_eq_true rfl)) ?_
  refine k_if_eq C dX11_day_4 (tgt := 19) (by decide) (fun c4 => ?_) (fun c4 => ?_)
  · replace h := k_if_t h c4
    refine k_iconst C dX11_day_19 (v := -1) rfl ?_
    exact k_iret C dX11_day_20 hr (Option.some.inj h)
  · replace h := k_if_f h c4
    refine k_aload_n C dX11_day_7 0 rfl ?_
    refine k_get C dX11_day_8 (k_gX0_4 w) k_fX11_40 (Or.inl rfl) ?_
    refine k_get C dX11_day_11 (k_gX16_6 w) k_fX11_348 (Or.inl rfl) ?_
    refine k_bipush C dX11_day_14 (v := 40) rfl ?_
    refine k_icmp_lt C dX11_day_16 (tgt := 21) (by decide) (fun c16 => ?_) (fun c16 => ?_)
    · replace h := k_if_t h c16
      refine k_aload_n C dX11_day_21 0 rfl ?_
      refine k_get C dX11_day_22 (k_gX0_4 w) k_fX11_40 (Or.inl rfl) ?_
      obtain ⟨s25, h25, h⟩ := k_bd_e h
      refine k_goV (k_runV C dX11_day_25 (e_X6_startDay_16 (d := 3) (Nat.le_refl _) h25) k_lX11_351 k_yX6_startDay (k_oX16 w) (by omega) rfl (Nat.le_of_ble_eq_true rfl)) ?_
      refine k_aload_n C dX11_day_28 0 rfl ?_
      refine k_get C dX11_day_29 (k_gX0_3 w) k_fX11_33 (Or.inl rfl) ?_
      refine k_aload_n C dX11_day_32 0 rfl ?_
      refine k_get C dX11_day_33 (k_gX0_4 w) k_fX11_40 (Or.inl rfl) ?_
      refine k_aload_n C dX11_day_36 0 rfl ?_
      refine k_get C dX11_day_37 (k_gX0_3 w) k_fX11_33 (Or.inl rfl) ?_
      refine k_get C dX11_day_40 (k_gX12_2 w) k_fX11_318 (Or.inl rfl) ?_
      obtain ⟨v43, s43, h43, h⟩ := k_b2_e h
      refine k_goI (k_runV C dX11_day_43 (e_X6_draw_16 (d := 2) (Nat.le_refl _) h43) k_lX11_354 k_yX6_draw (k_oX16 w) (by omega) rfl (Nat.le_of_ble_eq_true rfl)) ?_
      obtain ⟨v46, h46, h⟩ := k_bd_e h
      refine k_goI (k_runV C dX11_day_46 (e_X1_placeOfDraw (d := 3) (Nat.le_refl _) h46) k_lX11_357 k_yX1_placeOfDraw (k_oX12 w) (by omega) rfl (Nat.le_of_ble_eq_true rfl)) ?_
      refine k_istore_n C dX11_day_49 (by decide) [1, 0] (L' := [(0, .ref (w.2.1 0)), (1, .int v46)]) rfl ?_
      refine k_aload_n C dX11_day_50 0 rfl ?_
      refine k_get C dX11_day_51 (k_gX0_3 w) k_fX11_33 (Or.inl rfl) ?_
      refine k_iload_n C dX11_day_54 1 rfl ?_
      refine k_aload_n C dX11_day_55 0 rfl ?_
      refine k_get C dX11_day_56 (k_gX0_4 w) k_fX11_40 (Or.inl rfl) ?_
      refine k_get C dX11_day_59 (k_gX16_4 w) k_fX11_185 (Or.inl rfl) ?_
      obtain ⟨v62, h62, h⟩ := k_bd_e h
      refine k_goI (k_runV C dX11_day_62 (e_X1_heard (d := 3) (Nat.le_refl _) h62) k_lX11_335 k_yX1_heard (k_oX12 w) (by omega) rfl (Nat.le_of_ble_eq_true rfl)) ?_
      refine k_istore_n C dX11_day_65 (by decide) [1, 2, 0] (L' := [(0, .ref (w.2.1 0)), (1, .int v46), (2, .int v62)]) rfl ?_
      refine k_aload_n C dX11_day_66 0 rfl ?_
      refine k_get C dX11_day_67 (k_gX0_3 w) k_fX11_33 (Or.inl rfl) ?_
      refine k_iload_n C dX11_day_70 1 rfl ?_
      refine k_aload_n C dX11_day_71 0 rfl ?_
      refine k_get C dX11_day_72 (k_gX0_4 w) k_fX11_40 (Or.inl rfl) ?_
      refine k_get C dX11_day_75 (k_gX16_3 w) k_fX11_182 (Or.inl rfl) ?_
      obtain ⟨v78, h78, h⟩ := k_bd_e h
      refine k_goI (k_runV C dX11_day_78 (e_X1_seen (d := 3) (Nat.le_refl _) h78) k_lX11_342 k_yX1_seen (k_oX12 w) (by omega) rfl (Nat.le_of_ble_eq_true rfl)) ?_
      refine k_istore_n C dX11_day_81 (by decide) [1, 2, 3, 0] (L' := [(0, .ref (w.2.1 0)), (1, .int v46), (2, .int v62), (3, .int v78)]) rfl ?_
      refine k_aload_n C dX11_day_82 0 rfl ?_
      refine k_get C dX11_day_83 (k_gX0_4 w) k_fX11_40 (Or.inl rfl) ?_
      refine k_get C dX11_day_86 (k_gX16_0 w) k_fX11_194 (Or.inl rfl) ?_
      refine k_iload_n C dX11_day_89 2 rfl ?_
      obtain ⟨v90, h90, h⟩ := k_bd_e h
      refine k_goI (k_runS C dX11_day_90 (e_X11_signOf (d := 2) (Nat.le_refl _) h90) k_lX11_339 k_yX11_signOf (by omega) rfl (Nat.le_of_ble_eq_true rfl)) ?_
      refine k_istore C dX11_day_93 (by decide) [1, 2, 3, 4, 0] (L' := [(0, .ref (w.2.1 0)), (1, .int v46), (2, .int v62), (3, .int v78), (4, .int v90)]) rfl ?_
      refine k_iload C dX11_day_95 4 rfl ?_
      obtain ⟨j125, ej125, h⟩ := k_jn_e h
      have Jj125 : ∀ (t0_125 : Int32) (s_125 : k_St), j125 t0_125 s_125 = some (r, σ') → k_K (k_PX w) X (k_MQ X (k_Qi (k_PX w) r σ') (k_PX w).2.2.1) 125 [(0, .ref (w.2.1 0)), (1, .int v46), (2, .int v62), (3, .int v78), (4, .int v90)] [.int t0_125] s_125 := by
        intro t0_125 s_125 h
        rw [ej125] at h
        refine k_istore C dX11_day_125 (by decide) [1, 2, 3, 4, 5, 0] (L' := [(0, .ref (w.2.1 0)), (1, .int v46), (2, .int v62), (3, .int v78), (4, .int v90), (5, .int t0_125)]) rfl ?_
        refine k_aload_n C dX11_day_127 0 rfl ?_
        refine k_get C dX11_day_128 (k_gX0_4 w) k_fX11_40 (Or.inl rfl) ?_
        refine k_get C dX11_day_131 (k_gX16_1 w) k_fX11_201 (Or.inl rfl) ?_
        refine k_iload_n C dX11_day_134 3 rfl ?_
        refine k_iload C dX11_day_135 5 rfl ?_
        obtain ⟨v137, h137, h⟩ := k_bd_e h
        refine k_goI (k_runS C dX11_day_137 (e_X11_placeOf (d := 2) (Nat.le_refl _) h137) k_lX11_209 k_yX11_placeOf (by omega) rfl (Nat.le_of_ble_eq_true rfl)) ?_
        refine k_iload_n C dX11_day_140 1 rfl ?_
        obtain ⟨j149, ej149, h⟩ := k_jn_e h
        have Jj149 : ∀ (t0_149 : Int32), j149 t0_149 = some (r, σ') → k_K (k_PX w) X (k_MQ X (k_Qi (k_PX w) r σ') (k_PX w).2.2.1) 149 [(0, .ref (w.2.1 0)), (1, .int v46), (2, .int v62), (3, .int v78), (4, .int v90), (5, .int t0_125)] [.int t0_149] s_125 := by
          intro t0_149 h
          rw [ej149] at h
          refine k_istore C dX11_day_149 (by decide) [1, 2, 3, 4, 5, 6, 0] (L' := [(0, .ref (w.2.1 0)), (1, .int v46), (2, .int v62), (3, .int v78), (4, .int v90), (5, .int t0_125), (6, .int t0_149)]) rfl ?_
          refine k_iload C dX11_day_151 6 rfl ?_
          obtain ⟨j168, ej168, h⟩ := k_jn_e h
          have Jj168 : ∀ (t0_168 : Int32), j168 t0_168 = some (r, σ') → k_K (k_PX w) X (k_MQ X (k_Qi (k_PX w) r σ') (k_PX w).2.2.1) 168 [(0, .ref (w.2.1 0)), (1, .int v46), (2, .int v62), (3, .int v78), (4, .int v90), (5, .int t0_125), (6, .int t0_149)] [.int t0_168] s_125 := by
            intro t0_168 h
            rw [ej168] at h
            refine k_istore C dX11_day_168 (by decide) [1, 2, 3, 4, 5, 6, 7, 0] (L' := [(0, .ref (w.2.1 0)), (1, .int v46), (2, .int v62), (3, .int v78), (4, .int v90), (5, .int t0_125), (6, .int t0_149), (7, .int t0_168)]) rfl ?_
            refine k_aload_n C dX11_day_170 0 rfl ?_
            refine k_get C dX11_day_171 (k_gX0_4 w) k_fX11_40 (Or.inl rfl) ?_
            refine k_iload_n C dX11_day_174 1 rfl ?_
            refine k_iload C dX11_day_175 5 rfl ?_
            refine k_iload C dX11_day_177 7 rfl ?_
            obtain ⟨s179, h179, h⟩ := k_bd_e h
            refine k_goV (k_runV C dX11_day_179 (e_X6_endDay_16 (d := 3) (Nat.le_refl _) h179) k_lX11_360 k_yX6_endDay (k_oX16 w) (by omega) rfl (Nat.le_of_ble_eq_true rfl)) ?_
            refine k_iload C dX11_day_182 6 rfl ?_
            obtain ⟨j215, ej215, h⟩ := k_jn_e h
            have Jj215 : ∀ (s_215 : k_St), j215 s_215 = some (r, σ') → k_K (k_PX w) X (k_MQ X (k_Qi (k_PX w) r σ') (k_PX w).2.2.1) 215 [(0, .ref (w.2.1 0)), (2, .int v62), (4, .int v90), (6, .int t0_149), (7, .int t0_168)] [] s_215 := by
              intro s_215 h
              rw [ej215] at h
              refine k_iload C dX11_day_215 3 rfl ?_
              refine k_if_ne C dX11_day_217 (tgt := 267) (by decide) (fun c217 => ?_) (fun c217 => ?_)
              · replace h := k_if_f h c217
                refine k_iload C dX11_day_267 4 rfl ?_
                exact k_iret C dX11_day_269 hr (Option.some.inj h)
              · replace h := k_if_t h c217
                refine k_aload_n C dX11_day_220 0 rfl ?_
                refine k_get C dX11_day_221 (k_gX0_16 w) k_fX11_104 (Or.inl rfl) ?_
                refine k_if_eq C dX11_day_224 (tgt := 267) (by decide) (fun c224 => ?_) (fun c224 => ?_)
                · replace h := k_if_t h c224
                  refine k_iload C dX11_day_267 4 rfl ?_
                  exact k_iret C dX11_day_269 hr (Option.some.inj h)
                · replace h := k_if_f h c224
                  refine k_aload_n C dX11_day_227 0 rfl ?_
                  refine k_get C dX11_day_228 (k_gX0_4 w) k_fX11_40 (Or.inl rfl) ?_
                  refine k_aload_n C dX11_day_231 0 rfl ?_
                  refine k_get C dX11_day_232 (k_gX0_4 w) k_fX11_40 (Or.inl rfl) ?_
                  refine k_get C dX11_day_235 (k_gX16_0 w) k_fX11_194 (Or.inl rfl) ?_
                  refine k_iload_n C dX11_day_238 1 rfl ?_
                  refine k_iload C dX11_day_239 2 rfl ?_
                  refine k_iconst C dX11_day_241 (v := 1) rfl ?_
                  refine k_iadd C dX11_day_242 ?_
                  refine k_aload_n C dX11_day_243 0 rfl ?_
                  refine k_get C dX11_day_244 (k_gX0_3 w) k_fX11_33 (Or.inl rfl) ?_
                  refine k_get C dX11_day_247 (k_gX12_1 w) k_fX11_188 (Or.inl rfl) ?_
                  obtain ⟨j261, ej261, h⟩ := k_jn_e h
                  have Jj261 : ∀ (t3_261 : Int32), j261 t3_261 = some (r, σ') → k_K (k_PX w) X (k_MQ X (k_Qi (k_PX w) r σ') (k_PX w).2.2.1) 261 [(7, .int t0_168)] [.int t3_261, .int v62, .int (k_rd s_215 16 0), .ref (w.2.1 16)] s_215 := by
                    intro t3_261 h
                    rw [ej261] at h
                    obtain ⟨v261, h261, h⟩ := k_bd_e h
                    refine k_goI (k_runS C dX11_day_261 (e_X11_withSign (d := 2) (Nat.le_refl _) h261) k_lX11_364 k_yX11_withSign (by omega) rfl (Nat.le_of_ble_eq_true rfl)) ?_
                    refine k_puti C dX11_day_264 (k_pX16_0 w) k_fX11_194 (Or.inl rfl) k_xi ?_
                    refine k_st (fun s264 es264 => ?_)
                    replace h := k_nm_e h s264 es264
                    refine k_iload C dX11_day_267 0 rfl ?_
                    exact k_iret C dX11_day_269 hr (Option.some.inj h)
                  refine k_icmp_ge C dX11_day_250 (tgt := 260) (by decide) (fun c250 => ?_) (fun c250 => ?_)
                  · replace h := k_if_t h c250
                    refine k_iconst C dX11_day_260 (v := 0) rfl ?_
                    refine k_sub (L' := [(7, .int t0_168)]) [4] rfl ?_
                    exact Jj261 _ h
                  · replace h := k_if_f h c250
                    refine k_iload C dX11_day_253 2 rfl ?_
                    refine k_iconst C dX11_day_255 (v := 1) rfl ?_
                    refine k_iadd C dX11_day_256 ?_
                    refine k_goto C dX11_day_257 (tgt := 261) (by decide) ?_
                    refine k_sub (L' := [(7, .int t0_168)]) [4] rfl ?_
                    exact Jj261 _ h
            refine k_if_ne C dX11_day_184 (tgt := 215) (by decide) (fun c184 => ?_) (fun c184 => ?_)
            · replace h := k_if_f h c184
              refine k_sub (L' := [(0, .ref (w.2.1 0)), (2, .int v62), (4, .int v90), (6, .int t0_149), (7, .int t0_168)]) [0, 2, 4, 6, 7] rfl ?_
              exact Jj215 _ h
            · replace h := k_if_t h c184
              refine k_aload_n C dX11_day_187 0 rfl ?_
              refine k_get C dX11_day_188 (k_gX0_15 w) k_fX11_101 (Or.inl rfl) ?_
              refine k_if_eq C dX11_day_191 (tgt := 215) (by decide) (fun c191 => ?_) (fun c191 => ?_)
              · replace h := k_if_t h c191
                refine k_sub (L' := [(0, .ref (w.2.1 0)), (2, .int v62), (4, .int v90), (6, .int t0_149), (7, .int t0_168)]) [0, 2, 4, 6, 7] rfl ?_
                exact Jj215 _ h
              · replace h := k_if_f h c191
                refine k_aload_n C dX11_day_194 0 rfl ?_
                refine k_get C dX11_day_195 (k_gX0_4 w) k_fX11_40 (Or.inl rfl) ?_
                refine k_aload_n C dX11_day_198 0 rfl ?_
                refine k_get C dX11_day_199 (k_gX0_4 w) k_fX11_40 (Or.inl rfl) ?_
                refine k_get C dX11_day_202 (k_gX16_1 w) k_fX11_201 (Or.inl rfl) ?_
                refine k_iload_n C dX11_day_205 3 rfl ?_
                refine k_iload C dX11_day_206 5 rfl ?_
                refine k_iload_n C dX11_day_208 1 rfl ?_
                obtain ⟨v209, h209, h⟩ := k_bd_e h
                refine k_goL (k_runS C dX11_day_209 (e_X11_withPlace (d := 2) (Nat.le_refl _) h209) k_lX11_205 k_yX11_withPlace (by omega) rfl (Nat.le_of_ble_eq_true rfl)) ?_
                refine k_putl C dX11_day_212 (k_pX16_1 w) k_fX11_201 rfl ?_
                refine k_st (fun s212 es212 => ?_)
                replace h := k_nm_e h s212 es212
                refine k_sub (L' := [(0, .ref (w.2.1 0)), (2, .int v62), (4, .int v90), (6, .int t0_149), (7, .int t0_168)]) [0, 2, 4, 6, 7] rfl ?_
                exact Jj215 _ h
          refine k_if_eq C dX11_day_153 (tgt := 167) (by decide) (fun c153 => ?_) (fun c153 => ?_)
          · replace h := k_if_t h c153
            refine k_iconst C dX11_day_167 (v := 0) rfl ?_
            exact Jj168 _ h
          · replace h := k_if_f h c153
            refine k_aload_n C dX11_day_156 0 rfl ?_
            refine k_get C dX11_day_157 (k_gX0_3 w) k_fX11_33 (Or.inl rfl) ?_
            refine k_iload_n C dX11_day_160 1 rfl ?_
            obtain ⟨v161, h161, h⟩ := k_bd_e h
            refine k_goI (k_runV C dX11_day_161 (e_X1_worthOf (d := 2) (Nat.le_refl _) h161) k_lX11_165 k_yX1_worthOf (k_oX12 w) (by omega) rfl (Nat.le_of_ble_eq_true rfl)) ?_
            refine k_goto C dX11_day_164 (tgt := 168) (by decide) ?_
            exact Jj168 _ h
        refine k_icmp_ne C dX11_day_141 (tgt := 148) (by decide) (fun c141 => ?_) (fun c141 => ?_)
        · replace h := k_if_f h c141
          refine k_iconst C dX11_day_148 (v := 0) rfl ?_
          exact Jj149 _ h
        · replace h := k_if_t h c141
          refine k_iconst C dX11_day_144 (v := 1) rfl ?_
          refine k_goto C dX11_day_145 (tgt := 149) (by decide) ?_
          exact Jj149 _ h
      obtain ⟨j123, ej123, h⟩ := k_jn_e h
      have Jj123 : ∀ (s_123 : k_St), j123 s_123 = some (r, σ') → k_K (k_PX w) X (k_MQ X (k_Qi (k_PX w) r σ') (k_PX w).2.2.1) 123 [(0, .ref (w.2.1 0)), (1, .int v46), (2, .int v62), (3, .int v78), (4, .int v90)] [] s_123 := by
        intro s_123 h
        rw [ej123] at h
        refine k_iload C dX11_day_123 4 rfl ?_
        exact Jj125 _ _ h
      refine k_if_eq C dX11_day_97 (tgt := 123) (by decide) (fun c97 => ?_) (fun c97 => ?_)
      · replace h := k_if_t h c97
        exact Jj123 _ h
      · replace h := k_if_f h c97
        refine k_aload_n C dX11_day_100 0 rfl ?_
        refine k_get C dX11_day_101 (k_gX0_4 w) k_fX11_40 (Or.inl rfl) ?_
        refine k_bipush C dX11_day_104 (v := 100) rfl ?_
        obtain ⟨v106, s106, h106, h⟩ := k_b2_e h
        refine k_goI (k_runV C dX11_day_106 (e_X6_draw_16 (d := 2) (Nat.le_refl _) h106) k_lX11_354 k_yX6_draw (k_oX16 w) (by omega) rfl (Nat.le_of_ble_eq_true rfl)) ?_
        refine k_aload_n C dX11_day_109 0 rfl ?_
        refine k_get C dX11_day_110 (k_gX0_4 w) k_fX11_40 (Or.inl rfl) ?_
        refine k_get C dX11_day_113 (k_gX16_5 w) k_fX11_213 (Or.inl rfl) ?_
        refine k_icmp_ge C dX11_day_116 (tgt := 123) (by decide) (fun c116 => ?_) (fun c116 => ?_)
        · replace h := k_if_t h c116
          exact Jj123 _ h
        · replace h := k_if_f h c116
          refine k_iconst C dX11_day_119 (v := 0) rfl ?_
          refine k_goto C dX11_day_120 (tgt := 125) (by decide) ?_
          exact Jj125 _ _ h
    · replace h := k_if_f h c16
      refine k_iconst C dX11_day_19 (v := -1) rfl ?_
      exact k_iret C dX11_day_20 hr (Option.some.inj h)
def f_X11_was (x1 : Int32) (x2 : Int32) (σ : k_St) : Option (Int32) :=
  k_bd (f_X11_within x1 (0 : Int32) ((k_rd σ 16 6) - (1 : Int32))) fun v11 =>
  k_if (v11 = (0 : Int32))
    (some (-1 : Int32))
    (k_bd (f_X11_within x2 (0 : Int32) (2 : Int32)) fun v20 =>
    k_if (v20 = (0 : Int32))
      (some (-1 : Int32))
      (k_if (x2 = (0 : Int32))
        (k_bd (f_X6_shoalOn 16 x1 σ) fun v37 =>
        some v37)
        (k_if (x2 = (1 : Int32))
          (k_bd (f_X6_cameOn 16 x1 σ) fun v51 =>
          some v51)
          (k_bd (f_X6_caughtOn 16 x1 σ) fun v62 =>
          some v62))))
set_option maxHeartbeats 4000000 in
set_option maxRecDepth 100000 in
theorem e_X11_was {l : Launch} {w : k_WC} {d : Nat} (hd : 4 ≤ d) {x1 : Int32} {x2 : Int32}  {σ : k_St} {r : Int32} (h : f_X11_was x1 x2 σ = some r) : k_EI l (k_PX w) yX11_was cX11_was 3 (some .int) d [.ref (w.2.1 0), .int x1, .int x2] σ r σ := by
  refine k_of (own := RX11) rfl (by decide) (Nat.le_of_ble_eq_true rfl) (fun X hX C hr => ?_)
  show k_K (k_PX w) X (k_MQ X (k_Qi (k_PX w) r σ) (k_PX w).2.2.1) 0 [(0, .ref (w.2.1 0)), (1, .int x1), (2, .int x2)] [] σ
  unfold f_X11_was at h
  refine k_iload_n C dX11_was_0 1 rfl ?_
  refine k_iconst C dX11_was_1 (v := 0) rfl ?_
  refine k_aload_n C dX11_was_2 0 rfl ?_
  refine k_get C dX11_was_3 (k_gX0_4 w) k_fX11_40 (Or.inl rfl) ?_
  refine k_get C dX11_was_6 (k_gX16_6 w) k_fX11_348 (Or.inl rfl) ?_
  refine k_iconst C dX11_was_9 (v := 1) rfl ?_
  refine k_isub C dX11_was_10 ?_
  obtain ⟨v11, h11, h⟩ := k_bd_e h
  refine k_goI (k_runS C dX11_was_11 (e_X11_within (d := 2) (Nat.le_refl _) h11) k_lX11_118 k_yX11_within (by omega) rfl (Nat.le_of_ble_eq_true rfl)) ?_
  refine k_if_eq C dX11_was_14 (tgt := 26) (by decide) (fun c14 => ?_) (fun c14 => ?_)
  · replace h := k_if_t h c14
    refine k_iconst C dX11_was_26 (v := -1) rfl ?_
    exact k_iret C dX11_was_27 hr (k_p1 h)
  · replace h := k_if_f h c14
    refine k_iload_n C dX11_was_17 2 rfl ?_
    refine k_iconst C dX11_was_18 (v := 0) rfl ?_
    refine k_iconst C dX11_was_19 (v := 2) rfl ?_
    obtain ⟨v20, h20, h⟩ := k_bd_e h
    refine k_goI (k_runS C dX11_was_20 (e_X11_within (d := 2) (Nat.le_refl _) h20) k_lX11_118 k_yX11_within (by omega) rfl (Nat.le_of_ble_eq_true rfl)) ?_
    refine k_if_ne C dX11_was_23 (tgt := 28) (by decide) (fun c23 => ?_) (fun c23 => ?_)
    · replace h := k_if_f h c23
      refine k_iload_n C dX11_was_28 2 rfl ?_
      refine k_if_ne C dX11_was_29 (tgt := 41) (by decide) (fun c29 => ?_) (fun c29 => ?_)
      · replace h := k_if_f h c29
        refine k_iload_n C dX11_was_41 2 rfl ?_
        refine k_iconst C dX11_was_42 (v := 1) rfl ?_
        refine k_icmp_ne C dX11_was_43 (tgt := 57) (by decide) (fun c43 => ?_) (fun c43 => ?_)
        · replace h := k_if_f h c43
          refine k_aload_n C dX11_was_57 0 rfl ?_
          refine k_get C dX11_was_58 (k_gX0_4 w) k_fX11_40 (Or.inl rfl) ?_
          refine k_iload_n C dX11_was_61 1 rfl ?_
          obtain ⟨v62, h62, h⟩ := k_bd_e h
          refine k_goI (k_runV C dX11_was_62 (e_X6_caughtOn_16 (d := 3) (Nat.le_refl _) h62) k_lX11_374 k_yX6_caughtOn (k_oX16 w) (by omega) rfl (Nat.le_of_ble_eq_true rfl)) ?_
          exact k_iret C dX11_was_65 hr (k_p1 h)
        · replace h := k_if_t h c43
          refine k_aload_n C dX11_was_46 0 rfl ?_
          refine k_get C dX11_was_47 (k_gX0_4 w) k_fX11_40 (Or.inl rfl) ?_
          refine k_iload_n C dX11_was_50 1 rfl ?_
          obtain ⟨v51, h51, h⟩ := k_bd_e h
          refine k_goI (k_runV C dX11_was_51 (e_X6_cameOn_16 (d := 3) (Nat.le_refl _) h51) k_lX11_371 k_yX6_cameOn (k_oX16 w) (by omega) rfl (Nat.le_of_ble_eq_true rfl)) ?_
          refine k_goto C dX11_was_54 (tgt := 65) (by decide) ?_
          exact k_iret C dX11_was_65 hr (k_p1 h)
      · replace h := k_if_t h c29
        refine k_aload_n C dX11_was_32 0 rfl ?_
        refine k_get C dX11_was_33 (k_gX0_4 w) k_fX11_40 (Or.inl rfl) ?_
        refine k_iload_n C dX11_was_36 1 rfl ?_
        obtain ⟨v37, h37, h⟩ := k_bd_e h
        refine k_goI (k_runV C dX11_was_37 (e_X6_shoalOn_16 (d := 3) (Nat.le_refl _) h37) k_lX11_368 k_yX6_shoalOn (k_oX16 w) (by omega) rfl (Nat.le_of_ble_eq_true rfl)) ?_
        exact k_iret C dX11_was_40 hr (k_p1 h)
    · replace h := k_if_t h c23
      refine k_iconst C dX11_was_26 (v := -1) rfl ?_
      exact k_iret C dX11_was_27 hr (k_p1 h)
def f_X11_undo  (σ : k_St) : Option (Int32 × k_St) :=
  k_if ((1 : Int32) ≤ (k_rd σ 16 6))
    (k_bd (f_X6_takeBackDay 16 σ) fun s17 =>
    some ((k_rd s17 16 6), s17))
    (some ((-1 : Int32), σ))
set_option maxHeartbeats 4000000 in
set_option maxRecDepth 100000 in
theorem e_X11_undo {l : Launch} {w : k_WC} {d : Nat} (hd : 4 ≤ d)   {σ σ' : k_St} {r : Int32} (h : f_X11_undo σ = some (r, σ')) : k_EI l (k_PX w) yX11_undo cX11_undo 1 (some .int) d [.ref (w.2.1 0)] σ r σ' := by
  refine k_of (own := RX11) rfl (by decide) (Nat.le_of_ble_eq_true rfl) (fun X hX C hr => ?_)
  show k_K (k_PX w) X (k_MQ X (k_Qi (k_PX w) r σ') (k_PX w).2.2.1) 0 [(0, .ref (w.2.1 0))] [] σ
  unfold f_X11_undo at h
  refine k_aload_n C dX11_undo_0 0 rfl ?_
  refine k_get C dX11_undo_1 (k_gX0_4 w) k_fX11_40 (Or.inl rfl) ?_
  refine k_get C dX11_undo_4 (k_gX16_6 w) k_fX11_348 (Or.inl rfl) ?_
  refine k_iconst C dX11_undo_7 (v := 1) rfl ?_
  refine k_icmp_ge C dX11_undo_8 (tgt := 13) (by decide) (fun c8 => ?_) (fun c8 => ?_)
  · replace h := k_if_t h c8
    refine k_aload_n C dX11_undo_13 0 rfl ?_
    refine k_get C dX11_undo_14 (k_gX0_4 w) k_fX11_40 (Or.inl rfl) ?_
    obtain ⟨s17, h17, h⟩ := k_bd_e h
    refine k_goV (k_runV C dX11_undo_17 (e_X6_takeBackDay_16 (d := 3) (Nat.le_refl _) h17) k_lX11_377 k_yX6_takeBackDay (k_oX16 w) (by omega) rfl (Nat.le_of_ble_eq_true rfl)) ?_
    refine k_aload_n C dX11_undo_20 0 rfl ?_
    refine k_get C dX11_undo_21 (k_gX0_4 w) k_fX11_40 (Or.inl rfl) ?_
    refine k_get C dX11_undo_24 (k_gX16_6 w) k_fX11_348 (Or.inl rfl) ?_
    exact k_iret C dX11_undo_27 hr (Option.some.inj h)
  · replace h := k_if_f h c8
    refine k_iconst C dX11_undo_11 (v := -1) rfl ?_
    exact k_iret C dX11_undo_12 hr (Option.some.inj h)
def f_X11_hoard (x1 : Int32) (x2 : Int32) (σ : k_St) : Option (Int32) :=
  k_bd (f_X11_isPlace x1 σ) fun v2 =>
  k_if (v2 = (0 : Int32))
    (some (-1 : Int32))
    (k_bd (f_X11_within x2 (0 : Int32) (1 : Int32)) fun v11 =>
    k_if (v11 = (0 : Int32))
      (some (-1 : Int32))
      (k_loop (fun (g24 : Int32 × Int32 → Option (Int32)) (z24 : Int32 × Int32) => match z24 with
        | (v3_24, v4_24) =>
          k_if ((k_rd σ 16 6) ≤ v4_24)
            (some v3_24)
            (k_bd (f_X6_shoalOn 16 v4_24 σ) fun v42 =>
            k_if (v42 = x1)
              (k_if (x2 = (0 : Int32))
                (k_bd (f_X6_caughtOn 16 v4_24 σ) fun v60 =>
                k_nm ((v3_24 + v60)) fun y68 =>
                k_nm (v4_24 + (1 : Int32)) fun y69 =>
                g24 (y68, y69))
                (k_nm ((v3_24 + (1 : Int32))) fun y68 =>
                k_nm (v4_24 + (1 : Int32)) fun y69 =>
                g24 (y68, y69)))
              (k_nm (v4_24 + (1 : Int32)) fun y69 =>
              g24 (v3_24, y69)))) 100000 ((0 : Int32), (0 : Int32))))
set_option maxHeartbeats 4000000 in
set_option maxRecDepth 100000 in
theorem e_X11_hoard {l : Launch} {w : k_WC} {d : Nat} (hd : 4 ≤ d) {x1 : Int32} {x2 : Int32}  {σ : k_St} {r : Int32} (h : f_X11_hoard x1 x2 σ = some r) : k_EI l (k_PX w) yX11_hoard cX11_hoard 5 (some .int) d [.ref (w.2.1 0), .int x1, .int x2] σ r σ := by
  refine k_of (own := RX11) rfl (by decide) (Nat.le_of_ble_eq_true rfl) (fun X hX C hr => ?_)
  show k_K (k_PX w) X (k_MQ X (k_Qi (k_PX w) r σ) (k_PX w).2.2.1) 0 [(0, .ref (w.2.1 0)), (1, .int x1), (2, .int x2)] [] σ
  unfold f_X11_hoard at h
  refine k_aload_n C dX11_hoard_0 0 rfl ?_
  refine k_iload_n C dX11_hoard_1 1 rfl ?_
  obtain ⟨v2, h2, h⟩ := k_bd_e h
  refine k_goI (k_runV C dX11_hoard_2 (e_X11_isPlace (d := 3) (Nat.le_refl _) h2) k_lX11_158 k_yX11_isPlace (k_oX0 w) (by omega) rfl (Nat.le_of_ble_eq_true rfl)) ?_
  refine k_if_eq C dX11_hoard_5 (tgt := 17) (by decide) (fun c5 => ?_) (fun c5 => ?_)
  · replace h := k_if_t h c5
    refine k_iconst C dX11_hoard_17 (v := -1) rfl ?_
    exact k_iret C dX11_hoard_18 hr (k_p1 h)
  · replace h := k_if_f h c5
    refine k_iload_n C dX11_hoard_8 2 rfl ?_
    refine k_iconst C dX11_hoard_9 (v := 0) rfl ?_
    refine k_iconst C dX11_hoard_10 (v := 1) rfl ?_
    obtain ⟨v11, h11, h⟩ := k_bd_e h
    refine k_goI (k_runS C dX11_hoard_11 (e_X11_within (d := 2) (Nat.le_refl _) h11) k_lX11_118 k_yX11_within (by omega) rfl (Nat.le_of_ble_eq_true rfl)) ?_
    refine k_if_ne C dX11_hoard_14 (tgt := 19) (by decide) (fun c14 => ?_) (fun c14 => ?_)
    · replace h := k_if_f h c14
      refine k_iconst C dX11_hoard_19 (v := 0) rfl ?_
      refine k_istore_n C dX11_hoard_20 (by decide) [1, 2, 3, 0] (L' := [(0, .ref (w.2.1 0)), (1, .int x1), (2, .int x2), (3, .int (0 : Int32))]) rfl ?_
      refine k_iconst C dX11_hoard_21 (v := 0) rfl ?_
      refine k_istore C dX11_hoard_22 (by decide) [1, 2, 3, 4, 0] (L' := [(0, .ref (w.2.1 0)), (1, .int x1), (2, .int x2), (3, .int (0 : Int32)), (4, .int (0 : Int32))]) rfl ?_
      obtain ⟨b24, eb24, h⟩ := k_lp_e h
      have K24 : ∀ (n : Nat) (v3_24 : Int32) (v4_24 : Int32), k_loop b24 n (v3_24, v4_24) = some r → k_K (k_PX w) X (k_MQ X (k_Qi (k_PX w) r σ) (k_PX w).2.2.1) 24 [(0, .ref (w.2.1 0)), (1, .int x1), (2, .int x2), (3, .int v3_24), (4, .int v4_24)] [] σ := by
        intro n
        induction n with
        | zero => intro v3_24 v4_24 h; cases h
        | succ n ih24 =>
          intro v3_24 v4_24 h
          obtain ⟨g24, eg24, h⟩ := k_lp_s h
          rw [← eg24] at ih24
          rw [eb24] at h
          refine k_iload C dX11_hoard_24 4 rfl ?_
          refine k_aload_n C dX11_hoard_26 0 rfl ?_
          refine k_get C dX11_hoard_27 (k_gX0_4 w) k_fX11_40 (Or.inl rfl) ?_
          refine k_get C dX11_hoard_30 (k_gX16_6 w) k_fX11_348 (Or.inl rfl) ?_
          refine k_icmp_ge C dX11_hoard_33 (tgt := 75) (by decide) (fun c33 => ?_) (fun c33 => ?_)
          · replace h := k_if_t h c33
            refine k_iload_n C dX11_hoard_75 3 rfl ?_
            exact k_iret C dX11_hoard_76 hr (k_p1 h)
          · replace h := k_if_f h c33
            refine k_aload_n C dX11_hoard_36 0 rfl ?_
            refine k_get C dX11_hoard_37 (k_gX0_4 w) k_fX11_40 (Or.inl rfl) ?_
            refine k_iload C dX11_hoard_40 4 rfl ?_
            obtain ⟨v42, h42, h⟩ := k_bd_e h
            refine k_goI (k_runV C dX11_hoard_42 (e_X6_shoalOn_16 (d := 3) (Nat.le_refl _) h42) k_lX11_368 k_yX6_shoalOn (k_oX16 w) (by omega) rfl (Nat.le_of_ble_eq_true rfl)) ?_
            refine k_iload_n C dX11_hoard_45 1 rfl ?_
            refine k_icmp_ne C dX11_hoard_46 (tgt := 69) (by decide) (fun c46 => ?_) (fun c46 => ?_)
            · replace h := k_if_f h c46
              refine k_iinc C dX11_hoard_69 4 rfl (v := 1) rfl (by decide) [1, 2, 3, 4, 0] (L' := fun z9 => [(0, .ref (w.2.1 0)), (1, .int x1), (2, .int x2), (3, .int v3_24), (4, .int z9)]) (fun z9 => rfl) (fun y69 ey69 => ?_)
              replace h := k_nm_e h y69 ey69
              refine k_goto C dX11_hoard_72 (tgt := 24) (by decide) ?_
              exact ih24 _ _ h
            · replace h := k_if_t h c46
              refine k_iload_n C dX11_hoard_49 3 rfl ?_
              refine k_iload_n C dX11_hoard_50 2 rfl ?_
              refine k_if_ne C dX11_hoard_51 (tgt := 66) (by decide) (fun c51 => ?_) (fun c51 => ?_)
              · replace h := k_if_f h c51
                refine k_iconst C dX11_hoard_66 (v := 1) rfl ?_
                refine k_iadd C dX11_hoard_67 ?_
                refine k_topi (fun y68 ey68 => ?_)
                replace h := k_nm_e h y68 ey68
                refine k_istore_n C dX11_hoard_68 (by decide) [1, 2, 3, 0, 4] (L' := [(0, .ref (w.2.1 0)), (1, .int x1), (2, .int x2), (3, .int y68), (4, .int v4_24)]) rfl ?_
                refine k_iinc C dX11_hoard_69 4 rfl (v := 1) rfl (by decide) [1, 2, 3, 4, 0] (L' := fun z9 => [(0, .ref (w.2.1 0)), (1, .int x1), (2, .int x2), (3, .int y68), (4, .int z9)]) (fun z9 => rfl) (fun y69 ey69 => ?_)
                replace h := k_nm_e h y69 ey69
                refine k_goto C dX11_hoard_72 (tgt := 24) (by decide) ?_
                exact ih24 _ _ h
              · replace h := k_if_t h c51
                refine k_aload_n C dX11_hoard_54 0 rfl ?_
                refine k_get C dX11_hoard_55 (k_gX0_4 w) k_fX11_40 (Or.inl rfl) ?_
                refine k_iload C dX11_hoard_58 4 rfl ?_
                obtain ⟨v60, h60, h⟩ := k_bd_e h
                refine k_goI (k_runV C dX11_hoard_60 (e_X6_caughtOn_16 (d := 3) (Nat.le_refl _) h60) k_lX11_374 k_yX6_caughtOn (k_oX16 w) (by omega) rfl (Nat.le_of_ble_eq_true rfl)) ?_
                refine k_goto C dX11_hoard_63 (tgt := 67) (by decide) ?_
                refine k_iadd C dX11_hoard_67 ?_
                refine k_topi (fun y68 ey68 => ?_)
                replace h := k_nm_e h y68 ey68
                refine k_istore_n C dX11_hoard_68 (by decide) [1, 2, 3, 0, 4] (L' := [(0, .ref (w.2.1 0)), (1, .int x1), (2, .int x2), (3, .int y68), (4, .int v4_24)]) rfl ?_
                refine k_iinc C dX11_hoard_69 4 rfl (v := 1) rfl (by decide) [1, 2, 3, 4, 0] (L' := fun z9 => [(0, .ref (w.2.1 0)), (1, .int x1), (2, .int x2), (3, .int y68), (4, .int z9)]) (fun z9 => rfl) (fun y69 ey69 => ?_)
                replace h := k_nm_e h y69 ey69
                refine k_goto C dX11_hoard_72 (tgt := 24) (by decide) ?_
                exact ih24 _ _ h
      exact K24 _ _ _ h
    · replace h := k_if_t h c14
      refine k_iconst C dX11_hoard_17 (v := -1) rfl ?_
      exact k_iret C dX11_hoard_18 hr (k_p1 h)
def f_X11_said (x1 : Int32) (x2 : Int32) (σ : k_St) : Option (Int32) :=
  k_bd (f_X11_hasLake σ) fun v1 =>
  k_if (v1 = (0 : Int32))
    (some (-1 : Int32))
    (k_bd (f_X11_within x1 (0 : Int32) (3 : Int32)) fun v10 =>
    k_if (v10 = (0 : Int32))
      (some (-1 : Int32))
      (k_bd (f_X11_within x2 (0 : Int32) (3 : Int32)) fun v19 =>
      k_if (v19 = (0 : Int32))
        (some (-1 : Int32))
        (k_loop (fun (g32 : Int32 × Int32 → Option (Int32)) (z32 : Int32 × Int32) => match z32 with
          | (v3_32, v4_32) =>
            k_if ((k_rd σ 16 6) ≤ v4_32)
              (some v3_32)
              (k_bd (f_X6_cameOn 16 v4_32 σ) fun v50 =>
              k_if (v50 = x2)
                (k_bd (f_X6_shoalOn 16 v4_32 σ) fun v67 =>
                k_bd (f_X1_told v67 (1 : Int32) σ) fun v71 =>
                k_if (v71 = x1)
                  (k_nm (v3_32 + (1 : Int32)) fun y78 =>
                  k_nm (v4_32 + (1 : Int32)) fun y81 =>
                  g32 (y78, y81))
                  (k_nm (v4_32 + (1 : Int32)) fun y81 =>
                  g32 (v3_32, y81)))
                (k_nm (v4_32 + (1 : Int32)) fun y81 =>
                g32 (v3_32, y81)))) 100000 ((0 : Int32), (0 : Int32)))))
set_option maxHeartbeats 4000000 in
set_option maxRecDepth 100000 in
theorem e_X11_said {l : Launch} {w : k_WC} {d : Nat} (hd : 4 ≤ d) {x1 : Int32} {x2 : Int32}  {σ : k_St} {r : Int32} (h : f_X11_said x1 x2 σ = some r) : k_EI l (k_PX w) yX11_said cX11_said 5 (some .int) d [.ref (w.2.1 0), .int x1, .int x2] σ r σ := by
  refine k_of (own := RX11) rfl (by decide) (Nat.le_of_ble_eq_true rfl) (fun X hX C hr => ?_)
  show k_K (k_PX w) X (k_MQ X (k_Qi (k_PX w) r σ) (k_PX w).2.2.1) 0 [(0, .ref (w.2.1 0)), (1, .int x1), (2, .int x2)] [] σ
  unfold f_X11_said at h
  refine k_aload_n C dX11_said_0 0 rfl ?_
  obtain ⟨v1, h1, h⟩ := k_bd_e h
  refine k_goI (k_runV C dX11_said_1 (e_X11_hasLake (d := 2) (Nat.le_refl _) h1) k_lX11_175 k_yX11_hasLake (k_oX0 w) (by omega) rfl (Nat.le_of_ble_eq_true rfl)) ?_
  refine k_if_eq C dX11_said_4 (tgt := 25) (by decide) (fun c4 => ?_) (fun c4 => ?_)
  · replace h := k_if_t h c4
    refine k_iconst C dX11_said_25 (v := -1) rfl ?_
    exact k_iret C dX11_said_26 hr (k_p1 h)
  · replace h := k_if_f h c4
    refine k_iload_n C dX11_said_7 1 rfl ?_
    refine k_iconst C dX11_said_8 (v := 0) rfl ?_
    refine k_iconst C dX11_said_9 (v := 3) rfl ?_
    obtain ⟨v10, h10, h⟩ := k_bd_e h
    refine k_goI (k_runS C dX11_said_10 (e_X11_within (d := 2) (Nat.le_refl _) h10) k_lX11_118 k_yX11_within (by omega) rfl (Nat.le_of_ble_eq_true rfl)) ?_
    refine k_if_eq C dX11_said_13 (tgt := 25) (by decide) (fun c13 => ?_) (fun c13 => ?_)
    · replace h := k_if_t h c13
      refine k_iconst C dX11_said_25 (v := -1) rfl ?_
      exact k_iret C dX11_said_26 hr (k_p1 h)
    · replace h := k_if_f h c13
      refine k_iload_n C dX11_said_16 2 rfl ?_
      refine k_iconst C dX11_said_17 (v := 0) rfl ?_
      refine k_iconst C dX11_said_18 (v := 3) rfl ?_
      obtain ⟨v19, h19, h⟩ := k_bd_e h
      refine k_goI (k_runS C dX11_said_19 (e_X11_within (d := 2) (Nat.le_refl _) h19) k_lX11_118 k_yX11_within (by omega) rfl (Nat.le_of_ble_eq_true rfl)) ?_
      refine k_if_ne C dX11_said_22 (tgt := 27) (by decide) (fun c22 => ?_) (fun c22 => ?_)
      · replace h := k_if_f h c22
        refine k_iconst C dX11_said_27 (v := 0) rfl ?_
        refine k_istore_n C dX11_said_28 (by decide) [1, 2, 3, 0] (L' := [(0, .ref (w.2.1 0)), (1, .int x1), (2, .int x2), (3, .int (0 : Int32))]) rfl ?_
        refine k_iconst C dX11_said_29 (v := 0) rfl ?_
        refine k_istore C dX11_said_30 (by decide) [1, 2, 3, 4, 0] (L' := [(0, .ref (w.2.1 0)), (1, .int x1), (2, .int x2), (3, .int (0 : Int32)), (4, .int (0 : Int32))]) rfl ?_
        obtain ⟨b32, eb32, h⟩ := k_lp_e h
        have K32 : ∀ (n : Nat) (v3_32 : Int32) (v4_32 : Int32), k_loop b32 n (v3_32, v4_32) = some r → k_K (k_PX w) X (k_MQ X (k_Qi (k_PX w) r σ) (k_PX w).2.2.1) 32 [(0, .ref (w.2.1 0)), (1, .int x1), (2, .int x2), (3, .int v3_32), (4, .int v4_32)] [] σ := by
          intro n
          induction n with
          | zero => intro v3_32 v4_32 h; cases h
          | succ n ih32 =>
            intro v3_32 v4_32 h
            obtain ⟨g32, eg32, h⟩ := k_lp_s h
            rw [← eg32] at ih32
            rw [eb32] at h
            refine k_iload C dX11_said_32 4 rfl ?_
            refine k_aload_n C dX11_said_34 0 rfl ?_
            refine k_get C dX11_said_35 (k_gX0_4 w) k_fX11_40 (Or.inl rfl) ?_
            refine k_get C dX11_said_38 (k_gX16_6 w) k_fX11_348 (Or.inl rfl) ?_
            refine k_icmp_ge C dX11_said_41 (tgt := 87) (by decide) (fun c41 => ?_) (fun c41 => ?_)
            · replace h := k_if_t h c41
              refine k_iload_n C dX11_said_87 3 rfl ?_
              exact k_iret C dX11_said_88 hr (k_p1 h)
            · replace h := k_if_f h c41
              refine k_aload_n C dX11_said_44 0 rfl ?_
              refine k_get C dX11_said_45 (k_gX0_4 w) k_fX11_40 (Or.inl rfl) ?_
              refine k_iload C dX11_said_48 4 rfl ?_
              obtain ⟨v50, h50, h⟩ := k_bd_e h
              refine k_goI (k_runV C dX11_said_50 (e_X6_cameOn_16 (d := 3) (Nat.le_refl _) h50) k_lX11_371 k_yX6_cameOn (k_oX16 w) (by omega) rfl (Nat.le_of_ble_eq_true rfl)) ?_
              refine k_iload_n C dX11_said_53 2 rfl ?_
              refine k_icmp_ne C dX11_said_54 (tgt := 81) (by decide) (fun c54 => ?_) (fun c54 => ?_)
              · replace h := k_if_f h c54
                refine k_iinc C dX11_said_81 4 rfl (v := 1) rfl (by decide) [1, 2, 3, 4, 0] (L' := fun z9 => [(0, .ref (w.2.1 0)), (1, .int x1), (2, .int x2), (3, .int v3_32), (4, .int z9)]) (fun z9 => rfl) (fun y81 ey81 => ?_)
                replace h := k_nm_e h y81 ey81
                refine k_goto C dX11_said_84 (tgt := 32) (by decide) ?_
                exact ih32 _ _ h
              · replace h := k_if_t h c54
                refine k_aload_n C dX11_said_57 0 rfl ?_
                refine k_get C dX11_said_58 (k_gX0_3 w) k_fX11_33 (Or.inl rfl) ?_
                refine k_aload_n C dX11_said_61 0 rfl ?_
                refine k_get C dX11_said_62 (k_gX0_4 w) k_fX11_40 (Or.inl rfl) ?_
                refine k_iload C dX11_said_65 4 rfl ?_
                obtain ⟨v67, h67, h⟩ := k_bd_e h
                refine k_goI (k_runV C dX11_said_67 (e_X6_shoalOn_16 (d := 3) (Nat.le_refl _) h67) k_lX11_368 k_yX6_shoalOn (k_oX16 w) (by omega) rfl (Nat.le_of_ble_eq_true rfl)) ?_
                refine k_iconst C dX11_said_70 (v := 1) rfl ?_
                obtain ⟨v71, h71, h⟩ := k_bd_e h
                refine k_goI (k_runV C dX11_said_71 (e_X1_told (d := 2) (Nat.le_refl _) h71) k_lX11_168 k_yX1_told (k_oX12 w) (by omega) rfl (Nat.le_of_ble_eq_true rfl)) ?_
                refine k_iload_n C dX11_said_74 1 rfl ?_
                refine k_icmp_ne C dX11_said_75 (tgt := 81) (by decide) (fun c75 => ?_) (fun c75 => ?_)
                · replace h := k_if_f h c75
                  refine k_iinc C dX11_said_81 4 rfl (v := 1) rfl (by decide) [1, 2, 3, 4, 0] (L' := fun z9 => [(0, .ref (w.2.1 0)), (1, .int x1), (2, .int x2), (3, .int v3_32), (4, .int z9)]) (fun z9 => rfl) (fun y81 ey81 => ?_)
                  replace h := k_nm_e h y81 ey81
                  refine k_goto C dX11_said_84 (tgt := 32) (by decide) ?_
                  exact ih32 _ _ h
                · replace h := k_if_t h c75
                  refine k_iinc C dX11_said_78 3 rfl (v := 1) rfl (by decide) [1, 2, 3, 0, 4] (L' := fun z9 => [(0, .ref (w.2.1 0)), (1, .int x1), (2, .int x2), (3, .int z9), (4, .int v4_32)]) (fun z9 => rfl) (fun y78 ey78 => ?_)
                  replace h := k_nm_e h y78 ey78
                  refine k_iinc C dX11_said_81 4 rfl (v := 1) rfl (by decide) [1, 2, 3, 4, 0] (L' := fun z9 => [(0, .ref (w.2.1 0)), (1, .int x1), (2, .int x2), (3, .int y78), (4, .int z9)]) (fun z9 => rfl) (fun y81 ey81 => ?_)
                  replace h := k_nm_e h y81 ey81
                  refine k_goto C dX11_said_84 (tgt := 32) (by decide) ?_
                  exact ih32 _ _ h
        exact K32 _ _ _ h
      · replace h := k_if_t h c22
        refine k_iconst C dX11_said_25 (v := -1) rfl ?_
        exact k_iret C dX11_said_26 hr (k_p1 h)
def f_X11_run  (σ : k_St) : Option (Int32) :=
  k_bd (f_X11_hasLake σ) fun v1 =>
  k_if (v1 = (0 : Int32))
    (some (-1 : Int32))
    (k_loop (fun (g15 : Int32 × Int32 × Int32 → Option (Int32)) (z15 : Int32 × Int32 × Int32) => match z15 with
      | (v1_15, v2_15, v3_15) =>
        k_if ((k_rd σ 16 6) ≤ v3_15)
          (some v1_15)
          (k_bd (f_X6_caughtOn 16 v3_15 σ) fun v31 =>
          k_jn (fun (t0_44 : Int32) =>
            k_nm ((o_max v1_15 t0_44)) fun y50 =>
            k_nm (v3_15 + (1 : Int32)) fun y51 =>
            g15 (y50, t0_44, y51)) fun j44 =>
          k_if (v31 = (0 : Int32))
            (j44 (v2_15 + (1 : Int32)))
            (j44 (0 : Int32)))) 100000 ((0 : Int32), (0 : Int32), (0 : Int32)))
set_option maxHeartbeats 4000000 in
set_option maxRecDepth 100000 in
theorem e_X11_run {l : Launch} {w : k_WC} {d : Nat} (hd : 4 ≤ d)   {σ : k_St} {r : Int32} (h : f_X11_run σ = some r) : k_EI l (k_PX w) yX11_run cX11_run 4 (some .int) d [.ref (w.2.1 0)] σ r σ := by
  refine k_of (own := RX11) rfl (by decide) (Nat.le_of_ble_eq_true rfl) (fun X hX C hr => ?_)
  show k_K (k_PX w) X (k_MQ X (k_Qi (k_PX w) r σ) (k_PX w).2.2.1) 0 [(0, .ref (w.2.1 0))] [] σ
  unfold f_X11_run at h
  refine k_aload_n C dX11_run_0 0 rfl ?_
  obtain ⟨v1, h1, h⟩ := k_bd_e h
  refine k_goI (k_runV C dX11_run_1 (e_X11_hasLake (d := 2) (Nat.le_refl _) h1) k_lX11_175 k_yX11_hasLake (k_oX0 w) (by omega) rfl (Nat.le_of_ble_eq_true rfl)) ?_
  refine k_if_ne C dX11_run_4 (tgt := 9) (by decide) (fun c4 => ?_) (fun c4 => ?_)
  · replace h := k_if_f h c4
    refine k_iconst C dX11_run_9 (v := 0) rfl ?_
    refine k_istore_n C dX11_run_10 (by decide) [1, 0] (L' := [(0, .ref (w.2.1 0)), (1, .int (0 : Int32))]) rfl ?_
    refine k_iconst C dX11_run_11 (v := 0) rfl ?_
    refine k_istore_n C dX11_run_12 (by decide) [1, 2, 0] (L' := [(0, .ref (w.2.1 0)), (1, .int (0 : Int32)), (2, .int (0 : Int32))]) rfl ?_
    refine k_iconst C dX11_run_13 (v := 0) rfl ?_
    refine k_istore_n C dX11_run_14 (by decide) [1, 2, 3, 0] (L' := [(0, .ref (w.2.1 0)), (1, .int (0 : Int32)), (2, .int (0 : Int32)), (3, .int (0 : Int32))]) rfl ?_
    obtain ⟨b15, eb15, h⟩ := k_lp_e h
    have K15 : ∀ (n : Nat) (v1_15 : Int32) (v2_15 : Int32) (v3_15 : Int32), k_loop b15 n (v1_15, v2_15, v3_15) = some r → k_K (k_PX w) X (k_MQ X (k_Qi (k_PX w) r σ) (k_PX w).2.2.1) 15 [(0, .ref (w.2.1 0)), (1, .int v1_15), (2, .int v2_15), (3, .int v3_15)] [] σ := by
      intro n
      induction n with
      | zero => intro v1_15 v2_15 v3_15 h; cases h
      | succ n ih15 =>
        intro v1_15 v2_15 v3_15 h
        obtain ⟨g15, eg15, h⟩ := k_lp_s h
        rw [← eg15] at ih15
        rw [eb15] at h
        refine k_iload_n C dX11_run_15 3 rfl ?_
        refine k_aload_n C dX11_run_16 0 rfl ?_
        refine k_get C dX11_run_17 (k_gX0_4 w) k_fX11_40 (Or.inl rfl) ?_
        refine k_get C dX11_run_20 (k_gX16_6 w) k_fX11_348 (Or.inl rfl) ?_
        refine k_icmp_ge C dX11_run_23 (tgt := 57) (by decide) (fun c23 => ?_) (fun c23 => ?_)
        · replace h := k_if_t h c23
          refine k_iload_n C dX11_run_57 1 rfl ?_
          exact k_iret C dX11_run_58 hr (k_p1 h)
        · replace h := k_if_f h c23
          refine k_aload_n C dX11_run_26 0 rfl ?_
          refine k_get C dX11_run_27 (k_gX0_4 w) k_fX11_40 (Or.inl rfl) ?_
          refine k_iload_n C dX11_run_30 3 rfl ?_
          obtain ⟨v31, h31, h⟩ := k_bd_e h
          refine k_goI (k_runV C dX11_run_31 (e_X6_caughtOn_16 (d := 3) (Nat.le_refl _) h31) k_lX11_374 k_yX6_caughtOn (k_oX16 w) (by omega) rfl (Nat.le_of_ble_eq_true rfl)) ?_
          obtain ⟨j44, ej44, h⟩ := k_jn_e h
          have Jj44 : ∀ (t0_44 : Int32), j44 t0_44 = some r → k_K (k_PX w) X (k_MQ X (k_Qi (k_PX w) r σ) (k_PX w).2.2.1) 44 [(0, .ref (w.2.1 0)), (1, .int v1_15), (3, .int v3_15)] [.int t0_44] σ := by
            intro t0_44 h
            rw [ej44] at h
            refine k_istore_n C dX11_run_44 (by decide) [1, 2, 0, 3] (L' := [(0, .ref (w.2.1 0)), (1, .int v1_15), (2, .int t0_44), (3, .int v3_15)]) rfl ?_
            refine k_iload_n C dX11_run_45 1 rfl ?_
            refine k_iload_n C dX11_run_46 2 rfl ?_
            refine k_mmax C dX11_run_47 k_lX11_380 k_ym_max (by omega) (Nat.le_of_ble_eq_true rfl) ?_
            refine k_topi (fun y50 ey50 => ?_)
            replace h := k_nm_e h y50 ey50
            refine k_istore_n C dX11_run_50 (by decide) [1, 0, 2, 3] (L' := [(0, .ref (w.2.1 0)), (1, .int y50), (2, .int t0_44), (3, .int v3_15)]) rfl ?_
            refine k_iinc C dX11_run_51 3 rfl (v := 1) rfl (by decide) [1, 2, 3, 0] (L' := fun z9 => [(0, .ref (w.2.1 0)), (1, .int y50), (2, .int t0_44), (3, .int z9)]) (fun z9 => rfl) (fun y51 ey51 => ?_)
            replace h := k_nm_e h y51 ey51
            refine k_goto C dX11_run_54 (tgt := 15) (by decide) ?_
            exact ih15 _ _ _ h
          refine k_if_ne C dX11_run_34 (tgt := 43) (by decide) (fun c34 => ?_) (fun c34 => ?_)
          · replace h := k_if_f h c34
            refine k_iconst C dX11_run_43 (v := 0) rfl ?_
            refine k_sub (L' := [(0, .ref (w.2.1 0)), (1, .int v1_15), (3, .int v3_15)]) [0, 1, 3] rfl ?_
            exact Jj44 _ h
          · replace h := k_if_t h c34
            refine k_iload_n C dX11_run_37 2 rfl ?_
            refine k_iconst C dX11_run_38 (v := 1) rfl ?_
            refine k_iadd C dX11_run_39 ?_
            refine k_goto C dX11_run_40 (tgt := 44) (by decide) ?_
            refine k_sub (L' := [(0, .ref (w.2.1 0)), (1, .int v1_15), (3, .int v3_15)]) [0, 1, 3] rfl ?_
            exact Jj44 _ h
    exact K15 _ _ _ _ h
  · replace h := k_if_t h c4
    refine k_iconst C dX11_run_7 (v := -1) rfl ?_
    exact k_iret C dX11_run_8 hr (k_p1 h)
def f_X11_copy  (σ : k_St) : Option (Int32 × k_St) :=
  k_bd (f_X11_hasLake σ) fun v1 =>
  k_if (v1 = (0 : Int32))
    (some ((-1 : Int32), σ))
    (k_b2 (f_X0_answerOf (k_rd σ 16 0) σ) fun v20 s20 =>
    k_loop (fun (g29 : Int32 × Int32 → Option (Int32 × k_St)) (z29 : Int32 × Int32) => match z29 with
      | (v3_29, v4_29) =>
        k_if ((4 : Int32) ≤ v4_29)
          (some (v3_29, s20))
          (k_loop (fun (g38 : Int32 × Int32 → Option (Int32 × k_St)) (z38 : Int32 × Int32) => match z38 with
            | (v3_38, v5_38) =>
              k_if ((k_rd s20 12 1) ≤ v5_38)
                (k_nm (v4_29 + (1 : Int32)) fun y84 =>
                g29 (v3_38, y84))
                (k_bd (f_X11_placeOf (k_rl s20 16 1) v4_29 v5_38) fun v61 =>
                k_bd (f_X11_placeOf v20 v4_29 v5_38) fun v69 =>
                k_if (v61 = v69)
                  (k_nm (v3_38 + (1 : Int32)) fun y75 =>
                  k_nm (v5_38 + (1 : Int32)) fun y78 =>
                  g38 (y75, y78))
                  (k_nm (v5_38 + (1 : Int32)) fun y78 =>
                  g38 (v3_38, y78)))) 100000 (v3_29, (0 : Int32)))) 100000 ((0 : Int32), (0 : Int32)))
set_option maxHeartbeats 4000000 in
set_option maxRecDepth 100000 in
theorem e_X11_copy {l : Launch} {w : k_WC} {d : Nat} (hd : 6 ≤ d)   {σ σ' : k_St} {r : Int32} (h : f_X11_copy σ = some (r, σ')) : k_EI l (k_PX w) yX11_copy cX11_copy 6 (some .int) d [.ref (w.2.1 0)] σ r σ' := by
  refine k_of (own := RX11) rfl (by decide) (Nat.le_of_ble_eq_true rfl) (fun X hX C hr => ?_)
  show k_K (k_PX w) X (k_MQ X (k_Qi (k_PX w) r σ') (k_PX w).2.2.1) 0 [(0, .ref (w.2.1 0))] [] σ
  unfold f_X11_copy at h
  refine k_aload_n C dX11_copy_0 0 rfl ?_
  obtain ⟨v1, h1, h⟩ := k_bd_e h
  refine k_goI (k_runV C dX11_copy_1 (e_X11_hasLake (d := 2) (Nat.le_refl _) h1) k_lX11_175 k_yX11_hasLake (k_oX0 w) (by omega) rfl (Nat.le_of_ble_eq_true rfl)) ?_
  refine k_if_ne C dX11_copy_4 (tgt := 9) (by decide) (fun c4 => ?_) (fun c4 => ?_)
  · replace h := k_if_f h c4
    refine k_aload_n C dX11_copy_9 0 rfl ?_
    refine k_get C dX11_copy_10 (k_gX0_6 w) k_fX11_52 (Or.inl rfl) ?_
    refine k_aload_n C dX11_copy_13 0 rfl ?_
    refine k_get C dX11_copy_14 (k_gX0_4 w) k_fX11_40 (Or.inl rfl) ?_
    refine k_get C dX11_copy_17 (k_gX16_0 w) k_fX11_194 (Or.inl rfl) ?_
    obtain ⟨v20, s20, h20, h⟩ := k_b2_e h
    refine k_goL (k_runV C dX11_copy_20 (e_X0_answerOf (d := 5) (Nat.le_refl _) h20) k_lX11_216 k_yX0_answerOf (k_oX30 w) (by omega) rfl (Nat.le_of_ble_eq_true rfl)) ?_
    refine k_lstore_n C dX11_copy_23 (by decide) [1, 0] (L' := [(0, .ref (w.2.1 0)), (1, .long v20)]) rfl ?_
    refine k_iconst C dX11_copy_24 (v := 0) rfl ?_
    refine k_istore_n C dX11_copy_25 (by decide) [1, 2, 0] (L' := [(0, .ref (w.2.1 0)), (1, .long v20), (3, .int (0 : Int32))]) rfl ?_
    refine k_iconst C dX11_copy_26 (v := 0) rfl ?_
    refine k_istore C dX11_copy_27 (by decide) [1, 2, 3, 0] (L' := [(0, .ref (w.2.1 0)), (1, .long v20), (3, .int (0 : Int32)), (4, .int (0 : Int32))]) rfl ?_
    obtain ⟨b29, eb29, h⟩ := k_lp_e h
    have K29 : ∀ (n : Nat) (v3_29 : Int32) (v4_29 : Int32), k_loop b29 n (v3_29, v4_29) = some (r, σ') → k_K (k_PX w) X (k_MQ X (k_Qi (k_PX w) r σ') (k_PX w).2.2.1) 29 [(0, .ref (w.2.1 0)), (1, .long v20), (3, .int v3_29), (4, .int v4_29)] [] s20 := by
      intro n
      induction n with
      | zero => intro v3_29 v4_29 h; cases h
      | succ n ih29 =>
        intro v3_29 v4_29 h
        obtain ⟨g29, eg29, h⟩ := k_lp_s h
        rw [← eg29] at ih29
        rw [eb29] at h
        refine k_iload C dX11_copy_29 3 rfl ?_
        refine k_iconst C dX11_copy_31 (v := 4) rfl ?_
        refine k_icmp_ge C dX11_copy_32 (tgt := 90) (by decide) (fun c32 => ?_) (fun c32 => ?_)
        · replace h := k_if_t h c32
          refine k_iload_n C dX11_copy_90 2 rfl ?_
          exact k_iret C dX11_copy_91 hr (Option.some.inj h)
        · replace h := k_if_f h c32
          refine k_iconst C dX11_copy_35 (v := 0) rfl ?_
          refine k_istore C dX11_copy_36 (by decide) [1, 2, 3, 4, 0] (L' := [(0, .ref (w.2.1 0)), (1, .long v20), (3, .int v3_29), (4, .int v4_29), (5, .int (0 : Int32))]) rfl ?_
          obtain ⟨b38, eb38, h⟩ := k_lp_e h
          have K38 : ∀ (n : Nat) (v3_38 : Int32) (v5_38 : Int32), k_loop b38 n (v3_38, v5_38) = some (r, σ') → k_K (k_PX w) X (k_MQ X (k_Qi (k_PX w) r σ') (k_PX w).2.2.1) 38 [(0, .ref (w.2.1 0)), (1, .long v20), (3, .int v3_38), (4, .int v4_29), (5, .int v5_38)] [] s20 := by
            intro n
            induction n with
            | zero => intro v3_38 v5_38 h; cases h
            | succ n ih38 =>
              intro v3_38 v5_38 h
              obtain ⟨g38, eg38, h⟩ := k_lp_s h
              rw [← eg38] at ih38
              rw [eb38] at h
              refine k_iload C dX11_copy_38 4 rfl ?_
              refine k_aload_n C dX11_copy_40 0 rfl ?_
              refine k_get C dX11_copy_41 (k_gX0_3 w) k_fX11_33 (Or.inl rfl) ?_
              refine k_get C dX11_copy_44 (k_gX12_1 w) k_fX11_188 (Or.inl rfl) ?_
              refine k_icmp_ge C dX11_copy_47 (tgt := 84) (by decide) (fun c47 => ?_) (fun c47 => ?_)
              · replace h := k_if_t h c47
                refine k_iinc C dX11_copy_84 3 rfl (v := 1) rfl (by decide) [1, 2, 3, 0, 4] (L' := fun z9 => [(0, .ref (w.2.1 0)), (1, .long v20), (3, .int v3_38), (4, .int z9), (5, .int v5_38)]) (fun z9 => rfl) (fun y84 ey84 => ?_)
                replace h := k_nm_e h y84 ey84
                refine k_goto C dX11_copy_87 (tgt := 29) (by decide) ?_
                refine k_sub (L' := [(0, .ref (w.2.1 0)), (1, .long v20), (3, .int v3_38), (4, .int y84)]) [0, 1, 2, 3] rfl ?_
                exact ih29 _ _ h
              · replace h := k_if_f h c47
                refine k_aload_n C dX11_copy_50 0 rfl ?_
                refine k_get C dX11_copy_51 (k_gX0_4 w) k_fX11_40 (Or.inl rfl) ?_
                refine k_get C dX11_copy_54 (k_gX16_1 w) k_fX11_201 (Or.inl rfl) ?_
                refine k_iload C dX11_copy_57 3 rfl ?_
                refine k_iload C dX11_copy_59 4 rfl ?_
                obtain ⟨v61, h61, h⟩ := k_bd_e h
                refine k_goI (k_runS C dX11_copy_61 (e_X11_placeOf (d := 2) (Nat.le_refl _) h61) k_lX11_209 k_yX11_placeOf (by omega) rfl (Nat.le_of_ble_eq_true rfl)) ?_
                refine k_lload_n C dX11_copy_64 1 rfl ?_
                refine k_iload C dX11_copy_65 3 rfl ?_
                refine k_iload C dX11_copy_67 4 rfl ?_
                obtain ⟨v69, h69, h⟩ := k_bd_e h
                refine k_goI (k_runS C dX11_copy_69 (e_X11_placeOf (d := 2) (Nat.le_refl _) h69) k_lX11_209 k_yX11_placeOf (by omega) rfl (Nat.le_of_ble_eq_true rfl)) ?_
                refine k_icmp_ne C dX11_copy_72 (tgt := 78) (by decide) (fun c72 => ?_) (fun c72 => ?_)
                · replace h := k_if_f h c72
                  refine k_iinc C dX11_copy_78 4 rfl (v := 1) rfl (by decide) [1, 2, 3, 4, 0] (L' := fun z9 => [(0, .ref (w.2.1 0)), (1, .long v20), (3, .int v3_38), (4, .int v4_29), (5, .int z9)]) (fun z9 => rfl) (fun y78 ey78 => ?_)
                  replace h := k_nm_e h y78 ey78
                  refine k_goto C dX11_copy_81 (tgt := 38) (by decide) ?_
                  exact ih38 _ _ h
                · replace h := k_if_t h c72
                  refine k_iinc C dX11_copy_75 2 rfl (v := 1) rfl (by decide) [1, 2, 0, 3, 4] (L' := fun z9 => [(0, .ref (w.2.1 0)), (1, .long v20), (3, .int z9), (4, .int v4_29), (5, .int v5_38)]) (fun z9 => rfl) (fun y75 ey75 => ?_)
                  replace h := k_nm_e h y75 ey75
                  refine k_iinc C dX11_copy_78 4 rfl (v := 1) rfl (by decide) [1, 2, 3, 4, 0] (L' := fun z9 => [(0, .ref (w.2.1 0)), (1, .long v20), (3, .int y75), (4, .int v4_29), (5, .int z9)]) (fun z9 => rfl) (fun y78 ey78 => ?_)
                  replace h := k_nm_e h y78 ey78
                  refine k_goto C dX11_copy_81 (tgt := 38) (by decide) ?_
                  exact ih38 _ _ h
          exact K38 _ _ _ h
    exact K29 _ _ _ h
  · replace h := k_if_t h c4
    refine k_iconst C dX11_copy_7 (v := -1) rfl ?_
    exact k_iret C dX11_copy_8 hr (Option.some.inj h)
def f_X11_image  (σ : k_St) : Option (Int32 × k_St) :=
  k_bd (f_X11_hasLake σ) fun v1 =>
  k_if (v1 = (0 : Int32))
    (some ((-1 : Int32), σ))
    (k_bd (f_X6_takeFrom 23 16 σ) fun s17 =>
    k_nm (k_wr s17 0 14 (1 : Int32)) fun s22 =>
    some ((k_rd s22 23 6), s22))
set_option maxHeartbeats 4000000 in
set_option maxRecDepth 100000 in
theorem e_X11_image {l : Launch} {w : k_WC} {d : Nat} (hd : 4 ≤ d)   {σ σ' : k_St} {r : Int32} (h : f_X11_image σ = some (r, σ')) : k_EI l (k_PX w) yX11_image cX11_image 1 (some .int) d [.ref (w.2.1 0)] σ r σ' := by
  refine k_of (own := RX11) rfl (by decide) (Nat.le_of_ble_eq_true rfl) (fun X hX C hr => ?_)
  show k_K (k_PX w) X (k_MQ X (k_Qi (k_PX w) r σ') (k_PX w).2.2.1) 0 [(0, .ref (w.2.1 0))] [] σ
  unfold f_X11_image at h
  refine k_aload_n C dX11_image_0 0 rfl ?_
  obtain ⟨v1, h1, h⟩ := k_bd_e h
  refine k_goI (k_runV C dX11_image_1 (e_X11_hasLake (d := 2) (Nat.le_refl _) h1) k_lX11_175 k_yX11_hasLake (k_oX0 w) (by omega) rfl (Nat.le_of_ble_eq_true rfl)) ?_
  refine k_if_ne C dX11_image_4 (tgt := 9) (by decide) (fun c4 => ?_) (fun c4 => ?_)
  · replace h := k_if_f h c4
    refine k_aload_n C dX11_image_9 0 rfl ?_
    refine k_get C dX11_image_10 (k_gX0_5 w) k_fX11_44 (Or.inl rfl) ?_
    refine k_aload_n C dX11_image_13 0 rfl ?_
    refine k_get C dX11_image_14 (k_gX0_4 w) k_fX11_40 (Or.inl rfl) ?_
    obtain ⟨s17, h17, h⟩ := k_bd_e h
    refine k_goV (k_runV C dX11_image_17 (e_X6_takeFrom_23 (d := 3) (Nat.le_refl _) h17) k_lX11_383 k_yX6_takeFrom (k_oX23 w) (by omega) rfl (Nat.le_of_ble_eq_true rfl)) ?_
    refine k_aload_n C dX11_image_20 0 rfl ?_
    refine k_iconst C dX11_image_21 (v := 1) rfl ?_
    refine k_puti C dX11_image_22 (k_pX0_14 w) k_fX11_97 (Or.inl rfl) (k_xz rfl) ?_
    refine k_st (fun s22 es22 => ?_)
    replace h := k_nm_e h s22 es22
    refine k_aload_n C dX11_image_25 0 rfl ?_
    refine k_get C dX11_image_26 (k_gX0_5 w) k_fX11_44 (Or.inl rfl) ?_
    refine k_get C dX11_image_29 (k_gX23_6 w) k_fX11_348 (Or.inl rfl) ?_
    exact k_iret C dX11_image_32 hr (Option.some.inj h)
  · replace h := k_if_t h c4
    refine k_iconst C dX11_image_7 (v := -1) rfl ?_
    exact k_iret C dX11_image_8 hr (Option.some.inj h)
def f_X11_back  (σ : k_St) : Option (Int32 × k_St) :=
  k_if ((k_rd σ 0 14) = (0 : Int32))
    (some ((-1 : Int32), σ))
    (k_bd (f_X6_takeFrom 16 23 σ) fun s17 =>
    some ((k_rd s17 16 6), s17))
set_option maxHeartbeats 4000000 in
set_option maxRecDepth 100000 in
theorem e_X11_back {l : Launch} {w : k_WC} {d : Nat} (hd : 4 ≤ d)   {σ σ' : k_St} {r : Int32} (h : f_X11_back σ = some (r, σ')) : k_EI l (k_PX w) yX11_back cX11_back 1 (some .int) d [.ref (w.2.1 0)] σ r σ' := by
  refine k_of (own := RX11) rfl (by decide) (Nat.le_of_ble_eq_true rfl) (fun X hX C hr => ?_)
  show k_K (k_PX w) X (k_MQ X (k_Qi (k_PX w) r σ') (k_PX w).2.2.1) 0 [(0, .ref (w.2.1 0))] [] σ
  unfold f_X11_back at h
  refine k_aload_n C dX11_back_0 0 rfl ?_
  refine k_get C dX11_back_1 (k_gX0_14 w) k_fX11_97 (Or.inl rfl) ?_
  refine k_if_ne C dX11_back_4 (tgt := 9) (by decide) (fun c4 => ?_) (fun c4 => ?_)
  · replace h := k_if_f h c4
    refine k_aload_n C dX11_back_9 0 rfl ?_
    refine k_get C dX11_back_10 (k_gX0_4 w) k_fX11_40 (Or.inl rfl) ?_
    refine k_aload_n C dX11_back_13 0 rfl ?_
    refine k_get C dX11_back_14 (k_gX0_5 w) k_fX11_44 (Or.inl rfl) ?_
    obtain ⟨s17, h17, h⟩ := k_bd_e h
    refine k_goV (k_runV C dX11_back_17 (e_X6_takeFrom_16 (d := 3) (Nat.le_refl _) h17) k_lX11_383 k_yX6_takeFrom (k_oX16 w) (by omega) rfl (Nat.le_of_ble_eq_true rfl)) ?_
    refine k_aload_n C dX11_back_20 0 rfl ?_
    refine k_get C dX11_back_21 (k_gX0_4 w) k_fX11_40 (Or.inl rfl) ?_
    refine k_get C dX11_back_24 (k_gX16_6 w) k_fX11_348 (Or.inl rfl) ?_
    exact k_iret C dX11_back_27 hr (Option.some.inj h)
  · replace h := k_if_t h c4
    refine k_iconst C dX11_back_7 (v := -1) rfl ?_
    exact k_iret C dX11_back_8 hr (Option.some.inj h)
def f_X11_lone (x1 : Int32) (x2 : Int32) (σ : k_St) : Option (Int32) :=
  k_bd (f_X11_hasLake σ) fun v1 =>
  k_if (v1 = (0 : Int32))
    (some (-1 : Int32))
    (k_bd (f_X11_within x1 (0 : Int32) (2 : Int32)) fun v10 =>
    k_if (v10 = (0 : Int32))
      (some (-1 : Int32))
      (k_bd (f_X11_isPart x2) fun v17 =>
      k_if (v17 = (0 : Int32))
        (some (-1 : Int32))
        (k_jn (fun (t0_35 : Int32) =>
          k_jn (fun (t0_45 : Int32) =>
            k_loop (fun (g53 : Int64 × Int32 → Option (Int32)) (z53 : Int64 × Int32) => match z53 with
              | (v5_53, v7_53) =>
                k_if (t0_35 ≤ v7_53)
                  (k_bd (f_X11_plainMean v5_53 x2 σ) fun v107 =>
                  some v107)
                  (k_loop (fun (g62 : Int64 × Int32 → Option (Int32)) (z62 : Int64 × Int32) => match z62 with
                    | (v5_62, v8_62) =>
                      k_if (t0_45 ≤ v8_62)
                        (k_nm (v7_53 + (1 : Int32)) fun y97 =>
                        g53 (v5_62, y97))
                        (k_bd (f_X0_loneStake x1 v7_53 v8_62 σ) fun v83 =>
                        k_nm ((v5_62 + ((100 : Int64) * v83.toInt64))) fun y89 =>
                        k_nm (v8_62 + (1 : Int32)) fun y91 =>
                        g62 (y89, y91))) 100000 (v5_53, (0 : Int32)))) 100000 ((0 : Int64), (0 : Int32))) fun j45 =>
          k_if (x1 = (0 : Int32))
            (j45 (1 : Int32))
            (j45 (4 : Int32))) fun j35 =>
        k_if (x1 = (1 : Int32))
          (j35 (1 : Int32))
          (j35 (4 : Int32)))))
set_option maxHeartbeats 4000000 in
set_option maxRecDepth 100000 in
theorem e_X11_lone {l : Launch} {w : k_WC} {d : Nat} (hd : 7 ≤ d) {x1 : Int32} {x2 : Int32}  {σ : k_St} {r : Int32} (h : f_X11_lone x1 x2 σ = some r) : k_EI l (k_PX w) yX11_lone cX11_lone 9 (some .int) d [.ref (w.2.1 0), .int x1, .int x2] σ r σ := by
  refine k_of (own := RX11) rfl (by decide) (Nat.le_of_ble_eq_true rfl) (fun X hX C hr => ?_)
  show k_K (k_PX w) X (k_MQ X (k_Qi (k_PX w) r σ) (k_PX w).2.2.1) 0 [(0, .ref (w.2.1 0)), (1, .int x1), (2, .int x2)] [] σ
  unfold f_X11_lone at h
  refine k_aload_n C dX11_lone_0 0 rfl ?_
  obtain ⟨v1, h1, h⟩ := k_bd_e h
  refine k_goI (k_runV C dX11_lone_1 (e_X11_hasLake (d := 2) (Nat.le_refl _) h1) k_lX11_175 k_yX11_hasLake (k_oX0 w) (by omega) rfl (Nat.le_of_ble_eq_true rfl)) ?_
  refine k_if_eq C dX11_lone_4 (tgt := 23) (by decide) (fun c4 => ?_) (fun c4 => ?_)
  · replace h := k_if_t h c4
    refine k_iconst C dX11_lone_23 (v := -1) rfl ?_
    exact k_iret C dX11_lone_24 hr (k_p1 h)
  · replace h := k_if_f h c4
    refine k_iload_n C dX11_lone_7 1 rfl ?_
    refine k_iconst C dX11_lone_8 (v := 0) rfl ?_
    refine k_iconst C dX11_lone_9 (v := 2) rfl ?_
    obtain ⟨v10, h10, h⟩ := k_bd_e h
    refine k_goI (k_runS C dX11_lone_10 (e_X11_within (d := 2) (Nat.le_refl _) h10) k_lX11_118 k_yX11_within (by omega) rfl (Nat.le_of_ble_eq_true rfl)) ?_
    refine k_if_eq C dX11_lone_13 (tgt := 23) (by decide) (fun c13 => ?_) (fun c13 => ?_)
    · replace h := k_if_t h c13
      refine k_iconst C dX11_lone_23 (v := -1) rfl ?_
      exact k_iret C dX11_lone_24 hr (k_p1 h)
    · replace h := k_if_f h c13
      refine k_iload_n C dX11_lone_16 2 rfl ?_
      obtain ⟨v17, h17, h⟩ := k_bd_e h
      refine k_goI (k_runS C dX11_lone_17 (e_X11_isPart (d := 3) (Nat.le_refl _) h17) k_lX11_220 k_yX11_isPart (by omega) rfl (Nat.le_of_ble_eq_true rfl)) ?_
      refine k_if_ne C dX11_lone_20 (tgt := 25) (by decide) (fun c20 => ?_) (fun c20 => ?_)
      · replace h := k_if_f h c20
        refine k_iload_n C dX11_lone_25 1 rfl ?_
        refine k_iconst C dX11_lone_26 (v := 1) rfl ?_
        obtain ⟨j35, ej35, h⟩ := k_jn_e h
        have Jj35 : ∀ (t0_35 : Int32), j35 t0_35 = some r → k_K (k_PX w) X (k_MQ X (k_Qi (k_PX w) r σ) (k_PX w).2.2.1) 35 [(0, .ref (w.2.1 0)), (1, .int x1), (2, .int x2)] [.int t0_35] σ := by
          intro t0_35 h
          rw [ej35] at h
          refine k_istore_n C dX11_lone_35 (by decide) [1, 2, 3, 0] (L' := [(0, .ref (w.2.1 0)), (1, .int x1), (2, .int x2), (3, .int t0_35)]) rfl ?_
          refine k_iload_n C dX11_lone_36 1 rfl ?_
          obtain ⟨j45, ej45, h⟩ := k_jn_e h
          have Jj45 : ∀ (t0_45 : Int32), j45 t0_45 = some r → k_K (k_PX w) X (k_MQ X (k_Qi (k_PX w) r σ) (k_PX w).2.2.1) 45 [(0, .ref (w.2.1 0)), (1, .int x1), (2, .int x2), (3, .int t0_35)] [.int t0_45] σ := by
            intro t0_45 h
            rw [ej45] at h
            refine k_istore C dX11_lone_45 (by decide) [1, 2, 3, 4, 0] (L' := [(0, .ref (w.2.1 0)), (1, .int x1), (2, .int x2), (3, .int t0_35), (4, .int t0_45)]) rfl ?_
            refine k_lconst C dX11_lone_47 (v := 0) rfl ?_
            refine k_lstore C dX11_lone_48 (by decide) [1, 2, 3, 4, 5, 0] (L' := [(0, .ref (w.2.1 0)), (1, .int x1), (2, .int x2), (3, .int t0_35), (4, .int t0_45), (5, .long (0 : Int64))]) rfl ?_
            refine k_iconst C dX11_lone_50 (v := 0) rfl ?_
            refine k_istore C dX11_lone_51 (by decide) [1, 2, 3, 4, 5, 6, 0] (L' := [(0, .ref (w.2.1 0)), (1, .int x1), (2, .int x2), (3, .int t0_35), (4, .int t0_45), (5, .long (0 : Int64)), (7, .int (0 : Int32))]) rfl ?_
            obtain ⟨b53, eb53, h⟩ := k_lp_e h
            have K53 : ∀ (n : Nat) (v5_53 : Int64) (v7_53 : Int32), k_loop b53 n (v5_53, v7_53) = some r → k_K (k_PX w) X (k_MQ X (k_Qi (k_PX w) r σ) (k_PX w).2.2.1) 53 [(0, .ref (w.2.1 0)), (1, .int x1), (2, .int x2), (3, .int t0_35), (4, .int t0_45), (5, .long v5_53), (7, .int v7_53)] [] σ := by
              intro n
              induction n with
              | zero => intro v5_53 v7_53 h; cases h
              | succ n ih53 =>
                intro v5_53 v7_53 h
                obtain ⟨g53, eg53, h⟩ := k_lp_s h
                rw [← eg53] at ih53
                rw [eb53] at h
                refine k_iload C dX11_lone_53 6 rfl ?_
                refine k_iload_n C dX11_lone_55 3 rfl ?_
                refine k_icmp_ge C dX11_lone_56 (tgt := 103) (by decide) (fun c56 => ?_) (fun c56 => ?_)
                · replace h := k_if_t h c56
                  refine k_aload_n C dX11_lone_103 0 rfl ?_
                  refine k_lload C dX11_lone_104 5 rfl ?_
                  refine k_iload_n C dX11_lone_106 2 rfl ?_
                  obtain ⟨v107, h107, h⟩ := k_bd_e h
                  refine k_goI (k_runV C dX11_lone_107 (e_X11_plainMean (d := 4) (Nat.le_refl _) h107) k_lX11_227 k_yX11_plainMean (k_oX0 w) (by omega) rfl (Nat.le_of_ble_eq_true rfl)) ?_
                  exact k_iret C dX11_lone_110 hr (k_p1 h)
                · replace h := k_if_f h c56
                  refine k_iconst C dX11_lone_59 (v := 0) rfl ?_
                  refine k_istore C dX11_lone_60 (by decide) [1, 2, 3, 4, 5, 6, 7, 0] (L' := [(0, .ref (w.2.1 0)), (1, .int x1), (2, .int x2), (3, .int t0_35), (4, .int t0_45), (5, .long v5_53), (7, .int v7_53), (8, .int (0 : Int32))]) rfl ?_
                  obtain ⟨b62, eb62, h⟩ := k_lp_e h
                  have K62 : ∀ (n : Nat) (v5_62 : Int64) (v8_62 : Int32), k_loop b62 n (v5_62, v8_62) = some r → k_K (k_PX w) X (k_MQ X (k_Qi (k_PX w) r σ) (k_PX w).2.2.1) 62 [(0, .ref (w.2.1 0)), (1, .int x1), (2, .int x2), (3, .int t0_35), (4, .int t0_45), (5, .long v5_62), (7, .int v7_53), (8, .int v8_62)] [] σ := by
                    intro n
                    induction n with
                    | zero => intro v5_62 v8_62 h; cases h
                    | succ n ih62 =>
                      intro v5_62 v8_62 h
                      obtain ⟨g62, eg62, h⟩ := k_lp_s h
                      rw [← eg62] at ih62
                      rw [eb62] at h
                      refine k_iload C dX11_lone_62 7 rfl ?_
                      refine k_iload C dX11_lone_64 4 rfl ?_
                      refine k_icmp_ge C dX11_lone_66 (tgt := 97) (by decide) (fun c66 => ?_) (fun c66 => ?_)
                      · replace h := k_if_t h c66
                        refine k_iinc C dX11_lone_97 6 rfl (v := 1) rfl (by decide) [1, 2, 3, 4, 5, 6, 0, 7] (L' := fun z9 => [(0, .ref (w.2.1 0)), (1, .int x1), (2, .int x2), (3, .int t0_35), (4, .int t0_45), (5, .long v5_62), (7, .int z9), (8, .int v8_62)]) (fun z9 => rfl) (fun y97 ey97 => ?_)
                        replace h := k_nm_e h y97 ey97
                        refine k_goto C dX11_lone_100 (tgt := 53) (by decide) ?_
                        refine k_sub (L' := [(0, .ref (w.2.1 0)), (1, .int x1), (2, .int x2), (3, .int t0_35), (4, .int t0_45), (5, .long v5_62), (7, .int y97)]) [0, 1, 2, 3, 4, 5, 6] rfl ?_
                        exact ih53 _ _ h
                      · replace h := k_if_f h c66
                        refine k_lload C dX11_lone_69 5 rfl ?_
                        refine k_ldc2 C dX11_lone_71 k_cX11_386 ?_
                        refine k_aload_n C dX11_lone_74 0 rfl ?_
                        refine k_get C dX11_lone_75 (k_gX0_6 w) k_fX11_52 (Or.inl rfl) ?_
                        refine k_iload_n C dX11_lone_78 1 rfl ?_
                        refine k_iload C dX11_lone_79 6 rfl ?_
                        refine k_iload C dX11_lone_81 7 rfl ?_
                        obtain ⟨v83, h83, h⟩ := k_bd_e h
                        refine k_goI (k_runV C dX11_lone_83 (e_X0_loneStake (d := 6) (Nat.le_refl _) h83) k_lX11_388 k_yX0_loneStake (k_oX30 w) (by omega) rfl (Nat.le_of_ble_eq_true rfl)) ?_
                        refine k_i2l C dX11_lone_86 ?_
                        refine k_lmul C dX11_lone_87 ?_
                        refine k_ladd C dX11_lone_88 ?_
                        refine k_topl (fun y89 ey89 => ?_)
                        replace h := k_nm_e h y89 ey89
                        refine k_lstore C dX11_lone_89 (by decide) [1, 2, 3, 4, 5, 0, 6, 7] (L' := [(0, .ref (w.2.1 0)), (1, .int x1), (2, .int x2), (3, .int t0_35), (4, .int t0_45), (5, .long y89), (7, .int v7_53), (8, .int v8_62)]) rfl ?_
                        refine k_iinc C dX11_lone_91 7 rfl (v := 1) rfl (by decide) [1, 2, 3, 4, 5, 6, 7, 0] (L' := fun z9 => [(0, .ref (w.2.1 0)), (1, .int x1), (2, .int x2), (3, .int t0_35), (4, .int t0_45), (5, .long y89), (7, .int v7_53), (8, .int z9)]) (fun z9 => rfl) (fun y91 ey91 => ?_)
                        replace h := k_nm_e h y91 ey91
                        refine k_goto C dX11_lone_94 (tgt := 62) (by decide) ?_
                        exact ih62 _ _ h
                  exact K62 _ _ _ h
            exact K53 _ _ _ h
          refine k_if_ne C dX11_lone_37 (tgt := 44) (by decide) (fun c37 => ?_) (fun c37 => ?_)
          · replace h := k_if_f h c37
            refine k_iconst C dX11_lone_44 (v := 4) rfl ?_
            exact Jj45 _ h
          · replace h := k_if_t h c37
            refine k_iconst C dX11_lone_40 (v := 1) rfl ?_
            refine k_goto C dX11_lone_41 (tgt := 45) (by decide) ?_
            exact Jj45 _ h
        refine k_icmp_ne C dX11_lone_27 (tgt := 34) (by decide) (fun c27 => ?_) (fun c27 => ?_)
        · replace h := k_if_f h c27
          refine k_iconst C dX11_lone_34 (v := 4) rfl ?_
          exact Jj35 _ h
        · replace h := k_if_t h c27
          refine k_iconst C dX11_lone_30 (v := 1) rfl ?_
          refine k_goto C dX11_lone_31 (tgt := 35) (by decide) ?_
          exact Jj35 _ h
      · replace h := k_if_t h c20
        refine k_iconst C dX11_lone_23 (v := -1) rfl ?_
        exact k_iret C dX11_lone_24 hr (k_p1 h)
def f_X11_alone (x1 : Int32) (x2 : Int32) (x3 : Int32) (σ : k_St) : Option (Int32) :=
  k_bd (f_X11_within x1 (0 : Int32) (2 : Int32)) fun v3 =>
  k_jn (fun (t0_32 : Int32) =>
    k_bd (f_X11_hasLake σ) fun v35 =>
    k_if (v35 = (0 : Int32))
      (some (-1 : Int32))
      (k_if (t0_32 = (0 : Int32))
        (some (-1 : Int32))
        (k_bd (f_X0_lonePlace x1 x2 x3 σ) fun v53 =>
        some v53))) fun j32 =>
  k_jn (fun (_ : Unit) =>
    j32 (0 : Int32)) fun j31 =>
  k_if (v3 = (0 : Int32))
    (j31 ())
    (k_bd (f_X11_within x2 (0 : Int32) (3 : Int32)) fun v12 =>
    k_if (v12 = (0 : Int32))
      (j31 ())
      (k_bd (f_X11_within x3 (0 : Int32) (3 : Int32)) fun v21 =>
      k_if (v21 = (0 : Int32))
        (j31 ())
        (j32 (1 : Int32))))
set_option maxHeartbeats 4000000 in
set_option maxRecDepth 100000 in
theorem e_X11_alone {l : Launch} {w : k_WC} {d : Nat} (hd : 6 ≤ d) {x1 : Int32} {x2 : Int32} {x3 : Int32}  {σ : k_St} {r : Int32} (h : f_X11_alone x1 x2 x3 σ = some r) : k_EI l (k_PX w) yX11_alone cX11_alone 5 (some .int) d [.ref (w.2.1 0), .int x1, .int x2, .int x3] σ r σ := by
  refine k_of (own := RX11) rfl (by decide) (Nat.le_of_ble_eq_true rfl) (fun X hX C hr => ?_)
  show k_K (k_PX w) X (k_MQ X (k_Qi (k_PX w) r σ) (k_PX w).2.2.1) 0 [(0, .ref (w.2.1 0)), (1, .int x1), (2, .int x2), (3, .int x3)] [] σ
  unfold f_X11_alone at h
  refine k_iload_n C dX11_alone_0 1 rfl ?_
  refine k_iconst C dX11_alone_1 (v := 0) rfl ?_
  refine k_iconst C dX11_alone_2 (v := 2) rfl ?_
  obtain ⟨v3, h3, h⟩ := k_bd_e h
  refine k_goI (k_runS C dX11_alone_3 (e_X11_within (d := 2) (Nat.le_refl _) h3) k_lX11_118 k_yX11_within (by omega) rfl (Nat.le_of_ble_eq_true rfl)) ?_
  obtain ⟨j32, ej32, h⟩ := k_jn_e h
  have Jj32 : ∀ (t0_32 : Int32), j32 t0_32 = some r → k_K (k_PX w) X (k_MQ X (k_Qi (k_PX w) r σ) (k_PX w).2.2.1) 32 [(0, .ref (w.2.1 0)), (1, .int x1), (2, .int x2), (3, .int x3)] [.int t0_32] σ := by
    intro t0_32 h
    rw [ej32] at h
    refine k_istore C dX11_alone_32 (by decide) [1, 2, 3, 4, 0] (L' := [(0, .ref (w.2.1 0)), (1, .int x1), (2, .int x2), (3, .int x3), (4, .int t0_32)]) rfl ?_
    refine k_aload_n C dX11_alone_34 0 rfl ?_
    obtain ⟨v35, h35, h⟩ := k_bd_e h
    refine k_goI (k_runV C dX11_alone_35 (e_X11_hasLake (d := 2) (Nat.le_refl _) h35) k_lX11_175 k_yX11_hasLake (k_oX0 w) (by omega) rfl (Nat.le_of_ble_eq_true rfl)) ?_
    refine k_if_eq C dX11_alone_38 (tgt := 59) (by decide) (fun c38 => ?_) (fun c38 => ?_)
    · replace h := k_if_t h c38
      refine k_iconst C dX11_alone_59 (v := -1) rfl ?_
      exact k_iret C dX11_alone_60 hr (k_p1 h)
    · replace h := k_if_f h c38
      refine k_iload C dX11_alone_41 4 rfl ?_
      refine k_if_eq C dX11_alone_43 (tgt := 59) (by decide) (fun c43 => ?_) (fun c43 => ?_)
      · replace h := k_if_t h c43
        refine k_iconst C dX11_alone_59 (v := -1) rfl ?_
        exact k_iret C dX11_alone_60 hr (k_p1 h)
      · replace h := k_if_f h c43
        refine k_aload_n C dX11_alone_46 0 rfl ?_
        refine k_get C dX11_alone_47 (k_gX0_6 w) k_fX11_52 (Or.inl rfl) ?_
        refine k_iload_n C dX11_alone_50 1 rfl ?_
        refine k_iload_n C dX11_alone_51 2 rfl ?_
        refine k_iload_n C dX11_alone_52 3 rfl ?_
        obtain ⟨v53, h53, h⟩ := k_bd_e h
        refine k_goI (k_runV C dX11_alone_53 (e_X0_lonePlace (d := 5) (Nat.le_refl _) h53) k_lX11_391 k_yX0_lonePlace (k_oX30 w) (by omega) rfl (Nat.le_of_ble_eq_true rfl)) ?_
        refine k_goto C dX11_alone_56 (tgt := 60) (by decide) ?_
        exact k_iret C dX11_alone_60 hr (k_p1 h)
  obtain ⟨j31, ej31, h⟩ := k_jn_e h
  have Jj31 : j31 () = some r → k_K (k_PX w) X (k_MQ X (k_Qi (k_PX w) r σ) (k_PX w).2.2.1) 31 [(0, .ref (w.2.1 0)), (1, .int x1), (2, .int x2), (3, .int x3)] [] σ := by
    intro  h
    rw [ej31] at h
    refine k_iconst C dX11_alone_31 (v := 0) rfl ?_
    exact Jj32 _ h
  refine k_if_eq C dX11_alone_6 (tgt := 31) (by decide) (fun c6 => ?_) (fun c6 => ?_)
  · replace h := k_if_t h c6
    exact Jj31 h
  · replace h := k_if_f h c6
    refine k_iload_n C dX11_alone_9 2 rfl ?_
    refine k_iconst C dX11_alone_10 (v := 0) rfl ?_
    refine k_iconst C dX11_alone_11 (v := 3) rfl ?_
    obtain ⟨v12, h12, h⟩ := k_bd_e h
    refine k_goI (k_runS C dX11_alone_12 (e_X11_within (d := 2) (Nat.le_refl _) h12) k_lX11_118 k_yX11_within (by omega) rfl (Nat.le_of_ble_eq_true rfl)) ?_
    refine k_if_eq C dX11_alone_15 (tgt := 31) (by decide) (fun c15 => ?_) (fun c15 => ?_)
    · replace h := k_if_t h c15
      exact Jj31 h
    · replace h := k_if_f h c15
      refine k_iload_n C dX11_alone_18 3 rfl ?_
      refine k_iconst C dX11_alone_19 (v := 0) rfl ?_
      refine k_iconst C dX11_alone_20 (v := 3) rfl ?_
      obtain ⟨v21, h21, h⟩ := k_bd_e h
      refine k_goI (k_runS C dX11_alone_21 (e_X11_within (d := 2) (Nat.le_refl _) h21) k_lX11_118 k_yX11_within (by omega) rfl (Nat.le_of_ble_eq_true rfl)) ?_
      refine k_if_eq C dX11_alone_24 (tgt := 31) (by decide) (fun c24 => ?_) (fun c24 => ?_)
      · replace h := k_if_t h c24
        exact Jj31 h
      · replace h := k_if_f h c24
        refine k_iconst C dX11_alone_27 (v := 1) rfl ?_
        refine k_goto C dX11_alone_28 (tgt := 32) (by decide) ?_
        exact Jj32 _ h
def f_X11_knots (x1 : Int32) (x2 : Int32) (x3 : Int32) (σ : k_St) : Option (Int64 × k_St) :=
  k_bd (f_X11_hasLake σ) fun v1 =>
  k_if (v1 = (0 : Int32))
    (some ((-1 : Int64), σ))
    (k_bd (f_X11_within x1 (1 : Int32) (3 : Int32)) fun v10 =>
    k_if (v10 = (0 : Int32))
      (some ((-1 : Int64), σ))
      (k_bd (f_X11_within x2 (0 : Int32) (9999 : Int32)) fun v21 =>
      k_if (v21 = (0 : Int32))
        (some ((-1 : Int64), σ))
        (k_bd (f_X11_isPart x3) fun v28 =>
        k_if (v28 = (0 : Int32))
          (some ((-1 : Int64), σ))
          (k_b2 (f_X4_knotsOf x1 x2 σ) fun v44 s44 =>
          k_if ((lg_cmp v44 (-1 : Int64)) = (0 : Int32))
            (some ((-1 : Int64), s44))
            (k_bd (f_X11_plain v44 ((k_rl s44 33 2) * (k_rd s44 12 2).toInt64) x3) fun v83 =>
            some (v83, s44))))))
set_option maxHeartbeats 4000000 in
set_option maxRecDepth 100000 in
theorem e_X11_knots {l : Launch} {w : k_WC} {d : Nat} (hd : 7 ≤ d) {x1 : Int32} {x2 : Int32} {x3 : Int32}  {σ σ' : k_St} {r : Int64} (h : f_X11_knots x1 x2 x3 σ = some (r, σ')) : k_EL l (k_PX w) yX11_knots cX11_knots 6 d [.ref (w.2.1 0), .int x1, .int x2, .int x3] σ r σ' := by
  refine k_of (own := RX11) rfl (by decide) (Nat.le_of_ble_eq_true rfl) (fun X hX C hr => ?_)
  show k_K (k_PX w) X (k_MQ X (k_Ql (k_PX w) r σ') (k_PX w).2.2.1) 0 [(0, .ref (w.2.1 0)), (1, .int x1), (2, .int x2), (3, .int x3)] [] σ
  unfold f_X11_knots at h
  refine k_aload_n C dX11_knots_0 0 rfl ?_
  obtain ⟨v1, h1, h⟩ := k_bd_e h
  refine k_goI (k_runV C dX11_knots_1 (e_X11_hasLake (d := 2) (Nat.le_refl _) h1) k_lX11_175 k_yX11_hasLake (k_oX0 w) (by omega) rfl (Nat.le_of_ble_eq_true rfl)) ?_
  refine k_if_eq C dX11_knots_4 (tgt := 34) (by decide) (fun c4 => ?_) (fun c4 => ?_)
  · replace h := k_if_t h c4
    refine k_ldc2 C dX11_knots_34 k_cX11_260 ?_
    exact k_lret C dX11_knots_37 hr (Option.some.inj h)
  · replace h := k_if_f h c4
    refine k_iload_n C dX11_knots_7 1 rfl ?_
    refine k_iconst C dX11_knots_8 (v := 1) rfl ?_
    refine k_iconst C dX11_knots_9 (v := 3) rfl ?_
    obtain ⟨v10, h10, h⟩ := k_bd_e h
    refine k_goI (k_runS C dX11_knots_10 (e_X11_within (d := 2) (Nat.le_refl _) h10) k_lX11_118 k_yX11_within (by omega) rfl (Nat.le_of_ble_eq_true rfl)) ?_
    refine k_if_eq C dX11_knots_13 (tgt := 34) (by decide) (fun c13 => ?_) (fun c13 => ?_)
    · replace h := k_if_t h c13
      refine k_ldc2 C dX11_knots_34 k_cX11_260 ?_
      exact k_lret C dX11_knots_37 hr (Option.some.inj h)
    · replace h := k_if_f h c13
      refine k_iload_n C dX11_knots_16 2 rfl ?_
      refine k_iconst C dX11_knots_17 (v := 0) rfl ?_
      refine k_sipush C dX11_knots_18 (v := 9999) rfl ?_
      obtain ⟨v21, h21, h⟩ := k_bd_e h
      refine k_goI (k_runS C dX11_knots_21 (e_X11_within (d := 2) (Nat.le_refl _) h21) k_lX11_118 k_yX11_within (by omega) rfl (Nat.le_of_ble_eq_true rfl)) ?_
      refine k_if_eq C dX11_knots_24 (tgt := 34) (by decide) (fun c24 => ?_) (fun c24 => ?_)
      · replace h := k_if_t h c24
        refine k_ldc2 C dX11_knots_34 k_cX11_260 ?_
        exact k_lret C dX11_knots_37 hr (Option.some.inj h)
      · replace h := k_if_f h c24
        refine k_iload_n C dX11_knots_27 3 rfl ?_
        obtain ⟨v28, h28, h⟩ := k_bd_e h
        refine k_goI (k_runS C dX11_knots_28 (e_X11_isPart (d := 3) (Nat.le_refl _) h28) k_lX11_220 k_yX11_isPart (by omega) rfl (Nat.le_of_ble_eq_true rfl)) ?_
        refine k_if_ne C dX11_knots_31 (tgt := 38) (by decide) (fun c31 => ?_) (fun c31 => ?_)
        · replace h := k_if_f h c31
          refine k_aload_n C dX11_knots_38 0 rfl ?_
          refine k_get C dX11_knots_39 (k_gX0_7 w) k_fX11_59 (Or.inl rfl) ?_
          refine k_iload_n C dX11_knots_42 1 rfl ?_
          refine k_iload_n C dX11_knots_43 2 rfl ?_
          obtain ⟨v44, s44, h44, h⟩ := k_b2_e h
          refine k_goL (k_runV C dX11_knots_44 (e_X4_knotsOf (d := 6) (Nat.le_refl _) h44) k_lX11_394 k_yX4_knotsOf (k_oX33 w) (by omega) rfl (Nat.le_of_ble_eq_true rfl)) ?_
          refine k_lstore C dX11_knots_47 (by decide) [1, 2, 3, 4, 0] (L' := [(0, .ref (w.2.1 0)), (1, .int x1), (2, .int x2), (3, .int x3), (4, .long v44)]) rfl ?_
          refine k_lload C dX11_knots_49 4 rfl ?_
          refine k_ldc2 C dX11_knots_51 k_cX11_260 ?_
          refine k_lcmp C dX11_knots_54 ?_
          refine k_if_ne C dX11_knots_55 (tgt := 64) (by decide) (fun c55 => ?_) (fun c55 => ?_)
          · replace h := k_if_f h c55
            refine k_lload C dX11_knots_64 4 rfl ?_
            refine k_aload_n C dX11_knots_66 0 rfl ?_
            refine k_get C dX11_knots_67 (k_gX0_7 w) k_fX11_59 (Or.inl rfl) ?_
            refine k_get C dX11_knots_70 (k_gX33_2 w) k_fX11_397 (Or.inl rfl) ?_
            refine k_aload_n C dX11_knots_73 0 rfl ?_
            refine k_get C dX11_knots_74 (k_gX0_3 w) k_fX11_33 (Or.inl rfl) ?_
            refine k_get C dX11_knots_77 (k_gX12_2 w) k_fX11_318 (Or.inl rfl) ?_
            refine k_i2l C dX11_knots_80 ?_
            refine k_lmul C dX11_knots_81 ?_
            refine k_iload_n C dX11_knots_82 3 rfl ?_
            obtain ⟨v83, h83, h⟩ := k_bd_e h
            refine k_goL (k_runS C dX11_knots_83 (e_X11_plain (d := 3) (Nat.le_refl _) h83) k_lX11_321 k_yX11_plain (by omega) rfl (Nat.le_of_ble_eq_true rfl)) ?_
            exact k_lret C dX11_knots_86 hr (Option.some.inj h)
          · replace h := k_if_t h c55
            refine k_ldc2 C dX11_knots_58 k_cX11_260 ?_
            refine k_goto C dX11_knots_61 (tgt := 86) (by decide) ?_
            exact k_lret C dX11_knots_86 hr (Option.some.inj h)
        · replace h := k_if_t h c31
          refine k_ldc2 C dX11_knots_34 k_cX11_260 ?_
          exact k_lret C dX11_knots_37 hr (Option.some.inj h)
def f_X11_bestKnots (x1 : Int32) (x2 : Int32) (σ : k_St) : Option (Int64 × k_St) :=
  k_bd (f_X11_hasLake σ) fun v1 =>
  k_if (v1 = (0 : Int32))
    (some ((-1 : Int64), σ))
    (k_bd (f_X11_within x1 (1 : Int32) (3 : Int32)) fun v10 =>
    k_if (v10 = (0 : Int32))
      (some ((-1 : Int64), σ))
      (k_bd (f_X11_within x2 (0 : Int32) (2 : Int32)) fun v19 =>
      k_if (v19 = (0 : Int32))
        (some ((-1 : Int64), σ))
        (k_bd (f_X4_byKnots x1 σ) fun s34 =>
        k_if (x2 = (0 : Int32))
          (some ((k_rd s34 33 1).toInt64, s34))
          (k_bd (f_X11_plain (k_rl s34 33 0) ((k_rl s34 33 2) * (k_rd s34 12 2).toInt64) (x2 - (1 : Int32))) fun v78 =>
          some (v78, s34)))))
set_option maxHeartbeats 4000000 in
set_option maxRecDepth 100000 in
theorem e_X11_bestKnots {l : Launch} {w : k_WC} {d : Nat} (hd : 18 ≤ d) {x1 : Int32} {x2 : Int32}  {σ σ' : k_St} {r : Int64} (h : f_X11_bestKnots x1 x2 σ = some (r, σ')) : k_EL l (k_PX w) yX11_bestKnots cX11_bestKnots 3 d [.ref (w.2.1 0), .int x1, .int x2] σ r σ' := by
  refine k_of (own := RX11) rfl (by decide) (Nat.le_of_ble_eq_true rfl) (fun X hX C hr => ?_)
  show k_K (k_PX w) X (k_MQ X (k_Ql (k_PX w) r σ') (k_PX w).2.2.1) 0 [(0, .ref (w.2.1 0)), (1, .int x1), (2, .int x2)] [] σ
  unfold f_X11_bestKnots at h
  refine k_aload_n C dX11_bestKnots_0 0 rfl ?_
  obtain ⟨v1, h1, h⟩ := k_bd_e h
  refine k_goI (k_runV C dX11_bestKnots_1 (e_X11_hasLake (d := 2) (Nat.le_refl _) h1) k_lX11_175 k_yX11_hasLake (k_oX0 w) (by omega) rfl (Nat.le_of_ble_eq_true rfl)) ?_
  refine k_if_eq C dX11_bestKnots_4 (tgt := 25) (by decide) (fun c4 => ?_) (fun c4 => ?_)
  · replace h := k_if_t h c4
    refine k_ldc2 C dX11_bestKnots_25 k_cX11_260 ?_
    exact k_lret C dX11_bestKnots_28 hr (Option.some.inj h)
  · replace h := k_if_f h c4
    refine k_iload_n C dX11_bestKnots_7 1 rfl ?_
    refine k_iconst C dX11_bestKnots_8 (v := 1) rfl ?_
    refine k_iconst C dX11_bestKnots_9 (v := 3) rfl ?_
    obtain ⟨v10, h10, h⟩ := k_bd_e h
    refine k_goI (k_runS C dX11_bestKnots_10 (e_X11_within (d := 2) (Nat.le_refl _) h10) k_lX11_118 k_yX11_within (by omega) rfl (Nat.le_of_ble_eq_true rfl)) ?_
    refine k_if_eq C dX11_bestKnots_13 (tgt := 25) (by decide) (fun c13 => ?_) (fun c13 => ?_)
    · replace h := k_if_t h c13
      refine k_ldc2 C dX11_bestKnots_25 k_cX11_260 ?_
      exact k_lret C dX11_bestKnots_28 hr (Option.some.inj h)
    · replace h := k_if_f h c13
      refine k_iload_n C dX11_bestKnots_16 2 rfl ?_
      refine k_iconst C dX11_bestKnots_17 (v := 0) rfl ?_
      refine k_iconst C dX11_bestKnots_18 (v := 2) rfl ?_
      obtain ⟨v19, h19, h⟩ := k_bd_e h
      refine k_goI (k_runS C dX11_bestKnots_19 (e_X11_within (d := 2) (Nat.le_refl _) h19) k_lX11_118 k_yX11_within (by omega) rfl (Nat.le_of_ble_eq_true rfl)) ?_
      refine k_if_ne C dX11_bestKnots_22 (tgt := 29) (by decide) (fun c22 => ?_) (fun c22 => ?_)
      · replace h := k_if_f h c22
        refine k_aload_n C dX11_bestKnots_29 0 rfl ?_
        refine k_get C dX11_bestKnots_30 (k_gX0_7 w) k_fX11_59 (Or.inl rfl) ?_
        refine k_iload_n C dX11_bestKnots_33 1 rfl ?_
        obtain ⟨s34, h34, h⟩ := k_bd_e h
        refine k_goV (k_runV C dX11_bestKnots_34 (e_X4_byKnots (d := 17) (Nat.le_refl _) h34) k_lX11_400 k_yX4_byKnots (k_oX33 w) (by omega) rfl (Nat.le_of_ble_eq_true rfl)) ?_
        refine k_iload_n C dX11_bestKnots_37 2 rfl ?_
        refine k_if_ne C dX11_bestKnots_38 (tgt := 52) (by decide) (fun c38 => ?_) (fun c38 => ?_)
        · replace h := k_if_f h c38
          refine k_aload_n C dX11_bestKnots_52 0 rfl ?_
          refine k_get C dX11_bestKnots_53 (k_gX0_7 w) k_fX11_59 (Or.inl rfl) ?_
          refine k_get C dX11_bestKnots_56 (k_gX33_0 w) k_fX11_238 (Or.inl rfl) ?_
          refine k_aload_n C dX11_bestKnots_59 0 rfl ?_
          refine k_get C dX11_bestKnots_60 (k_gX0_7 w) k_fX11_59 (Or.inl rfl) ?_
          refine k_get C dX11_bestKnots_63 (k_gX33_2 w) k_fX11_397 (Or.inl rfl) ?_
          refine k_aload_n C dX11_bestKnots_66 0 rfl ?_
          refine k_get C dX11_bestKnots_67 (k_gX0_3 w) k_fX11_33 (Or.inl rfl) ?_
          refine k_get C dX11_bestKnots_70 (k_gX12_2 w) k_fX11_318 (Or.inl rfl) ?_
          refine k_i2l C dX11_bestKnots_73 ?_
          refine k_lmul C dX11_bestKnots_74 ?_
          refine k_iload_n C dX11_bestKnots_75 2 rfl ?_
          refine k_iconst C dX11_bestKnots_76 (v := 1) rfl ?_
          refine k_isub C dX11_bestKnots_77 ?_
          obtain ⟨v78, h78, h⟩ := k_bd_e h
          refine k_goL (k_runS C dX11_bestKnots_78 (e_X11_plain (d := 3) (Nat.le_refl _) h78) k_lX11_321 k_yX11_plain (by omega) rfl (Nat.le_of_ble_eq_true rfl)) ?_
          exact k_lret C dX11_bestKnots_81 hr (Option.some.inj h)
        · replace h := k_if_t h c38
          refine k_aload_n C dX11_bestKnots_41 0 rfl ?_
          refine k_get C dX11_bestKnots_42 (k_gX0_7 w) k_fX11_59 (Or.inl rfl) ?_
          refine k_get C dX11_bestKnots_45 (k_gX33_1 w) k_fX11_235 (Or.inl rfl) ?_
          refine k_i2l C dX11_bestKnots_48 ?_
          refine k_goto C dX11_bestKnots_49 (tgt := 81) (by decide) ?_
          exact k_lret C dX11_bestKnots_81 hr (Option.some.inj h)
      · replace h := k_if_t h c22
        refine k_ldc2 C dX11_bestKnots_25 k_cX11_260 ?_
        exact k_lret C dX11_bestKnots_28 hr (Option.some.inj h)
def f_X11_aboveIn (x1 : Int32) (x2 : Int32) (σ : k_St) : Option (Int64) :=
  k_bd (f_X0_aboveIn (k_rd σ 16 0) (k_rl σ 16 1) x1 x2 σ) fun v20 =>
  some v20
set_option maxHeartbeats 4000000 in
set_option maxRecDepth 100000 in
theorem e_X11_aboveIn {l : Launch} {w : k_WC} {d : Nat} (hd : 6 ≤ d) {x1 : Int32} {x2 : Int32}  {σ : k_St} {r : Int64} (h : f_X11_aboveIn x1 x2 σ = some r) : k_EL l (k_PX w) yX11_aboveIn cX11_aboveIn 3 d [.ref (w.2.1 0), .int x1, .int x2] σ r σ := by
  refine k_of (own := RX11) rfl (by decide) (Nat.le_of_ble_eq_true rfl) (fun X hX C hr => ?_)
  show k_K (k_PX w) X (k_MQ X (k_Ql (k_PX w) r σ) (k_PX w).2.2.1) 0 [(0, .ref (w.2.1 0)), (1, .int x1), (2, .int x2)] [] σ
  unfold f_X11_aboveIn at h
  refine k_aload_n C dX11_aboveIn_0 0 rfl ?_
  refine k_get C dX11_aboveIn_1 (k_gX0_6 w) k_fX11_52 (Or.inl rfl) ?_
  refine k_aload_n C dX11_aboveIn_4 0 rfl ?_
  refine k_get C dX11_aboveIn_5 (k_gX0_4 w) k_fX11_40 (Or.inl rfl) ?_
  refine k_get C dX11_aboveIn_8 (k_gX16_0 w) k_fX11_194 (Or.inl rfl) ?_
  refine k_aload_n C dX11_aboveIn_11 0 rfl ?_
  refine k_get C dX11_aboveIn_12 (k_gX0_4 w) k_fX11_40 (Or.inl rfl) ?_
  refine k_get C dX11_aboveIn_15 (k_gX16_1 w) k_fX11_201 (Or.inl rfl) ?_
  refine k_iload_n C dX11_aboveIn_18 1 rfl ?_
  refine k_iload_n C dX11_aboveIn_19 2 rfl ?_
  obtain ⟨v20, h20, h⟩ := k_bd_e h
  refine k_goL (k_runV C dX11_aboveIn_20 (e_X0_aboveIn (d := 5) (Nat.le_refl _) h20) k_lX11_408 k_yX0_aboveIn (k_oX30 w) (by omega) rfl (Nat.le_of_ble_eq_true rfl)) ?_
  exact k_lret C dX11_aboveIn_23 hr (k_p1 h)
def f_X11_weather (x1 : Int32) (x2 : Int32) (x3 : Int32) (σ : k_St) : Option (Int64) :=
  k_bd (f_X11_hasLake σ) fun v1 =>
  k_if (v1 = (0 : Int32))
    (some (-1 : Int64))
    (k_bd (f_X11_within x1 (0 : Int32) (100 : Int32)) fun v11 =>
    k_if (v11 = (0 : Int32))
      (some (-1 : Int64))
      (k_bd (f_X11_within x2 (0 : Int32) (100 : Int32)) fun v21 =>
      k_if (v21 = (0 : Int32))
        (some (-1 : Int64))
        (k_bd (f_X11_isPart x3) fun v28 =>
        k_if (v28 = (0 : Int32))
          (some (-1 : Int64))
          (k_bd (f_X11_aboveIn (1 : Int32) (1 : Int32) σ) fun v46 =>
          k_bd (f_X11_aboveIn (1 : Int32) (0 : Int32) σ) fun v61 =>
          k_bd (f_X11_aboveIn (0 : Int32) (1 : Int32) σ) fun v77 =>
          k_bd (f_X11_aboveIn (0 : Int32) (0 : Int32) σ) fun v96 =>
          k_nm ((((((x1.toInt64 * x2.toInt64) * v46) + ((x1.toInt64 * ((100 : Int32) - x2).toInt64) * v61)) + ((((100 : Int32) - x1).toInt64 * x2.toInt64) * v77)) + ((((100 : Int32) - x1).toInt64 * ((100 : Int32) - x2).toInt64) * v96))) fun y101 =>
          k_bd (f_X11_plain y101 ((1000000 : Int64) * (k_rd σ 12 2).toInt64) x3) fun v118 =>
          some v118))))
set_option maxHeartbeats 4000000 in
set_option maxRecDepth 100000 in
theorem e_X11_weather {l : Launch} {w : k_WC} {d : Nat} (hd : 7 ≤ d) {x1 : Int32} {x2 : Int32} {x3 : Int32}  {σ : k_St} {r : Int64} (h : f_X11_weather x1 x2 x3 σ = some r) : k_EL l (k_PX w) yX11_weather cX11_weather 6 d [.ref (w.2.1 0), .int x1, .int x2, .int x3] σ r σ := by
  refine k_of (own := RX11) rfl (by decide) (Nat.le_of_ble_eq_true rfl) (fun X hX C hr => ?_)
  show k_K (k_PX w) X (k_MQ X (k_Ql (k_PX w) r σ) (k_PX w).2.2.1) 0 [(0, .ref (w.2.1 0)), (1, .int x1), (2, .int x2), (3, .int x3)] [] σ
  unfold f_X11_weather at h
  refine k_aload_n C dX11_weather_0 0 rfl ?_
  obtain ⟨v1, h1, h⟩ := k_bd_e h
  refine k_goI (k_runV C dX11_weather_1 (e_X11_hasLake (d := 2) (Nat.le_refl _) h1) k_lX11_175 k_yX11_hasLake (k_oX0 w) (by omega) rfl (Nat.le_of_ble_eq_true rfl)) ?_
  refine k_if_eq C dX11_weather_4 (tgt := 34) (by decide) (fun c4 => ?_) (fun c4 => ?_)
  · replace h := k_if_t h c4
    refine k_ldc2 C dX11_weather_34 k_cX11_260 ?_
    exact k_lret C dX11_weather_37 hr (k_p1 h)
  · replace h := k_if_f h c4
    refine k_iload_n C dX11_weather_7 1 rfl ?_
    refine k_iconst C dX11_weather_8 (v := 0) rfl ?_
    refine k_bipush C dX11_weather_9 (v := 100) rfl ?_
    obtain ⟨v11, h11, h⟩ := k_bd_e h
    refine k_goI (k_runS C dX11_weather_11 (e_X11_within (d := 2) (Nat.le_refl _) h11) k_lX11_118 k_yX11_within (by omega) rfl (Nat.le_of_ble_eq_true rfl)) ?_
    refine k_if_eq C dX11_weather_14 (tgt := 34) (by decide) (fun c14 => ?_) (fun c14 => ?_)
    · replace h := k_if_t h c14
      refine k_ldc2 C dX11_weather_34 k_cX11_260 ?_
      exact k_lret C dX11_weather_37 hr (k_p1 h)
    · replace h := k_if_f h c14
      refine k_iload_n C dX11_weather_17 2 rfl ?_
      refine k_iconst C dX11_weather_18 (v := 0) rfl ?_
      refine k_bipush C dX11_weather_19 (v := 100) rfl ?_
      obtain ⟨v21, h21, h⟩ := k_bd_e h
      refine k_goI (k_runS C dX11_weather_21 (e_X11_within (d := 2) (Nat.le_refl _) h21) k_lX11_118 k_yX11_within (by omega) rfl (Nat.le_of_ble_eq_true rfl)) ?_
      refine k_if_eq C dX11_weather_24 (tgt := 34) (by decide) (fun c24 => ?_) (fun c24 => ?_)
      · replace h := k_if_t h c24
        refine k_ldc2 C dX11_weather_34 k_cX11_260 ?_
        exact k_lret C dX11_weather_37 hr (k_p1 h)
      · replace h := k_if_f h c24
        refine k_iload_n C dX11_weather_27 3 rfl ?_
        obtain ⟨v28, h28, h⟩ := k_bd_e h
        refine k_goI (k_runS C dX11_weather_28 (e_X11_isPart (d := 3) (Nat.le_refl _) h28) k_lX11_220 k_yX11_isPart (by omega) rfl (Nat.le_of_ble_eq_true rfl)) ?_
        refine k_if_ne C dX11_weather_31 (tgt := 38) (by decide) (fun c31 => ?_) (fun c31 => ?_)
        · replace h := k_if_f h c31
          refine k_iload_n C dX11_weather_38 1 rfl ?_
          refine k_i2l C dX11_weather_39 ?_
          refine k_iload_n C dX11_weather_40 2 rfl ?_
          refine k_i2l C dX11_weather_41 ?_
          refine k_lmul C dX11_weather_42 ?_
          refine k_aload_n C dX11_weather_43 0 rfl ?_
          refine k_iconst C dX11_weather_44 (v := 1) rfl ?_
          refine k_iconst C dX11_weather_45 (v := 1) rfl ?_
          obtain ⟨v46, h46, h⟩ := k_bd_e h
          refine k_goL (k_runV C dX11_weather_46 (e_X11_aboveIn (d := 6) (Nat.le_refl _) h46) k_lX11_403 k_yX11_aboveIn (k_oX0 w) (by omega) rfl (Nat.le_of_ble_eq_true rfl)) ?_
          refine k_lmul C dX11_weather_49 ?_
          refine k_iload_n C dX11_weather_50 1 rfl ?_
          refine k_i2l C dX11_weather_51 ?_
          refine k_bipush C dX11_weather_52 (v := 100) rfl ?_
          refine k_iload_n C dX11_weather_54 2 rfl ?_
          refine k_isub C dX11_weather_55 ?_
          refine k_i2l C dX11_weather_56 ?_
          refine k_lmul C dX11_weather_57 ?_
          refine k_aload_n C dX11_weather_58 0 rfl ?_
          refine k_iconst C dX11_weather_59 (v := 1) rfl ?_
          refine k_iconst C dX11_weather_60 (v := 0) rfl ?_
          obtain ⟨v61, h61, h⟩ := k_bd_e h
          refine k_goL (k_runV C dX11_weather_61 (e_X11_aboveIn (d := 6) (Nat.le_refl _) h61) k_lX11_403 k_yX11_aboveIn (k_oX0 w) (by omega) rfl (Nat.le_of_ble_eq_true rfl)) ?_
          refine k_lmul C dX11_weather_64 ?_
          refine k_ladd C dX11_weather_65 ?_
          refine k_bipush C dX11_weather_66 (v := 100) rfl ?_
          refine k_iload_n C dX11_weather_68 1 rfl ?_
          refine k_isub C dX11_weather_69 ?_
          refine k_i2l C dX11_weather_70 ?_
          refine k_iload_n C dX11_weather_71 2 rfl ?_
          refine k_i2l C dX11_weather_72 ?_
          refine k_lmul C dX11_weather_73 ?_
          refine k_aload_n C dX11_weather_74 0 rfl ?_
          refine k_iconst C dX11_weather_75 (v := 0) rfl ?_
          refine k_iconst C dX11_weather_76 (v := 1) rfl ?_
          obtain ⟨v77, h77, h⟩ := k_bd_e h
          refine k_goL (k_runV C dX11_weather_77 (e_X11_aboveIn (d := 6) (Nat.le_refl _) h77) k_lX11_403 k_yX11_aboveIn (k_oX0 w) (by omega) rfl (Nat.le_of_ble_eq_true rfl)) ?_
          refine k_lmul C dX11_weather_80 ?_
          refine k_ladd C dX11_weather_81 ?_
          refine k_bipush C dX11_weather_82 (v := 100) rfl ?_
          refine k_iload_n C dX11_weather_84 1 rfl ?_
          refine k_isub C dX11_weather_85 ?_
          refine k_i2l C dX11_weather_86 ?_
          refine k_bipush C dX11_weather_87 (v := 100) rfl ?_
          refine k_iload_n C dX11_weather_89 2 rfl ?_
          refine k_isub C dX11_weather_90 ?_
          refine k_i2l C dX11_weather_91 ?_
          refine k_lmul C dX11_weather_92 ?_
          refine k_aload_n C dX11_weather_93 0 rfl ?_
          refine k_iconst C dX11_weather_94 (v := 0) rfl ?_
          refine k_iconst C dX11_weather_95 (v := 0) rfl ?_
          obtain ⟨v96, h96, h⟩ := k_bd_e h
          refine k_goL (k_runV C dX11_weather_96 (e_X11_aboveIn (d := 6) (Nat.le_refl _) h96) k_lX11_403 k_yX11_aboveIn (k_oX0 w) (by omega) rfl (Nat.le_of_ble_eq_true rfl)) ?_
          refine k_lmul C dX11_weather_99 ?_
          refine k_ladd C dX11_weather_100 ?_
          refine k_topl (fun y101 ey101 => ?_)
          replace h := k_nm_e h y101 ey101
          refine k_lstore C dX11_weather_101 (by decide) [1, 2, 3, 4, 0] (L' := [(0, .ref (w.2.1 0)), (1, .int x1), (2, .int x2), (3, .int x3), (4, .long y101)]) rfl ?_
          refine k_lload C dX11_weather_103 4 rfl ?_
          refine k_ldc2 C dX11_weather_105 k_cX11_406 ?_
          refine k_aload_n C dX11_weather_108 0 rfl ?_
          refine k_get C dX11_weather_109 (k_gX0_3 w) k_fX11_33 (Or.inl rfl) ?_
          refine k_get C dX11_weather_112 (k_gX12_2 w) k_fX11_318 (Or.inl rfl) ?_
          refine k_i2l C dX11_weather_115 ?_
          refine k_lmul C dX11_weather_116 ?_
          refine k_iload_n C dX11_weather_117 3 rfl ?_
          obtain ⟨v118, h118, h⟩ := k_bd_e h
          refine k_goL (k_runS C dX11_weather_118 (e_X11_plain (d := 3) (Nat.le_refl _) h118) k_lX11_321 k_yX11_plain (by omega) rfl (Nat.le_of_ble_eq_true rfl)) ?_
          exact k_lret C dX11_weather_121 hr (k_p1 h)
        · replace h := k_if_t h c31
          refine k_ldc2 C dX11_weather_34 k_cX11_260 ?_
          exact k_lret C dX11_weather_37 hr (k_p1 h)
def f_X11_skill (x1 : Int32) (x2 : Int32) (σ : k_St) : Option (Int32 × k_St) :=
  k_bd (f_X11_hasLake σ) fun v1 =>
  k_if (v1 = (0 : Int32))
    (some ((-1000000 : Int32), σ))
    (k_bd (f_X11_within x1 (0 : Int32) (2 : Int32)) fun v10 =>
    k_if (v10 = (0 : Int32))
      (some ((-1000000 : Int32), σ))
      (k_bd (f_X11_isPart x2) fun v17 =>
      k_if (v17 = (0 : Int32))
        (some ((-1000000 : Int32), σ))
        (k_b2 (f_X11_senseAbove (0 : Int32) (0 : Int32) σ) fun v31 s31 =>
        k_jn (fun (t3_45 : Int32) =>
          k_jn (fun (t4_54 : Int32) =>
            k_b2 (f_X11_senseAbove t3_45 t4_54 s31) fun v54 s54 =>
            k_bd (f_X11_plainMean (v31 - v54) x2 s54) fun v59 =>
            some (v59, s54)) fun j54 =>
          k_if (x1 = (0 : Int32))
            (j54 (0 : Int32))
            (j54 (1 : Int32))) fun j45 =>
        k_if (x1 = (1 : Int32))
          (j45 (0 : Int32))
          (j45 (1 : Int32)))))
set_option maxHeartbeats 4000000 in
set_option maxRecDepth 100000 in
theorem e_X11_skill {l : Launch} {w : k_WC} {d : Nat} (hd : 19 ≤ d) {x1 : Int32} {x2 : Int32}  {σ σ' : k_St} {r : Int32} (h : f_X11_skill x1 x2 σ = some (r, σ')) : k_EI l (k_PX w) yX11_skill cX11_skill 3 (some .int) d [.ref (w.2.1 0), .int x1, .int x2] σ r σ' := by
  refine k_of (own := RX11) rfl (by decide) (Nat.le_of_ble_eq_true rfl) (fun X hX C hr => ?_)
  show k_K (k_PX w) X (k_MQ X (k_Qi (k_PX w) r σ') (k_PX w).2.2.1) 0 [(0, .ref (w.2.1 0)), (1, .int x1), (2, .int x2)] [] σ
  unfold f_X11_skill at h
  refine k_aload_n C dX11_skill_0 0 rfl ?_
  obtain ⟨v1, h1, h⟩ := k_bd_e h
  refine k_goI (k_runV C dX11_skill_1 (e_X11_hasLake (d := 2) (Nat.le_refl _) h1) k_lX11_175 k_yX11_hasLake (k_oX0 w) (by omega) rfl (Nat.le_of_ble_eq_true rfl)) ?_
  refine k_if_eq C dX11_skill_4 (tgt := 23) (by decide) (fun c4 => ?_) (fun c4 => ?_)
  · replace h := k_if_t h c4
    refine k_ldcw C dX11_skill_23 k_cX11_411 ?_
    exact k_iret C dX11_skill_26 hr (Option.some.inj h)
  · replace h := k_if_f h c4
    refine k_iload_n C dX11_skill_7 1 rfl ?_
    refine k_iconst C dX11_skill_8 (v := 0) rfl ?_
    refine k_iconst C dX11_skill_9 (v := 2) rfl ?_
    obtain ⟨v10, h10, h⟩ := k_bd_e h
    refine k_goI (k_runS C dX11_skill_10 (e_X11_within (d := 2) (Nat.le_refl _) h10) k_lX11_118 k_yX11_within (by omega) rfl (Nat.le_of_ble_eq_true rfl)) ?_
    refine k_if_eq C dX11_skill_13 (tgt := 23) (by decide) (fun c13 => ?_) (fun c13 => ?_)
    · replace h := k_if_t h c13
      refine k_ldcw C dX11_skill_23 k_cX11_411 ?_
      exact k_iret C dX11_skill_26 hr (Option.some.inj h)
    · replace h := k_if_f h c13
      refine k_iload_n C dX11_skill_16 2 rfl ?_
      obtain ⟨v17, h17, h⟩ := k_bd_e h
      refine k_goI (k_runS C dX11_skill_17 (e_X11_isPart (d := 3) (Nat.le_refl _) h17) k_lX11_220 k_yX11_isPart (by omega) rfl (Nat.le_of_ble_eq_true rfl)) ?_
      refine k_if_ne C dX11_skill_20 (tgt := 27) (by decide) (fun c20 => ?_) (fun c20 => ?_)
      · replace h := k_if_f h c20
        refine k_aload_n C dX11_skill_27 0 rfl ?_
        refine k_aload_n C dX11_skill_28 0 rfl ?_
        refine k_iconst C dX11_skill_29 (v := 0) rfl ?_
        refine k_iconst C dX11_skill_30 (v := 0) rfl ?_
        obtain ⟨v31, s31, h31, h⟩ := k_b2_e h
        refine k_goL (k_runV C dX11_skill_31 (e_X11_senseAbove (d := 18) (Nat.le_refl _) h31) k_lX11_241 k_yX11_senseAbove (k_oX0 w) (by omega) rfl (Nat.le_of_ble_eq_true rfl)) ?_
        refine k_aload_n C dX11_skill_34 0 rfl ?_
        refine k_iload_n C dX11_skill_35 1 rfl ?_
        refine k_iconst C dX11_skill_36 (v := 1) rfl ?_
        obtain ⟨j45, ej45, h⟩ := k_jn_e h
        have Jj45 : ∀ (t3_45 : Int32), j45 t3_45 = some (r, σ') → k_K (k_PX w) X (k_MQ X (k_Qi (k_PX w) r σ') (k_PX w).2.2.1) 45 [(1, .int x1), (2, .int x2)] [.int t3_45, .ref (w.2.1 0), .long v31, .ref (w.2.1 0)] s31 := by
          intro t3_45 h
          rw [ej45] at h
          refine k_iload_n C dX11_skill_45 0 rfl ?_
          obtain ⟨j54, ej54, h⟩ := k_jn_e h
          have Jj54 : ∀ (t4_54 : Int32), j54 t4_54 = some (r, σ') → k_K (k_PX w) X (k_MQ X (k_Qi (k_PX w) r σ') (k_PX w).2.2.1) 54 [(2, .int x2)] [.int t4_54, .int t3_45, .ref (w.2.1 0), .long v31, .ref (w.2.1 0)] s31 := by
            intro t4_54 h
            rw [ej54] at h
            obtain ⟨v54, s54, h54, h⟩ := k_b2_e h
            refine k_goL (k_runV C dX11_skill_54 (e_X11_senseAbove (d := 18) (Nat.le_refl _) h54) k_lX11_241 k_yX11_senseAbove (k_oX0 w) (by omega) rfl (Nat.le_of_ble_eq_true rfl)) ?_
            refine k_lsub C dX11_skill_57 ?_
            refine k_iload_n C dX11_skill_58 0 rfl ?_
            obtain ⟨v59, h59, h⟩ := k_bd_e h
            refine k_goI (k_runV C dX11_skill_59 (e_X11_plainMean (d := 4) (Nat.le_refl _) h59) k_lX11_227 k_yX11_plainMean (k_oX0 w) (by omega) rfl (Nat.le_of_ble_eq_true rfl)) ?_
            exact k_iret C dX11_skill_62 hr (Option.some.inj h)
          refine k_if_eq C dX11_skill_46 (tgt := 53) (by decide) (fun c46 => ?_) (fun c46 => ?_)
          · replace h := k_if_t h c46
            refine k_iconst C dX11_skill_53 (v := 0) rfl ?_
            refine k_sub (L' := [(2, .int x2)]) [1] rfl ?_
            exact Jj54 _ h
          · replace h := k_if_f h c46
            refine k_iconst C dX11_skill_49 (v := 1) rfl ?_
            refine k_goto C dX11_skill_50 (tgt := 54) (by decide) ?_
            refine k_sub (L' := [(2, .int x2)]) [1] rfl ?_
            exact Jj54 _ h
        refine k_icmp_eq C dX11_skill_37 (tgt := 44) (by decide) (fun c37 => ?_) (fun c37 => ?_)
        · replace h := k_if_t h c37
          refine k_iconst C dX11_skill_44 (v := 0) rfl ?_
          refine k_sub (L' := [(1, .int x1), (2, .int x2)]) [1, 2] rfl ?_
          exact Jj45 _ h
        · replace h := k_if_f h c37
          refine k_iconst C dX11_skill_40 (v := 1) rfl ?_
          refine k_goto C dX11_skill_41 (tgt := 45) (by decide) ?_
          refine k_sub (L' := [(1, .int x1), (2, .int x2)]) [1, 2] rfl ?_
          exact Jj45 _ h
      · replace h := k_if_t h c20
        refine k_ldcw C dX11_skill_23 k_cX11_411 ?_
        exact k_iret C dX11_skill_26 hr (Option.some.inj h)
def f_X11_cases (x1 : Int32) (σ : k_St) : Option (Int32) :=
  k_bd (f_X11_hasLake σ) fun v1 =>
  k_if (v1 = (0 : Int32))
    (some (-1 : Int32))
    (k_bd (f_X11_within x1 (0 : Int32) (1 : Int32)) fun v10 =>
    k_if (v10 = (0 : Int32))
      (some (-1 : Int32))
      (k_loop (fun (g22 : Int32 × Int32 → Option (Int32)) (z22 : Int32 × Int32) => match z22 with
        | (v2_22, v3_22) =>
          k_if ((k_rd σ 12 0) ≤ v3_22)
            (some v2_22)
            (k_bd (f_X1_heard v3_22 (k_rd σ 16 4) σ) fun v52 =>
            k_bd (f_X11_signOf (k_rd σ 16 0) v52) fun v55 =>
            k_bd (f_X0_hit v3_22 v55 (k_rl σ 16 1) (k_rd σ 16 3) σ) fun v81 =>
            k_jn (fun (t0_113 : Int32) =>
              k_if (t0_113 = (0 : Int32))
                (k_nm (v3_22 + (1 : Int32)) fun y138 =>
                g22 (v2_22, y138))
                (k_bd (f_X1_told v3_22 (0 : Int32) σ) fun v126 =>
                k_if (v126 ≤ (0 : Int32))
                  (k_nm (v3_22 + (1 : Int32)) fun y138 =>
                  g22 (v2_22, y138))
                  (k_nm ((v2_22 ||| (o_shl (1 : Int32) v3_22))) fun y137 =>
                  k_nm (v3_22 + (1 : Int32)) fun y138 =>
                  g22 (y137, y138)))) fun j113 =>
            k_if (x1 = (0 : Int32))
              (k_if (v81 = (100 : Int32))
                (j113 (1 : Int32))
                (j113 (0 : Int32)))
              (k_bd (f_X11_within v81 (1 : Int32) (99 : Int32)) fun v110 =>
              j113 v110))) 100000 ((0 : Int32), (0 : Int32))))
set_option maxHeartbeats 4000000 in
set_option maxRecDepth 100000 in
theorem e_X11_cases {l : Launch} {w : k_WC} {d : Nat} (hd : 5 ≤ d) {x1 : Int32}  {σ : k_St} {r : Int32} (h : f_X11_cases x1 σ = some r) : k_EI l (k_PX w) yX11_cases cX11_cases 7 (some .int) d [.ref (w.2.1 0), .int x1] σ r σ := by
  refine k_of (own := RX11) rfl (by decide) (Nat.le_of_ble_eq_true rfl) (fun X hX C hr => ?_)
  show k_K (k_PX w) X (k_MQ X (k_Qi (k_PX w) r σ) (k_PX w).2.2.1) 0 [(0, .ref (w.2.1 0)), (1, .int x1)] [] σ
  unfold f_X11_cases at h
  refine k_aload_n C dX11_cases_0 0 rfl ?_
  obtain ⟨v1, h1, h⟩ := k_bd_e h
  refine k_goI (k_runV C dX11_cases_1 (e_X11_hasLake (d := 2) (Nat.le_refl _) h1) k_lX11_175 k_yX11_hasLake (k_oX0 w) (by omega) rfl (Nat.le_of_ble_eq_true rfl)) ?_
  refine k_if_eq C dX11_cases_4 (tgt := 16) (by decide) (fun c4 => ?_) (fun c4 => ?_)
  · replace h := k_if_t h c4
    refine k_iconst C dX11_cases_16 (v := -1) rfl ?_
    exact k_iret C dX11_cases_17 hr (k_p1 h)
  · replace h := k_if_f h c4
    refine k_iload_n C dX11_cases_7 1 rfl ?_
    refine k_iconst C dX11_cases_8 (v := 0) rfl ?_
    refine k_iconst C dX11_cases_9 (v := 1) rfl ?_
    obtain ⟨v10, h10, h⟩ := k_bd_e h
    refine k_goI (k_runS C dX11_cases_10 (e_X11_within (d := 2) (Nat.le_refl _) h10) k_lX11_118 k_yX11_within (by omega) rfl (Nat.le_of_ble_eq_true rfl)) ?_
    refine k_if_ne C dX11_cases_13 (tgt := 18) (by decide) (fun c13 => ?_) (fun c13 => ?_)
    · replace h := k_if_f h c13
      refine k_iconst C dX11_cases_18 (v := 0) rfl ?_
      refine k_istore_n C dX11_cases_19 (by decide) [1, 2, 0] (L' := [(0, .ref (w.2.1 0)), (1, .int x1), (2, .int (0 : Int32))]) rfl ?_
      refine k_iconst C dX11_cases_20 (v := 0) rfl ?_
      refine k_istore_n C dX11_cases_21 (by decide) [1, 2, 3, 0] (L' := [(0, .ref (w.2.1 0)), (1, .int x1), (2, .int (0 : Int32)), (3, .int (0 : Int32))]) rfl ?_
      obtain ⟨b22, eb22, h⟩ := k_lp_e h
      have K22 : ∀ (n : Nat) (v2_22 : Int32) (v3_22 : Int32), k_loop b22 n (v2_22, v3_22) = some r → k_K (k_PX w) X (k_MQ X (k_Qi (k_PX w) r σ) (k_PX w).2.2.1) 22 [(0, .ref (w.2.1 0)), (1, .int x1), (2, .int v2_22), (3, .int v3_22)] [] σ := by
        intro n
        induction n with
        | zero => intro v2_22 v3_22 h; cases h
        | succ n ih22 =>
          intro v2_22 v3_22 h
          obtain ⟨g22, eg22, h⟩ := k_lp_s h
          rw [← eg22] at ih22
          rw [eb22] at h
          refine k_iload_n C dX11_cases_22 3 rfl ?_
          refine k_aload_n C dX11_cases_23 0 rfl ?_
          refine k_get C dX11_cases_24 (k_gX0_3 w) k_fX11_33 (Or.inl rfl) ?_
          refine k_get C dX11_cases_27 (k_gX12_0 w) k_fX11_138 (Or.inl rfl) ?_
          refine k_icmp_ge C dX11_cases_30 (tgt := 144) (by decide) (fun c30 => ?_) (fun c30 => ?_)
          · replace h := k_if_t h c30
            refine k_iload_n C dX11_cases_144 2 rfl ?_
            exact k_iret C dX11_cases_145 hr (k_p1 h)
          · replace h := k_if_f h c30
            refine k_aload_n C dX11_cases_33 0 rfl ?_
            refine k_get C dX11_cases_34 (k_gX0_4 w) k_fX11_40 (Or.inl rfl) ?_
            refine k_get C dX11_cases_37 (k_gX16_0 w) k_fX11_194 (Or.inl rfl) ?_
            refine k_aload_n C dX11_cases_40 0 rfl ?_
            refine k_get C dX11_cases_41 (k_gX0_3 w) k_fX11_33 (Or.inl rfl) ?_
            refine k_iload_n C dX11_cases_44 3 rfl ?_
            refine k_aload_n C dX11_cases_45 0 rfl ?_
            refine k_get C dX11_cases_46 (k_gX0_4 w) k_fX11_40 (Or.inl rfl) ?_
            refine k_get C dX11_cases_49 (k_gX16_4 w) k_fX11_185 (Or.inl rfl) ?_
            obtain ⟨v52, h52, h⟩ := k_bd_e h
            refine k_goI (k_runV C dX11_cases_52 (e_X1_heard (d := 3) (Nat.le_refl _) h52) k_lX11_335 k_yX1_heard (k_oX12 w) (by omega) rfl (Nat.le_of_ble_eq_true rfl)) ?_
            obtain ⟨v55, h55, h⟩ := k_bd_e h
            refine k_goI (k_runS C dX11_cases_55 (e_X11_signOf (d := 2) (Nat.le_refl _) h55) k_lX11_339 k_yX11_signOf (by omega) rfl (Nat.le_of_ble_eq_true rfl)) ?_
            refine k_istore C dX11_cases_58 (by decide) [1, 2, 3, 4, 0] (L' := [(0, .ref (w.2.1 0)), (1, .int x1), (2, .int v2_22), (3, .int v3_22), (4, .int v55)]) rfl ?_
            refine k_aload_n C dX11_cases_60 0 rfl ?_
            refine k_get C dX11_cases_61 (k_gX0_6 w) k_fX11_52 (Or.inl rfl) ?_
            refine k_iload_n C dX11_cases_64 3 rfl ?_
            refine k_iload C dX11_cases_65 4 rfl ?_
            refine k_aload_n C dX11_cases_67 0 rfl ?_
            refine k_get C dX11_cases_68 (k_gX0_4 w) k_fX11_40 (Or.inl rfl) ?_
            refine k_get C dX11_cases_71 (k_gX16_1 w) k_fX11_201 (Or.inl rfl) ?_
            refine k_aload_n C dX11_cases_74 0 rfl ?_
            refine k_get C dX11_cases_75 (k_gX0_4 w) k_fX11_40 (Or.inl rfl) ?_
            refine k_get C dX11_cases_78 (k_gX16_3 w) k_fX11_182 (Or.inl rfl) ?_
            obtain ⟨v81, h81, h⟩ := k_bd_e h
            refine k_goI (k_runV C dX11_cases_81 (e_X0_hit (d := 4) (Nat.le_refl _) h81) k_lX11_412 k_yX0_hit (k_oX30 w) (by omega) rfl (Nat.le_of_ble_eq_true rfl)) ?_
            refine k_istore C dX11_cases_84 (by decide) [1, 2, 3, 4, 5, 0] (L' := [(0, .ref (w.2.1 0)), (1, .int x1), (2, .int v2_22), (3, .int v3_22), (4, .int v55), (5, .int v81)]) rfl ?_
            refine k_iload_n C dX11_cases_86 1 rfl ?_
            obtain ⟨j113, ej113, h⟩ := k_jn_e h
            have Jj113 : ∀ (t0_113 : Int32), j113 t0_113 = some r → k_K (k_PX w) X (k_MQ X (k_Qi (k_PX w) r σ) (k_PX w).2.2.1) 113 [(0, .ref (w.2.1 0)), (1, .int x1), (2, .int v2_22), (3, .int v3_22)] [.int t0_113] σ := by
              intro t0_113 h
              rw [ej113] at h
              refine k_istore C dX11_cases_113 (by decide) [1, 2, 3, 4, 0] (L' := [(0, .ref (w.2.1 0)), (1, .int x1), (2, .int v2_22), (3, .int v3_22), (6, .int t0_113)]) rfl ?_
              refine k_iload C dX11_cases_115 4 rfl ?_
              refine k_if_eq C dX11_cases_117 (tgt := 138) (by decide) (fun c117 => ?_) (fun c117 => ?_)
              · replace h := k_if_t h c117
                refine k_iinc C dX11_cases_138 3 rfl (v := 1) rfl (by decide) [1, 2, 3, 0, 4] (L' := fun z9 => [(0, .ref (w.2.1 0)), (1, .int x1), (2, .int v2_22), (3, .int z9), (6, .int t0_113)]) (fun z9 => rfl) (fun y138 ey138 => ?_)
                replace h := k_nm_e h y138 ey138
                refine k_goto C dX11_cases_141 (tgt := 22) (by decide) ?_
                refine k_sub (L' := [(0, .ref (w.2.1 0)), (1, .int x1), (2, .int v2_22), (3, .int y138)]) [0, 1, 2, 3] rfl ?_
                exact ih22 _ _ h
              · replace h := k_if_f h c117
                refine k_aload_n C dX11_cases_120 0 rfl ?_
                refine k_get C dX11_cases_121 (k_gX0_3 w) k_fX11_33 (Or.inl rfl) ?_
                refine k_iload_n C dX11_cases_124 3 rfl ?_
                refine k_iconst C dX11_cases_125 (v := 0) rfl ?_
                obtain ⟨v126, h126, h⟩ := k_bd_e h
                refine k_goI (k_runV C dX11_cases_126 (e_X1_told (d := 2) (Nat.le_refl _) h126) k_lX11_168 k_yX1_told (k_oX12 w) (by omega) rfl (Nat.le_of_ble_eq_true rfl)) ?_
                refine k_if_le C dX11_cases_129 (tgt := 138) (by decide) (fun c129 => ?_) (fun c129 => ?_)
                · replace h := k_if_t h c129
                  refine k_iinc C dX11_cases_138 3 rfl (v := 1) rfl (by decide) [1, 2, 3, 0, 4] (L' := fun z9 => [(0, .ref (w.2.1 0)), (1, .int x1), (2, .int v2_22), (3, .int z9), (6, .int t0_113)]) (fun z9 => rfl) (fun y138 ey138 => ?_)
                  replace h := k_nm_e h y138 ey138
                  refine k_goto C dX11_cases_141 (tgt := 22) (by decide) ?_
                  refine k_sub (L' := [(0, .ref (w.2.1 0)), (1, .int x1), (2, .int v2_22), (3, .int y138)]) [0, 1, 2, 3] rfl ?_
                  exact ih22 _ _ h
                · replace h := k_if_f h c129
                  refine k_iload_n C dX11_cases_132 2 rfl ?_
                  refine k_iconst C dX11_cases_133 (v := 1) rfl ?_
                  refine k_iload_n C dX11_cases_134 3 rfl ?_
                  refine k_ishl C dX11_cases_135 ?_
                  refine k_ior C dX11_cases_136 ?_
                  refine k_topi (fun y137 ey137 => ?_)
                  replace h := k_nm_e h y137 ey137
                  refine k_istore_n C dX11_cases_137 (by decide) [1, 2, 0, 3, 4] (L' := [(0, .ref (w.2.1 0)), (1, .int x1), (2, .int y137), (3, .int v3_22), (6, .int t0_113)]) rfl ?_
                  refine k_iinc C dX11_cases_138 3 rfl (v := 1) rfl (by decide) [1, 2, 3, 0, 4] (L' := fun z9 => [(0, .ref (w.2.1 0)), (1, .int x1), (2, .int y137), (3, .int z9), (6, .int t0_113)]) (fun z9 => rfl) (fun y138 ey138 => ?_)
                  replace h := k_nm_e h y138 ey138
                  refine k_goto C dX11_cases_141 (tgt := 22) (by decide) ?_
                  refine k_sub (L' := [(0, .ref (w.2.1 0)), (1, .int x1), (2, .int y137), (3, .int y138)]) [0, 1, 2, 3] rfl ?_
                  exact ih22 _ _ h
            refine k_if_ne C dX11_cases_87 (tgt := 105) (by decide) (fun c87 => ?_) (fun c87 => ?_)
            · replace h := k_if_f h c87
              refine k_iload C dX11_cases_105 5 rfl ?_
              refine k_iconst C dX11_cases_107 (v := 1) rfl ?_
              refine k_bipush C dX11_cases_108 (v := 99) rfl ?_
              obtain ⟨v110, h110, h⟩ := k_bd_e h
              refine k_goI (k_runS C dX11_cases_110 (e_X11_within (d := 2) (Nat.le_refl _) h110) k_lX11_118 k_yX11_within (by omega) rfl (Nat.le_of_ble_eq_true rfl)) ?_
              refine k_sub (L' := [(0, .ref (w.2.1 0)), (1, .int x1), (2, .int v2_22), (3, .int v3_22)]) [0, 1, 2, 3] rfl ?_
              exact Jj113 _ h
            · replace h := k_if_t h c87
              refine k_iload C dX11_cases_90 5 rfl ?_
              refine k_bipush C dX11_cases_92 (v := 100) rfl ?_
              refine k_icmp_ne C dX11_cases_94 (tgt := 101) (by decide) (fun c94 => ?_) (fun c94 => ?_)
              · replace h := k_if_f h c94
                refine k_iconst C dX11_cases_101 (v := 0) rfl ?_
                refine k_goto C dX11_cases_102 (tgt := 113) (by decide) ?_
                refine k_sub (L' := [(0, .ref (w.2.1 0)), (1, .int x1), (2, .int v2_22), (3, .int v3_22)]) [0, 1, 2, 3] rfl ?_
                exact Jj113 _ h
              · replace h := k_if_t h c94
                refine k_iconst C dX11_cases_97 (v := 1) rfl ?_
                refine k_goto C dX11_cases_98 (tgt := 113) (by decide) ?_
                refine k_sub (L' := [(0, .ref (w.2.1 0)), (1, .int x1), (2, .int v2_22), (3, .int v3_22)]) [0, 1, 2, 3] rfl ?_
                exact Jj113 _ h
      exact K22 _ _ _ h
    · replace h := k_if_t h c13
      refine k_iconst C dX11_cases_16 (v := -1) rfl ?_
      exact k_iret C dX11_cases_17 hr (k_p1 h)
def f_X11_placesLike (x1 : Int32) (x2 : Int32) (σ : k_St) : Option (Int32) :=
  k_loop (fun (g5 : Int32 × Int32 → Option (Int32)) (z5 : Int32 × Int32) => match z5 with
    | (v3_5, v4_5) =>
      k_if ((k_rd σ 12 0) ≤ v4_5)
        (some v3_5)
        (k_bd (f_X1_heard v4_5 (k_rd σ 16 4) σ) fun v30 =>
        k_jn (fun (t0_62 : Int32) =>
          k_if (t0_62 = (0 : Int32))
            (k_nm (v4_5 + (1 : Int32)) fun y85 =>
            g5 (v3_5, y85))
            (k_bd (f_X1_told v4_5 (0 : Int32) σ) fun v76 =>
            k_if (v76 ≤ (0 : Int32))
              (k_nm (v4_5 + (1 : Int32)) fun y85 =>
              g5 (v3_5, y85))
              (k_nm (v3_5 + (1 : Int32)) fun y82 =>
              k_nm (v4_5 + (1 : Int32)) fun y85 =>
              g5 (y82, y85)))) fun j62 =>
        k_jn (fun (_ : Unit) =>
          j62 (0 : Int32)) fun j61 =>
        k_if (v30 = x1)
          (k_bd (f_X1_seen v4_5 (k_rd σ 16 3) σ) fun v50 =>
          k_if (v50 = x2)
            (j62 (1 : Int32))
            (j61 ()))
          (j61 ()))) 100000 ((0 : Int32), (0 : Int32))
set_option maxHeartbeats 4000000 in
set_option maxRecDepth 100000 in
theorem e_X11_placesLike {l : Launch} {w : k_WC} {d : Nat} (hd : 4 ≤ d) {x1 : Int32} {x2 : Int32}  {σ : k_St} {r : Int32} (h : f_X11_placesLike x1 x2 σ = some r) : k_EI l (k_PX w) yX11_placesLike cX11_placesLike 6 (some .int) d [.ref (w.2.1 0), .int x1, .int x2] σ r σ := by
  refine k_of (own := RX11) rfl (by decide) (Nat.le_of_ble_eq_true rfl) (fun X hX C hr => ?_)
  show k_K (k_PX w) X (k_MQ X (k_Qi (k_PX w) r σ) (k_PX w).2.2.1) 0 [(0, .ref (w.2.1 0)), (1, .int x1), (2, .int x2)] [] σ
  unfold f_X11_placesLike at h
  refine k_iconst C dX11_placesLike_0 (v := 0) rfl ?_
  refine k_istore_n C dX11_placesLike_1 (by decide) [1, 2, 3, 0] (L' := [(0, .ref (w.2.1 0)), (1, .int x1), (2, .int x2), (3, .int (0 : Int32))]) rfl ?_
  refine k_iconst C dX11_placesLike_2 (v := 0) rfl ?_
  refine k_istore C dX11_placesLike_3 (by decide) [1, 2, 3, 4, 0] (L' := [(0, .ref (w.2.1 0)), (1, .int x1), (2, .int x2), (3, .int (0 : Int32)), (4, .int (0 : Int32))]) rfl ?_
  obtain ⟨b5, eb5, h⟩ := k_lp_e h
  have K5 : ∀ (n : Nat) (v3_5 : Int32) (v4_5 : Int32), k_loop b5 n (v3_5, v4_5) = some r → k_K (k_PX w) X (k_MQ X (k_Qi (k_PX w) r σ) (k_PX w).2.2.1) 5 [(0, .ref (w.2.1 0)), (1, .int x1), (2, .int x2), (3, .int v3_5), (4, .int v4_5)] [] σ := by
    intro n
    induction n with
    | zero => intro v3_5 v4_5 h; cases h
    | succ n ih5 =>
      intro v3_5 v4_5 h
      obtain ⟨g5, eg5, h⟩ := k_lp_s h
      rw [← eg5] at ih5
      rw [eb5] at h
      refine k_iload C dX11_placesLike_5 4 rfl ?_
      refine k_aload_n C dX11_placesLike_7 0 rfl ?_
      refine k_get C dX11_placesLike_8 (k_gX0_3 w) k_fX11_33 (Or.inl rfl) ?_
      refine k_get C dX11_placesLike_11 (k_gX12_0 w) k_fX11_138 (Or.inl rfl) ?_
      refine k_icmp_ge C dX11_placesLike_14 (tgt := 91) (by decide) (fun c14 => ?_) (fun c14 => ?_)
      · replace h := k_if_t h c14
        refine k_iload_n C dX11_placesLike_91 3 rfl ?_
        exact k_iret C dX11_placesLike_92 hr (k_p1 h)
      · replace h := k_if_f h c14
        refine k_aload_n C dX11_placesLike_17 0 rfl ?_
        refine k_get C dX11_placesLike_18 (k_gX0_3 w) k_fX11_33 (Or.inl rfl) ?_
        refine k_iload C dX11_placesLike_21 4 rfl ?_
        refine k_aload_n C dX11_placesLike_23 0 rfl ?_
        refine k_get C dX11_placesLike_24 (k_gX0_4 w) k_fX11_40 (Or.inl rfl) ?_
        refine k_get C dX11_placesLike_27 (k_gX16_4 w) k_fX11_185 (Or.inl rfl) ?_
        obtain ⟨v30, h30, h⟩ := k_bd_e h
        refine k_goI (k_runV C dX11_placesLike_30 (e_X1_heard (d := 3) (Nat.le_refl _) h30) k_lX11_335 k_yX1_heard (k_oX12 w) (by omega) rfl (Nat.le_of_ble_eq_true rfl)) ?_
        refine k_iload_n C dX11_placesLike_33 1 rfl ?_
        obtain ⟨j62, ej62, h⟩ := k_jn_e h
        have Jj62 : ∀ (t0_62 : Int32), j62 t0_62 = some r → k_K (k_PX w) X (k_MQ X (k_Qi (k_PX w) r σ) (k_PX w).2.2.1) 62 [(0, .ref (w.2.1 0)), (1, .int x1), (2, .int x2), (3, .int v3_5), (4, .int v4_5)] [.int t0_62] σ := by
          intro t0_62 h
          rw [ej62] at h
          refine k_istore C dX11_placesLike_62 (by decide) [1, 2, 3, 4, 5, 0] (L' := [(0, .ref (w.2.1 0)), (1, .int x1), (2, .int x2), (3, .int v3_5), (4, .int v4_5), (5, .int t0_62)]) rfl ?_
          refine k_iload C dX11_placesLike_64 5 rfl ?_
          refine k_if_eq C dX11_placesLike_66 (tgt := 85) (by decide) (fun c66 => ?_) (fun c66 => ?_)
          · replace h := k_if_t h c66
            refine k_iinc C dX11_placesLike_85 4 rfl (v := 1) rfl (by decide) [1, 2, 3, 4, 0, 5] (L' := fun z9 => [(0, .ref (w.2.1 0)), (1, .int x1), (2, .int x2), (3, .int v3_5), (4, .int z9), (5, .int t0_62)]) (fun z9 => rfl) (fun y85 ey85 => ?_)
            replace h := k_nm_e h y85 ey85
            refine k_goto C dX11_placesLike_88 (tgt := 5) (by decide) ?_
            refine k_sub (L' := [(0, .ref (w.2.1 0)), (1, .int x1), (2, .int x2), (3, .int v3_5), (4, .int y85)]) [0, 1, 2, 3, 4] rfl ?_
            exact ih5 _ _ h
          · replace h := k_if_f h c66
            refine k_aload_n C dX11_placesLike_69 0 rfl ?_
            refine k_get C dX11_placesLike_70 (k_gX0_3 w) k_fX11_33 (Or.inl rfl) ?_
            refine k_iload C dX11_placesLike_73 4 rfl ?_
            refine k_iconst C dX11_placesLike_75 (v := 0) rfl ?_
            obtain ⟨v76, h76, h⟩ := k_bd_e h
            refine k_goI (k_runV C dX11_placesLike_76 (e_X1_told (d := 2) (Nat.le_refl _) h76) k_lX11_168 k_yX1_told (k_oX12 w) (by omega) rfl (Nat.le_of_ble_eq_true rfl)) ?_
            refine k_if_le C dX11_placesLike_79 (tgt := 85) (by decide) (fun c79 => ?_) (fun c79 => ?_)
            · replace h := k_if_t h c79
              refine k_iinc C dX11_placesLike_85 4 rfl (v := 1) rfl (by decide) [1, 2, 3, 4, 0, 5] (L' := fun z9 => [(0, .ref (w.2.1 0)), (1, .int x1), (2, .int x2), (3, .int v3_5), (4, .int z9), (5, .int t0_62)]) (fun z9 => rfl) (fun y85 ey85 => ?_)
              replace h := k_nm_e h y85 ey85
              refine k_goto C dX11_placesLike_88 (tgt := 5) (by decide) ?_
              refine k_sub (L' := [(0, .ref (w.2.1 0)), (1, .int x1), (2, .int x2), (3, .int v3_5), (4, .int y85)]) [0, 1, 2, 3, 4] rfl ?_
              exact ih5 _ _ h
            · replace h := k_if_f h c79
              refine k_iinc C dX11_placesLike_82 3 rfl (v := 1) rfl (by decide) [1, 2, 3, 0, 4, 5] (L' := fun z9 => [(0, .ref (w.2.1 0)), (1, .int x1), (2, .int x2), (3, .int z9), (4, .int v4_5), (5, .int t0_62)]) (fun z9 => rfl) (fun y82 ey82 => ?_)
              replace h := k_nm_e h y82 ey82
              refine k_iinc C dX11_placesLike_85 4 rfl (v := 1) rfl (by decide) [1, 2, 3, 4, 0, 5] (L' := fun z9 => [(0, .ref (w.2.1 0)), (1, .int x1), (2, .int x2), (3, .int y82), (4, .int z9), (5, .int t0_62)]) (fun z9 => rfl) (fun y85 ey85 => ?_)
              replace h := k_nm_e h y85 ey85
              refine k_goto C dX11_placesLike_88 (tgt := 5) (by decide) ?_
              refine k_sub (L' := [(0, .ref (w.2.1 0)), (1, .int x1), (2, .int x2), (3, .int y82), (4, .int y85)]) [0, 1, 2, 3, 4] rfl ?_
              exact ih5 _ _ h
        obtain ⟨j61, ej61, h⟩ := k_jn_e h
        have Jj61 : j61 () = some r → k_K (k_PX w) X (k_MQ X (k_Qi (k_PX w) r σ) (k_PX w).2.2.1) 61 [(0, .ref (w.2.1 0)), (1, .int x1), (2, .int x2), (3, .int v3_5), (4, .int v4_5)] [] σ := by
          intro  h
          rw [ej61] at h
          refine k_iconst C dX11_placesLike_61 (v := 0) rfl ?_
          exact Jj62 _ h
        refine k_icmp_ne C dX11_placesLike_34 (tgt := 61) (by decide) (fun c34 => ?_) (fun c34 => ?_)
        · replace h := k_if_f h c34
          exact Jj61 h
        · replace h := k_if_t h c34
          refine k_aload_n C dX11_placesLike_37 0 rfl ?_
          refine k_get C dX11_placesLike_38 (k_gX0_3 w) k_fX11_33 (Or.inl rfl) ?_
          refine k_iload C dX11_placesLike_41 4 rfl ?_
          refine k_aload_n C dX11_placesLike_43 0 rfl ?_
          refine k_get C dX11_placesLike_44 (k_gX0_4 w) k_fX11_40 (Or.inl rfl) ?_
          refine k_get C dX11_placesLike_47 (k_gX16_3 w) k_fX11_182 (Or.inl rfl) ?_
          obtain ⟨v50, h50, h⟩ := k_bd_e h
          refine k_goI (k_runV C dX11_placesLike_50 (e_X1_seen (d := 3) (Nat.le_refl _) h50) k_lX11_342 k_yX1_seen (k_oX12 w) (by omega) rfl (Nat.le_of_ble_eq_true rfl)) ?_
          refine k_iload_n C dX11_placesLike_53 2 rfl ?_
          refine k_icmp_ne C dX11_placesLike_54 (tgt := 61) (by decide) (fun c54 => ?_) (fun c54 => ?_)
          · replace h := k_if_f h c54
            exact Jj61 h
          · replace h := k_if_t h c54
            refine k_iconst C dX11_placesLike_57 (v := 1) rfl ?_
            refine k_goto C dX11_placesLike_58 (tgt := 62) (by decide) ?_
            exact Jj62 _ h
  exact K5 _ _ _ h
def f_X11_mixed (x1 : Int32) (σ : k_St) : Option (Int32 × k_St) :=
  k_bd (f_X11_hasLake σ) fun v1 =>
  k_if (v1 = (0 : Int32))
    (some ((-1 : Int32), σ))
    (k_bd (f_X7_start x1 σ) fun s14 =>
    k_loop (fun (g19 : Int32 × k_St → Option (Int32 × k_St)) (z19 : Int32 × k_St) => match z19 with
      | (v2_19, s_19) =>
        k_if ((4 : Int32) ≤ v2_19)
          (k_bd (f_X7_told s_19) fun v70 =>
          some (v70, s_19))
          (k_loop (fun (g26 : Int32 × k_St → Option (Int32 × k_St)) (z26 : Int32 × k_St) => match z26 with
            | (v3_26, s_26) =>
              k_if ((4 : Int32) ≤ v3_26)
                (k_nm (v2_19 + (1 : Int32)) fun y60 =>
                g19 (y60, s_26))
                (k_bd (f_X11_placesLike v2_19 v3_26 s_26) fun v34 =>
                k_if (v34 ≤ (1 : Int32))
                  (k_nm (v3_26 + (1 : Int32)) fun y54 =>
                  g26 (y54, s_26))
                  (k_bd (f_X7_add (((10 : Int32) * v2_19) + v3_26) s_26) fun s51 =>
                  k_nm (v3_26 + (1 : Int32)) fun y54 =>
                  g26 (y54, s51)))) 100000 ((0 : Int32), s_19))) 100000 ((0 : Int32), s14))
set_option maxHeartbeats 4000000 in
set_option maxRecDepth 100000 in
theorem e_X11_mixed {l : Launch} {w : k_WC} {d : Nat} (hd : 5 ≤ d) {x1 : Int32}  {σ σ' : k_St} {r : Int32} (h : f_X11_mixed x1 σ = some (r, σ')) : k_EI l (k_PX w) yX11_mixed cX11_mixed 4 (some .int) d [.ref (w.2.1 0), .int x1] σ r σ' := by
  refine k_of (own := RX11) rfl (by decide) (Nat.le_of_ble_eq_true rfl) (fun X hX C hr => ?_)
  show k_K (k_PX w) X (k_MQ X (k_Qi (k_PX w) r σ') (k_PX w).2.2.1) 0 [(0, .ref (w.2.1 0)), (1, .int x1)] [] σ
  unfold f_X11_mixed at h
  refine k_aload_n C dX11_mixed_0 0 rfl ?_
  obtain ⟨v1, h1, h⟩ := k_bd_e h
  refine k_goI (k_runV C dX11_mixed_1 (e_X11_hasLake (d := 2) (Nat.le_refl _) h1) k_lX11_175 k_yX11_hasLake (k_oX0 w) (by omega) rfl (Nat.le_of_ble_eq_true rfl)) ?_
  refine k_if_ne C dX11_mixed_4 (tgt := 9) (by decide) (fun c4 => ?_) (fun c4 => ?_)
  · replace h := k_if_f h c4
    refine k_aload_n C dX11_mixed_9 0 rfl ?_
    refine k_get C dX11_mixed_10 (k_gX0_9 w) k_fX11_73 (Or.inl rfl) ?_
    refine k_iload_n C dX11_mixed_13 1 rfl ?_
    obtain ⟨s14, h14, h⟩ := k_bd_e h
    refine k_goV (k_runV C dX11_mixed_14 (e_X7_start (d := 2) (Nat.le_refl _) h14) k_lX11_245 k_yX7_start (k_oX41 w) (by omega) rfl (Nat.le_of_ble_eq_true rfl)) ?_
    refine k_iconst C dX11_mixed_17 (v := 0) rfl ?_
    refine k_istore_n C dX11_mixed_18 (by decide) [1, 2, 0] (L' := [(0, .ref (w.2.1 0)), (1, .int x1), (2, .int (0 : Int32))]) rfl ?_
    obtain ⟨b19, eb19, h⟩ := k_lp_e h
    have K19 : ∀ (n : Nat) (v2_19 : Int32) (s_19 : k_St), k_loop b19 n (v2_19, s_19) = some (r, σ') → k_K (k_PX w) X (k_MQ X (k_Qi (k_PX w) r σ') (k_PX w).2.2.1) 19 [(0, .ref (w.2.1 0)), (2, .int v2_19)] [] s_19 := by
      intro n
      induction n with
      | zero => intro v2_19 s_19 h; cases h
      | succ n ih19 =>
        intro v2_19 s_19 h
        obtain ⟨g19, eg19, h⟩ := k_lp_s h
        rw [← eg19] at ih19
        rw [eb19] at h
        refine k_iload_n C dX11_mixed_19 1 rfl ?_
        refine k_iconst C dX11_mixed_20 (v := 4) rfl ?_
        refine k_icmp_ge C dX11_mixed_21 (tgt := 66) (by decide) (fun c21 => ?_) (fun c21 => ?_)
        · replace h := k_if_t h c21
          refine k_aload_n C dX11_mixed_66 0 rfl ?_
          refine k_get C dX11_mixed_67 (k_gX0_9 w) k_fX11_73 (Or.inl rfl) ?_
          obtain ⟨v70, h70, h⟩ := k_bd_e h
          refine k_goI (k_runV C dX11_mixed_70 (e_X7_told (d := 2) (Nat.le_refl _) h70) k_lX11_258 k_yX7_told (k_oX41 w) (by omega) rfl (Nat.le_of_ble_eq_true rfl)) ?_
          exact k_iret C dX11_mixed_73 hr (Option.some.inj h)
        · replace h := k_if_f h c21
          refine k_iconst C dX11_mixed_24 (v := 0) rfl ?_
          refine k_istore_n C dX11_mixed_25 (by decide) [1, 2, 0] (L' := [(0, .ref (w.2.1 0)), (2, .int v2_19), (3, .int (0 : Int32))]) rfl ?_
          obtain ⟨b26, eb26, h⟩ := k_lp_e h
          have K26 : ∀ (n : Nat) (v3_26 : Int32) (s_26 : k_St), k_loop b26 n (v3_26, s_26) = some (r, σ') → k_K (k_PX w) X (k_MQ X (k_Qi (k_PX w) r σ') (k_PX w).2.2.1) 26 [(0, .ref (w.2.1 0)), (2, .int v2_19), (3, .int v3_26)] [] s_26 := by
            intro n
            induction n with
            | zero => intro v3_26 s_26 h; cases h
            | succ n ih26 =>
              intro v3_26 s_26 h
              obtain ⟨g26, eg26, h⟩ := k_lp_s h
              rw [← eg26] at ih26
              rw [eb26] at h
              refine k_iload_n C dX11_mixed_26 2 rfl ?_
              refine k_iconst C dX11_mixed_27 (v := 4) rfl ?_
              refine k_icmp_ge C dX11_mixed_28 (tgt := 60) (by decide) (fun c28 => ?_) (fun c28 => ?_)
              · replace h := k_if_t h c28
                refine k_iinc C dX11_mixed_60 1 rfl (v := 1) rfl (by decide) [1, 0, 2] (L' := fun z9 => [(0, .ref (w.2.1 0)), (2, .int z9), (3, .int v3_26)]) (fun z9 => rfl) (fun y60 ey60 => ?_)
                replace h := k_nm_e h y60 ey60
                refine k_goto C dX11_mixed_63 (tgt := 19) (by decide) ?_
                refine k_sub (L' := [(0, .ref (w.2.1 0)), (2, .int y60)]) [0, 1] rfl ?_
                exact ih19 _ _ h
              · replace h := k_if_f h c28
                refine k_aload_n C dX11_mixed_31 0 rfl ?_
                refine k_iload_n C dX11_mixed_32 1 rfl ?_
                refine k_iload_n C dX11_mixed_33 2 rfl ?_
                obtain ⟨v34, h34, h⟩ := k_bd_e h
                refine k_goI (k_runV C dX11_mixed_34 (e_X11_placesLike (d := 4) (Nat.le_refl _) h34) k_lX11_416 k_yX11_placesLike (k_oX0 w) (by omega) rfl (Nat.le_of_ble_eq_true rfl)) ?_
                refine k_iconst C dX11_mixed_37 (v := 1) rfl ?_
                refine k_icmp_le C dX11_mixed_38 (tgt := 54) (by decide) (fun c38 => ?_) (fun c38 => ?_)
                · replace h := k_if_t h c38
                  refine k_iinc C dX11_mixed_54 2 rfl (v := 1) rfl (by decide) [1, 2, 0] (L' := fun z9 => [(0, .ref (w.2.1 0)), (2, .int v2_19), (3, .int z9)]) (fun z9 => rfl) (fun y54 ey54 => ?_)
                  replace h := k_nm_e h y54 ey54
                  refine k_goto C dX11_mixed_57 (tgt := 26) (by decide) ?_
                  exact ih26 _ _ h
                · replace h := k_if_f h c38
                  refine k_aload_n C dX11_mixed_41 0 rfl ?_
                  refine k_get C dX11_mixed_42 (k_gX0_9 w) k_fX11_73 (Or.inl rfl) ?_
                  refine k_bipush C dX11_mixed_45 (v := 10) rfl ?_
                  refine k_iload_n C dX11_mixed_47 1 rfl ?_
                  refine k_imul C dX11_mixed_48 ?_
                  refine k_iload_n C dX11_mixed_49 2 rfl ?_
                  refine k_iadd C dX11_mixed_50 ?_
                  obtain ⟨s51, h51, h⟩ := k_bd_e h
                  refine k_goV (k_runV C dX11_mixed_51 (e_X7_add (d := 2) (Nat.le_refl _) h51) k_lX11_257 k_yX7_add (k_oX41 w) (by omega) rfl (Nat.le_of_ble_eq_true rfl)) ?_
                  refine k_iinc C dX11_mixed_54 2 rfl (v := 1) rfl (by decide) [1, 2, 0] (L' := fun z9 => [(0, .ref (w.2.1 0)), (2, .int v2_19), (3, .int z9)]) (fun z9 => rfl) (fun y54 ey54 => ?_)
                  replace h := k_nm_e h y54 ey54
                  refine k_goto C dX11_mixed_57 (tgt := 26) (by decide) ?_
                  exact ih26 _ _ h
          exact K26 _ _ _ h
    refine k_sub (L' := [(0, .ref (w.2.1 0)), (2, .int (0 : Int32))]) [0, 2] rfl ?_
    exact K19 _ _ _ h
  · replace h := k_if_t h c4
    refine k_iconst C dX11_mixed_7 (v := -1) rfl ?_
    exact k_iret C dX11_mixed_8 hr (Option.some.inj h)
def f_X11_caughtInAll  (σ : k_St) : Option (Int32) :=
  k_loop (fun (g4 : Int32 × Int32 → Option (Int32)) (z4 : Int32 × Int32) => match z4 with
    | (v1_4, v2_4) =>
      k_if ((k_rd σ 16 6) ≤ v2_4)
        (some v1_4)
        (k_bd (f_X6_caughtOn 16 v2_4 σ) fun v21 =>
        k_nm ((v1_4 + v21)) fun y25 =>
        k_nm (v2_4 + (1 : Int32)) fun y26 =>
        g4 (y25, y26))) 100000 ((0 : Int32), (0 : Int32))
set_option maxHeartbeats 4000000 in
set_option maxRecDepth 100000 in
theorem e_X11_caughtInAll {l : Launch} {w : k_WC} {d : Nat} (hd : 4 ≤ d)   {σ : k_St} {r : Int32} (h : f_X11_caughtInAll σ = some r) : k_EI l (k_PX w) yX11_caughtInAll cX11_caughtInAll 3 (some .int) d [.ref (w.2.1 0)] σ r σ := by
  refine k_of (own := RX11) rfl (by decide) (Nat.le_of_ble_eq_true rfl) (fun X hX C hr => ?_)
  show k_K (k_PX w) X (k_MQ X (k_Qi (k_PX w) r σ) (k_PX w).2.2.1) 0 [(0, .ref (w.2.1 0))] [] σ
  unfold f_X11_caughtInAll at h
  refine k_iconst C dX11_caughtInAll_0 (v := 0) rfl ?_
  refine k_istore_n C dX11_caughtInAll_1 (by decide) [1, 0] (L' := [(0, .ref (w.2.1 0)), (1, .int (0 : Int32))]) rfl ?_
  refine k_iconst C dX11_caughtInAll_2 (v := 0) rfl ?_
  refine k_istore_n C dX11_caughtInAll_3 (by decide) [1, 2, 0] (L' := [(0, .ref (w.2.1 0)), (1, .int (0 : Int32)), (2, .int (0 : Int32))]) rfl ?_
  obtain ⟨b4, eb4, h⟩ := k_lp_e h
  have K4 : ∀ (n : Nat) (v1_4 : Int32) (v2_4 : Int32), k_loop b4 n (v1_4, v2_4) = some r → k_K (k_PX w) X (k_MQ X (k_Qi (k_PX w) r σ) (k_PX w).2.2.1) 4 [(0, .ref (w.2.1 0)), (1, .int v1_4), (2, .int v2_4)] [] σ := by
    intro n
    induction n with
    | zero => intro v1_4 v2_4 h; cases h
    | succ n ih4 =>
      intro v1_4 v2_4 h
      obtain ⟨g4, eg4, h⟩ := k_lp_s h
      rw [← eg4] at ih4
      rw [eb4] at h
      refine k_iload_n C dX11_caughtInAll_4 2 rfl ?_
      refine k_aload_n C dX11_caughtInAll_5 0 rfl ?_
      refine k_get C dX11_caughtInAll_6 (k_gX0_4 w) k_fX11_40 (Or.inl rfl) ?_
      refine k_get C dX11_caughtInAll_9 (k_gX16_6 w) k_fX11_348 (Or.inl rfl) ?_
      refine k_icmp_ge C dX11_caughtInAll_12 (tgt := 32) (by decide) (fun c12 => ?_) (fun c12 => ?_)
      · replace h := k_if_t h c12
        refine k_iload_n C dX11_caughtInAll_32 1 rfl ?_
        exact k_iret C dX11_caughtInAll_33 hr (k_p1 h)
      · replace h := k_if_f h c12
        refine k_iload_n C dX11_caughtInAll_15 1 rfl ?_
        refine k_aload_n C dX11_caughtInAll_16 0 rfl ?_
        refine k_get C dX11_caughtInAll_17 (k_gX0_4 w) k_fX11_40 (Or.inl rfl) ?_
        refine k_iload_n C dX11_caughtInAll_20 2 rfl ?_
        obtain ⟨v21, h21, h⟩ := k_bd_e h
        refine k_goI (k_runV C dX11_caughtInAll_21 (e_X6_caughtOn_16 (d := 3) (Nat.le_refl _) h21) k_lX11_374 k_yX6_caughtOn (k_oX16 w) (by omega) rfl (Nat.le_of_ble_eq_true rfl)) ?_
        refine k_iadd C dX11_caughtInAll_24 ?_
        refine k_topi (fun y25 ey25 => ?_)
        replace h := k_nm_e h y25 ey25
        refine k_istore_n C dX11_caughtInAll_25 (by decide) [1, 0, 2] (L' := [(0, .ref (w.2.1 0)), (1, .int y25), (2, .int v2_4)]) rfl ?_
        refine k_iinc C dX11_caughtInAll_26 2 rfl (v := 1) rfl (by decide) [1, 2, 0] (L' := fun z9 => [(0, .ref (w.2.1 0)), (1, .int y25), (2, .int z9)]) (fun z9 => rfl) (fun y26 ey26 => ?_)
        replace h := k_nm_e h y26 ey26
        refine k_goto C dX11_caughtInAll_29 (tgt := 4) (by decide) ?_
        exact ih4 _ _ h
  exact K4 _ _ _ h
def f_X11_count (x1 : Int32) (σ : k_St) : Option (Int32) :=
  k_if (x1 = (0 : Int32))
    (some (k_rd σ 12 0))
    <|
  k_if (x1 = (1 : Int32))
    (some (k_rd σ 12 1))
    <|
  k_if (x1 = (2 : Int32))
    (some (k_rd σ 16 5))
    <|
  k_if (x1 = (3 : Int32))
    (some (k_rd σ 7 4))
    <|
  k_if (x1 = (4 : Int32))
    (some (k_rd σ 1 1))
    <|
  k_if (x1 = (5 : Int32))
    (k_bd (f_X11_digitsOf (k_rd σ 16 0)) fun v119 =>
    some v119)
    <|
  k_if (x1 = (6 : Int32))
    (k_if ((k_rd σ 16 3) = (0 : Int32))
      (some (0 : Int32))
      (some (1 : Int32)))
    <|
  k_if (x1 = (7 : Int32))
    (k_if ((k_rd σ 16 4) = (0 : Int32))
      (some (0 : Int32))
      (some (1 : Int32)))
    <|
  k_if (x1 = (8 : Int32))
    (k_if ((k_rd σ 0 15) = (0 : Int32))
      (some (0 : Int32))
      (some (1 : Int32)))
    <|
  k_if (x1 = (9 : Int32))
    (some (k_rd σ 0 13))
    <|
  k_if (x1 = (10 : Int32))
    (some (k_rd σ 16 6))
    <|
  k_if (x1 = (11 : Int32))
    (k_bd (f_X11_caughtInAll σ) fun v182 =>
    some v182)
    <|
  k_if (x1 = (12 : Int32))
    (some (k_rd σ 7 5))
    <|
  k_if (x1 = (13 : Int32))
    (k_if ((k_rd σ 0 16) = (0 : Int32))
      (some (0 : Int32))
      (some (1 : Int32)))
    <|
  some (-1000000 : Int32)
set_option maxHeartbeats 4000000 in
set_option maxRecDepth 100000 in
theorem e_X11_count {l : Launch} {w : k_WC} {d : Nat} (hd : 5 ≤ d) {x1 : Int32}  {σ : k_St} {r : Int32} (h : f_X11_count x1 σ = some r) : k_EI l (k_PX w) yX11_count cX11_count 2 (some .int) d [.ref (w.2.1 0), .int x1] σ r σ := by
  refine k_of (own := RX11) rfl (by decide) (Nat.le_of_ble_eq_true rfl) (fun X hX C hr => ?_)
  show k_K (k_PX w) X (k_MQ X (k_Qi (k_PX w) r σ) (k_PX w).2.2.1) 0 [(0, .ref (w.2.1 0)), (1, .int x1)] [] σ
  unfold f_X11_count at h
  refine k_iload_n C dX11_count_0 1 rfl ?_
  by_cases c1_0 : x1 = (0 : Int32)
  · replace h := k_if_t h c1_0
    refine k_tabIn C dX11_count_1 (v := 0) c1_0 (by decide) (by decide) (off := 71) (by decide) (tgt := 72) (by decide) ?_
    refine k_aload_n C dX11_count_72 0 rfl ?_
    refine k_get C dX11_count_73 (k_gX0_3 w) k_fX11_33 (Or.inl rfl) ?_
    refine k_get C dX11_count_76 (k_gX12_0 w) k_fX11_138 (Or.inl rfl) ?_
    exact k_iret C dX11_count_79 hr (k_p1 h)
  · replace h := k_if_f h c1_0
    by_cases c1_1 : x1 = (1 : Int32)
    · replace h := k_if_t h c1_1
      refine k_tabIn C dX11_count_1 (v := 1) c1_1 (by decide) (by decide) (off := 79) (by decide) (tgt := 80) (by decide) ?_
      refine k_aload_n C dX11_count_80 0 rfl ?_
      refine k_get C dX11_count_81 (k_gX0_3 w) k_fX11_33 (Or.inl rfl) ?_
      refine k_get C dX11_count_84 (k_gX12_1 w) k_fX11_188 (Or.inl rfl) ?_
      exact k_iret C dX11_count_87 hr (k_p1 h)
    · replace h := k_if_f h c1_1
      by_cases c1_2 : x1 = (2 : Int32)
      · replace h := k_if_t h c1_2
        refine k_tabIn C dX11_count_1 (v := 2) c1_2 (by decide) (by decide) (off := 87) (by decide) (tgt := 88) (by decide) ?_
        refine k_aload_n C dX11_count_88 0 rfl ?_
        refine k_get C dX11_count_89 (k_gX0_4 w) k_fX11_40 (Or.inl rfl) ?_
        refine k_get C dX11_count_92 (k_gX16_5 w) k_fX11_213 (Or.inl rfl) ?_
        exact k_iret C dX11_count_95 hr (k_p1 h)
      · replace h := k_if_f h c1_2
        by_cases c1_3 : x1 = (3 : Int32)
        · replace h := k_if_t h c1_3
          refine k_tabIn C dX11_count_1 (v := 3) c1_3 (by decide) (by decide) (off := 95) (by decide) (tgt := 96) (by decide) ?_
          refine k_aload_n C dX11_count_96 0 rfl ?_
          refine k_get C dX11_count_97 (k_gX0_2 w) k_fX11_26 (Or.inl rfl) ?_
          refine k_get C dX11_count_100 (k_gX7_4 w) k_fX11_141 (Or.inl rfl) ?_
          exact k_iret C dX11_count_103 hr (k_p1 h)
        · replace h := k_if_f h c1_3
          by_cases c1_4 : x1 = (4 : Int32)
          · replace h := k_if_t h c1_4
            refine k_tabIn C dX11_count_1 (v := 4) c1_4 (by decide) (by decide) (off := 103) (by decide) (tgt := 104) (by decide) ?_
            refine k_aload_n C dX11_count_104 0 rfl ?_
            refine k_get C dX11_count_105 (k_gX0_0 w) k_fX11_10 (Or.inl rfl) ?_
            refine k_get C dX11_count_108 (k_gX1_1 w) k_fX11_111 (Or.inl rfl) ?_
            exact k_iret C dX11_count_111 hr (k_p1 h)
          · replace h := k_if_f h c1_4
            by_cases c1_5 : x1 = (5 : Int32)
            · replace h := k_if_t h c1_5
              refine k_tabIn C dX11_count_1 (v := 5) c1_5 (by decide) (by decide) (off := 111) (by decide) (tgt := 112) (by decide) ?_
              refine k_aload_n C dX11_count_112 0 rfl ?_
              refine k_get C dX11_count_113 (k_gX0_4 w) k_fX11_40 (Or.inl rfl) ?_
              refine k_get C dX11_count_116 (k_gX16_0 w) k_fX11_194 (Or.inl rfl) ?_
              obtain ⟨v119, h119, h⟩ := k_bd_e h
              refine k_goI (k_runS C dX11_count_119 (e_X11_digitsOf (d := 3) (Nat.le_refl _) h119) k_lX11_254 k_yX11_digitsOf (by omega) rfl (Nat.le_of_ble_eq_true rfl)) ?_
              exact k_iret C dX11_count_122 hr (k_p1 h)
            · replace h := k_if_f h c1_5
              by_cases c1_6 : x1 = (6 : Int32)
              · replace h := k_if_t h c1_6
                refine k_tabIn C dX11_count_1 (v := 6) c1_6 (by decide) (by decide) (off := 122) (by decide) (tgt := 123) (by decide) ?_
                refine k_aload_n C dX11_count_123 0 rfl ?_
                refine k_get C dX11_count_124 (k_gX0_4 w) k_fX11_40 (Or.inl rfl) ?_
                refine k_get C dX11_count_127 (k_gX16_3 w) k_fX11_182 (Or.inl rfl) ?_
                refine k_if_eq C dX11_count_130 (tgt := 137) (by decide) (fun c130 => ?_) (fun c130 => ?_)
                · replace h := k_if_t h c130
                  refine k_iconst C dX11_count_137 (v := 0) rfl ?_
                  exact k_iret C dX11_count_138 hr (k_p1 h)
                · replace h := k_if_f h c130
                  refine k_iconst C dX11_count_133 (v := 1) rfl ?_
                  refine k_goto C dX11_count_134 (tgt := 138) (by decide) ?_
                  exact k_iret C dX11_count_138 hr (k_p1 h)
              · replace h := k_if_f h c1_6
                by_cases c1_7 : x1 = (7 : Int32)
                · replace h := k_if_t h c1_7
                  refine k_tabIn C dX11_count_1 (v := 7) c1_7 (by decide) (by decide) (off := 138) (by decide) (tgt := 139) (by decide) ?_
                  refine k_aload_n C dX11_count_139 0 rfl ?_
                  refine k_get C dX11_count_140 (k_gX0_4 w) k_fX11_40 (Or.inl rfl) ?_
                  refine k_get C dX11_count_143 (k_gX16_4 w) k_fX11_185 (Or.inl rfl) ?_
                  refine k_if_eq C dX11_count_146 (tgt := 153) (by decide) (fun c146 => ?_) (fun c146 => ?_)
                  · replace h := k_if_t h c146
                    refine k_iconst C dX11_count_153 (v := 0) rfl ?_
                    exact k_iret C dX11_count_154 hr (k_p1 h)
                  · replace h := k_if_f h c146
                    refine k_iconst C dX11_count_149 (v := 1) rfl ?_
                    refine k_goto C dX11_count_150 (tgt := 154) (by decide) ?_
                    exact k_iret C dX11_count_154 hr (k_p1 h)
                · replace h := k_if_f h c1_7
                  by_cases c1_8 : x1 = (8 : Int32)
                  · replace h := k_if_t h c1_8
                    refine k_tabIn C dX11_count_1 (v := 8) c1_8 (by decide) (by decide) (off := 154) (by decide) (tgt := 155) (by decide) ?_
                    refine k_aload_n C dX11_count_155 0 rfl ?_
                    refine k_get C dX11_count_156 (k_gX0_15 w) k_fX11_101 (Or.inl rfl) ?_
                    refine k_if_eq C dX11_count_159 (tgt := 166) (by decide) (fun c159 => ?_) (fun c159 => ?_)
                    · replace h := k_if_t h c159
                      refine k_iconst C dX11_count_166 (v := 0) rfl ?_
                      exact k_iret C dX11_count_167 hr (k_p1 h)
                    · replace h := k_if_f h c159
                      refine k_iconst C dX11_count_162 (v := 1) rfl ?_
                      refine k_goto C dX11_count_163 (tgt := 167) (by decide) ?_
                      exact k_iret C dX11_count_167 hr (k_p1 h)
                  · replace h := k_if_f h c1_8
                    by_cases c1_9 : x1 = (9 : Int32)
                    · replace h := k_if_t h c1_9
                      refine k_tabIn C dX11_count_1 (v := 9) c1_9 (by decide) (by decide) (off := 167) (by decide) (tgt := 168) (by decide) ?_
                      refine k_aload_n C dX11_count_168 0 rfl ?_
                      refine k_get C dX11_count_169 (k_gX0_13 w) k_fX11_93 (Or.inl rfl) ?_
                      exact k_iret C dX11_count_172 hr (k_p1 h)
                    · replace h := k_if_f h c1_9
                      by_cases c1_10 : x1 = (10 : Int32)
                      · replace h := k_if_t h c1_10
                        refine k_tabIn C dX11_count_1 (v := 10) c1_10 (by decide) (by decide) (off := 172) (by decide) (tgt := 173) (by decide) ?_
                        refine k_aload_n C dX11_count_173 0 rfl ?_
                        refine k_get C dX11_count_174 (k_gX0_4 w) k_fX11_40 (Or.inl rfl) ?_
                        refine k_get C dX11_count_177 (k_gX16_6 w) k_fX11_348 (Or.inl rfl) ?_
                        exact k_iret C dX11_count_180 hr (k_p1 h)
                      · replace h := k_if_f h c1_10
                        by_cases c1_11 : x1 = (11 : Int32)
                        · replace h := k_if_t h c1_11
                          refine k_tabIn C dX11_count_1 (v := 11) c1_11 (by decide) (by decide) (off := 180) (by decide) (tgt := 181) (by decide) ?_
                          refine k_aload_n C dX11_count_181 0 rfl ?_
                          obtain ⟨v182, h182, h⟩ := k_bd_e h
                          refine k_goI (k_runV C dX11_count_182 (e_X11_caughtInAll (d := 4) (Nat.le_refl _) h182) k_lX11_419 k_yX11_caughtInAll (k_oX0 w) (by omega) rfl (Nat.le_of_ble_eq_true rfl)) ?_
                          exact k_iret C dX11_count_185 hr (k_p1 h)
                        · replace h := k_if_f h c1_11
                          by_cases c1_12 : x1 = (12 : Int32)
                          · replace h := k_if_t h c1_12
                            refine k_tabIn C dX11_count_1 (v := 12) c1_12 (by decide) (by decide) (off := 185) (by decide) (tgt := 186) (by decide) ?_
                            refine k_aload_n C dX11_count_186 0 rfl ?_
                            refine k_get C dX11_count_187 (k_gX0_2 w) k_fX11_26 (Or.inl rfl) ?_
                            refine k_get C dX11_count_190 (k_gX7_5 w) k_fX11_172 (Or.inl rfl) ?_
                            exact k_iret C dX11_count_193 hr (k_p1 h)
                          · replace h := k_if_f h c1_12
                            by_cases c1_13 : x1 = (13 : Int32)
                            · replace h := k_if_t h c1_13
                              refine k_tabIn C dX11_count_1 (v := 13) c1_13 (by decide) (by decide) (off := 193) (by decide) (tgt := 194) (by decide) ?_
                              refine k_aload_n C dX11_count_194 0 rfl ?_
                              refine k_get C dX11_count_195 (k_gX0_16 w) k_fX11_104 (Or.inl rfl) ?_
                              refine k_if_eq C dX11_count_198 (tgt := 205) (by decide) (fun c198 => ?_) (fun c198 => ?_)
                              · replace h := k_if_t h c198
                                refine k_iconst C dX11_count_205 (v := 0) rfl ?_
                                exact k_iret C dX11_count_206 hr (k_p1 h)
                              · replace h := k_if_f h c198
                                refine k_iconst C dX11_count_201 (v := 1) rfl ?_
                                refine k_goto C dX11_count_202 (tgt := 206) (by decide) ?_
                                exact k_iret C dX11_count_206 hr (k_p1 h)
                            · replace h := k_if_f h c1_13
                              have n0 : ¬ (x1).toInt = 0 := fun e => c1_0 (Int32.toInt_inj.mp e)
                              have n1 : ¬ (x1).toInt = 1 := fun e => c1_1 (Int32.toInt_inj.mp e)
                              have n2 : ¬ (x1).toInt = 2 := fun e => c1_2 (Int32.toInt_inj.mp e)
                              have n3 : ¬ (x1).toInt = 3 := fun e => c1_3 (Int32.toInt_inj.mp e)
                              have n4 : ¬ (x1).toInt = 4 := fun e => c1_4 (Int32.toInt_inj.mp e)
                              have n5 : ¬ (x1).toInt = 5 := fun e => c1_5 (Int32.toInt_inj.mp e)
                              have n6 : ¬ (x1).toInt = 6 := fun e => c1_6 (Int32.toInt_inj.mp e)
                              have n7 : ¬ (x1).toInt = 7 := fun e => c1_7 (Int32.toInt_inj.mp e)
                              have n8 : ¬ (x1).toInt = 8 := fun e => c1_8 (Int32.toInt_inj.mp e)
                              have n9 : ¬ (x1).toInt = 9 := fun e => c1_9 (Int32.toInt_inj.mp e)
                              have n10 : ¬ (x1).toInt = 10 := fun e => c1_10 (Int32.toInt_inj.mp e)
                              have n11 : ¬ (x1).toInt = 11 := fun e => c1_11 (Int32.toInt_inj.mp e)
                              have n12 : ¬ (x1).toInt = 12 := fun e => c1_12 (Int32.toInt_inj.mp e)
                              have n13 : ¬ (x1).toInt = 13 := fun e => c1_13 (Int32.toInt_inj.mp e)
                              refine k_tabOut C dX11_count_1 (by omega) (tgt := 207) (by decide) ?_
                              refine k_ldcw C dX11_count_207 k_cX11_411 ?_
                              exact k_iret C dX11_count_210 hr (k_p1 h)
