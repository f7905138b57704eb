def f_X12_takeLake  (σ : k_St) : Option (Int32 × k_St) :=
  k_nm (k_wr σ 0 21 (k_rd σ 0 19)) fun s5 =>
  k_gd (k_ix (0 : Int32) 2 = true) <|
  k_nm (k_wr s5 0 22 (k_rd s5 12 (0 : Int32).toNatClampNeg)) fun s15 =>
  k_gd (k_ix (1 : Int32) 2 = true) <|
  k_nm (k_wr s15 0 23 (k_rd s15 12 (1 : Int32).toNatClampNeg)) fun s25 =>
  k_loop (fun (g30 : Int32 × k_St → Option (Int32 × k_St)) (z30 : Int32 × k_St) => match z30 with
    | (v1_30, s_30) =>
      k_if ((24 : Int32) ≤ v1_30)
        (k_loop (fun (g56 : Int32 × k_St → Option (Int32 × k_St)) (z56 : Int32 × k_St) => match z56 with
          | (v1_56, s_56) =>
            k_if ((4 : Int32) ≤ v1_56)
              (k_loop (fun (g90 : Int32 × k_St → Option (Int32 × k_St)) (z90 : Int32 × k_St) => match z90 with
                | (v1_90, s_90) =>
                  k_if ((16 : Int32) ≤ v1_90)
                    (k_nm (k_wr s_90 0 26 (0 : Int32)) fun s111 =>
                    k_nm (k_wr s111 0 27 (0 : Int32)) fun s116 =>
                    k_nm (k_wr s116 0 28 (0 : Int32)) fun s121 =>
                    k_nm (k_wr s121 0 29 (0 : Int32)) fun s126 =>
                    k_nm (k_wr s126 0 52 (0 : Int32)) fun s131 =>
                    k_nm (k_wr s131 0 59 (0 : Int32)) fun s136 =>
                    k_nm (k_wr s136 0 70 (0 : Int32)) fun s141 =>
                    some ((k_rd s141 0 21), s141))
                    (k_gd (k_ix v1_90 16 = true) <|
                    k_nm (k_wr s_90 15 v1_90.toNatClampNeg (0 : Int32)) fun s102 =>
                    k_nm (v1_90 + (1 : Int32)) fun y103 =>
                    g90 (y103, s102))) 100000 ((0 : Int32), s_56))
              (k_gd (k_ix v1_56 4 = true) <|
              k_nm (k_wr s_56 14 v1_56.toNatClampNeg (0 : Int32)) fun s67 =>
              k_gd (k_ix v1_56 4 = true) <|
              k_nm (k_wr s67 22 v1_56.toNatClampNeg (-1 : Int32)) fun s74 =>
              k_gd (k_ix v1_56 4 = true) <|
              k_nm (k_wr s74 24 v1_56.toNatClampNeg (0 : Int32)) fun s81 =>
              k_nm (v1_56 + (1 : Int32)) fun y82 =>
              g56 (y82, s81))) 100000 ((0 : Int32), s_30))
        (k_gd (k_ix v1_30 24 = true) <|
        k_gd (k_ix v1_30 24 = true) <|
        k_nm (k_wr s_30 13 v1_30.toNatClampNeg (k_rd s_30 11 v1_30.toNatClampNeg)) fun s47 =>
        k_nm (v1_30 + (1 : Int32)) fun y48 =>
        g30 (y48, s47))) 100000 ((0 : Int32), s25)
set_option maxHeartbeats 4000000 in
set_option maxRecDepth 100000 in
theorem e_X12_takeLake {l : Launch} {w : k_WC} {d : Nat} (hd : 2 ≤ d)   {σ σ' : k_St} {r : Int32} (h : f_X12_takeLake σ = some (r, σ')) : k_EI l (k_PM w) yX12_takeLake cX12_takeLake 2 (some .int) d [.ref (w.2.1 0)] σ r σ' := by
  refine k_of (own := RX12) rfl (by decide) (Nat.le_of_ble_eq_true rfl) (fun X hX C hr => ?_)
  show k_K (k_PM w) X (k_MQ X (k_Qi (k_PM w) r σ') (k_PM w).2.2.1) 0 [(0, .ref (w.2.1 0))] [] σ
  unfold f_X12_takeLake at h
  refine k_aload_n C dX12_takeLake_0 0 rfl ?_
  refine k_aload_n C dX12_takeLake_1 0 rfl ?_
  refine k_get C dX12_takeLake_2 (k_gM0_19 w) k_fX12_290 (Or.inl rfl) ?_
  refine k_puti C dX12_takeLake_5 (k_pM0_21 w) k_fX12_306 (Or.inl rfl) k_xi ?_
  refine k_st (fun s5 es5 => ?_)
  replace h := k_nm_e h s5 es5
  refine k_aload_n C dX12_takeLake_8 0 rfl ?_
  refine k_aload_n C dX12_takeLake_9 0 rfl ?_
  refine k_get C dX12_takeLake_10 (k_gM0_18 w) k_fX12_43 (Or.inl rfl) ?_
  refine k_iconst C dX12_takeLake_13 (v := 0) rfl ?_
  obtain ⟨q14, h⟩ := k_gd_e h
  refine k_iald C dX12_takeLake_14 (k_aM12 w) q14 ?_
  refine k_puti C dX12_takeLake_15 (k_pM0_22 w) k_fX12_309 (Or.inl rfl) k_xi ?_
  refine k_st (fun s15 es15 => ?_)
  replace h := k_nm_e h s15 es15
  refine k_aload_n C dX12_takeLake_18 0 rfl ?_
  refine k_aload_n C dX12_takeLake_19 0 rfl ?_
  refine k_get C dX12_takeLake_20 (k_gM0_18 w) k_fX12_43 (Or.inl rfl) ?_
  refine k_iconst C dX12_takeLake_23 (v := 1) rfl ?_
  obtain ⟨q24, h⟩ := k_gd_e h
  refine k_iald C dX12_takeLake_24 (k_aM12 w) q24 ?_
  refine k_puti C dX12_takeLake_25 (k_pM0_23 w) k_fX12_312 (Or.inl rfl) k_xi ?_
  refine k_st (fun s25 es25 => ?_)
  replace h := k_nm_e h s25 es25
  refine k_iconst C dX12_takeLake_28 (v := 0) rfl ?_
  refine k_istore_n C dX12_takeLake_29 (by decide) [1, 0] (L' := [(0, .ref (w.2.1 0)), (1, .int (0 : Int32))]) rfl ?_
  obtain ⟨b30, eb30, h⟩ := k_lp_e h
  have K30 : ∀ (n : Nat) (v1_30 : Int32) (s_30 : k_St), k_loop b30 n (v1_30, s_30) = some (r, σ') → k_K (k_PM w) X (k_MQ X (k_Qi (k_PM w) r σ') (k_PM w).2.2.1) 30 [(0, .ref (w.2.1 0)), (1, .int v1_30)] [] s_30 := by
    intro n
    induction n with
    | zero => intro v1_30 s_30 h; cases h
    | succ n ih30 =>
      intro v1_30 s_30 h
      obtain ⟨g30, eg30, h⟩ := k_lp_s h
      rw [← eg30] at ih30
      rw [eb30] at h
      refine k_iload_n C dX12_takeLake_30 1 rfl ?_
      refine k_bipush C dX12_takeLake_31 (v := 24) rfl ?_
      refine k_icmp_ge C dX12_takeLake_33 (tgt := 54) (by decide) (fun c33 => ?_) (fun c33 => ?_)
      · replace h := k_if_t h c33
        refine k_iconst C dX12_takeLake_54 (v := 0) rfl ?_
        refine k_istore_n C dX12_takeLake_55 (by decide) [1, 0] (L' := [(0, .ref (w.2.1 0)), (1, .int (0 : Int32))]) rfl ?_
        obtain ⟨b56, eb56, h⟩ := k_lp_e h
        have K56 : ∀ (n : Nat) (v1_56 : Int32) (s_56 : k_St), k_loop b56 n (v1_56, s_56) = some (r, σ') → k_K (k_PM w) X (k_MQ X (k_Qi (k_PM w) r σ') (k_PM w).2.2.1) 56 [(0, .ref (w.2.1 0)), (1, .int v1_56)] [] s_56 := by
          intro n
          induction n with
          | zero => intro v1_56 s_56 h; cases h
          | succ n ih56 =>
            intro v1_56 s_56 h
            obtain ⟨g56, eg56, h⟩ := k_lp_s h
            rw [← eg56] at ih56
            rw [eb56] at h
            refine k_iload_n C dX12_takeLake_56 1 rfl ?_
            refine k_iconst C dX12_takeLake_57 (v := 4) rfl ?_
            refine k_icmp_ge C dX12_takeLake_58 (tgt := 88) (by decide) (fun c58 => ?_) (fun c58 => ?_)
            · replace h := k_if_t h c58
              refine k_iconst C dX12_takeLake_88 (v := 0) rfl ?_
              refine k_istore_n C dX12_takeLake_89 (by decide) [1, 0] (L' := [(0, .ref (w.2.1 0)), (1, .int (0 : Int32))]) rfl ?_
              obtain ⟨b90, eb90, h⟩ := k_lp_e h
              have K90 : ∀ (n : Nat) (v1_90 : Int32) (s_90 : k_St), k_loop b90 n (v1_90, s_90) = some (r, σ') → k_K (k_PM w) X (k_MQ X (k_Qi (k_PM w) r σ') (k_PM w).2.2.1) 90 [(0, .ref (w.2.1 0)), (1, .int v1_90)] [] s_90 := by
                intro n
                induction n with
                | zero => intro v1_90 s_90 h; cases h
                | succ n ih90 =>
                  intro v1_90 s_90 h
                  obtain ⟨g90, eg90, h⟩ := k_lp_s h
                  rw [← eg90] at ih90
                  rw [eb90] at h
                  refine k_iload_n C dX12_takeLake_90 1 rfl ?_
                  refine k_bipush C dX12_takeLake_91 (v := 16) rfl ?_
                  refine k_icmp_ge C dX12_takeLake_93 (tgt := 109) (by decide) (fun c93 => ?_) (fun c93 => ?_)
                  · replace h := k_if_t h c93
                    refine k_aload_n C dX12_takeLake_109 0 rfl ?_
                    refine k_iconst C dX12_takeLake_110 (v := 0) rfl ?_
                    refine k_puti C dX12_takeLake_111 (k_pM0_26 w) k_fX12_315 (Or.inl rfl) (k_xz rfl) ?_
                    refine k_st (fun s111 es111 => ?_)
                    replace h := k_nm_e h s111 es111
                    refine k_aload_n C dX12_takeLake_114 0 rfl ?_
                    refine k_iconst C dX12_takeLake_115 (v := 0) rfl ?_
                    refine k_puti C dX12_takeLake_116 (k_pM0_27 w) k_fX12_319 (Or.inl rfl) (k_xz rfl) ?_
                    refine k_st (fun s116 es116 => ?_)
                    replace h := k_nm_e h s116 es116
                    refine k_aload_n C dX12_takeLake_119 0 rfl ?_
                    refine k_iconst C dX12_takeLake_120 (v := 0) rfl ?_
                    refine k_puti C dX12_takeLake_121 (k_pM0_28 w) k_fX12_322 (Or.inl rfl) (k_xz rfl) ?_
                    refine k_st (fun s121 es121 => ?_)
                    replace h := k_nm_e h s121 es121
                    refine k_aload_n C dX12_takeLake_124 0 rfl ?_
                    refine k_iconst C dX12_takeLake_125 (v := 0) rfl ?_
                    refine k_puti C dX12_takeLake_126 (k_pM0_29 w) k_fX12_325 (Or.inl rfl) (k_xz rfl) ?_
                    refine k_st (fun s126 es126 => ?_)
                    replace h := k_nm_e h s126 es126
                    refine k_aload_n C dX12_takeLake_129 0 rfl ?_
                    refine k_iconst C dX12_takeLake_130 (v := 0) rfl ?_
                    refine k_puti C dX12_takeLake_131 (k_pM0_52 w) k_fX12_328 (Or.inl rfl) k_xi ?_
                    refine k_st (fun s131 es131 => ?_)
                    replace h := k_nm_e h s131 es131
                    refine k_aload_n C dX12_takeLake_134 0 rfl ?_
                    refine k_iconst C dX12_takeLake_135 (v := 0) rfl ?_
                    refine k_puti C dX12_takeLake_136 (k_pM0_59 w) k_fX12_331 (Or.inl rfl) k_xi ?_
                    refine k_st (fun s136 es136 => ?_)
                    replace h := k_nm_e h s136 es136
                    refine k_aload_n C dX12_takeLake_139 0 rfl ?_
                    refine k_iconst C dX12_takeLake_140 (v := 0) rfl ?_
                    refine k_puti C dX12_takeLake_141 (k_pM0_70 w) k_fX12_334 (Or.inl rfl) (k_xz rfl) ?_
                    refine k_st (fun s141 es141 => ?_)
                    replace h := k_nm_e h s141 es141
                    refine k_aload_n C dX12_takeLake_144 0 rfl ?_
                    refine k_get C dX12_takeLake_145 (k_gM0_21 w) k_fX12_306 (Or.inl rfl) ?_
                    exact k_iret C dX12_takeLake_148 hr (Option.some.inj h)
                  · replace h := k_if_f h c93
                    refine k_aload_n C dX12_takeLake_96 0 rfl ?_
                    refine k_get C dX12_takeLake_97 (k_gM0_25 w) k_fX12_52 (Or.inl rfl) ?_
                    refine k_iload_n C dX12_takeLake_100 1 rfl ?_
                    refine k_iconst C dX12_takeLake_101 (v := 0) rfl ?_
                    obtain ⟨q102, h⟩ := k_gd_e h
                    refine k_iast C dX12_takeLake_102 (k_aM15 w) q102 ?_
                    refine k_st (fun s102 es102 => ?_)
                    replace h := k_nm_e h s102 es102
                    refine k_iinc C dX12_takeLake_103 1 rfl (v := 1) rfl (by decide) [1, 0] (L' := fun z9 => [(0, .ref (w.2.1 0)), (1, .int z9)]) (fun z9 => rfl) (fun y103 ey103 => ?_)
                    replace h := k_nm_e h y103 ey103
                    refine k_goto C dX12_takeLake_106 (tgt := 90) (by decide) ?_
                    exact ih90 _ _ h
              exact K90 _ _ _ h
            · replace h := k_if_f h c58
              refine k_aload_n C dX12_takeLake_61 0 rfl ?_
              refine k_get C dX12_takeLake_62 (k_gM0_24 w) k_fX12_49 (Or.inl rfl) ?_
              refine k_iload_n C dX12_takeLake_65 1 rfl ?_
              refine k_iconst C dX12_takeLake_66 (v := 0) rfl ?_
              obtain ⟨q67, h⟩ := k_gd_e h
              refine k_iast C dX12_takeLake_67 (k_aM14 w) q67 ?_
              refine k_st (fun s67 es67 => ?_)
              replace h := k_nm_e h s67 es67
              refine k_aload_n C dX12_takeLake_68 0 rfl ?_
              refine k_get C dX12_takeLake_69 (k_gM0_39 w) k_fX12_77 (Or.inl rfl) ?_
              refine k_iload_n C dX12_takeLake_72 1 rfl ?_
              refine k_iconst C dX12_takeLake_73 (v := -1) rfl ?_
              obtain ⟨q74, h⟩ := k_gd_e h
              refine k_iast C dX12_takeLake_74 (k_aM22 w) q74 ?_
              refine k_st (fun s74 es74 => ?_)
              replace h := k_nm_e h s74 es74
              refine k_aload_n C dX12_takeLake_75 0 rfl ?_
              refine k_get C dX12_takeLake_76 (k_gM0_41 w) k_fX12_83 (Or.inl rfl) ?_
              refine k_iload_n C dX12_takeLake_79 1 rfl ?_
              refine k_iconst C dX12_takeLake_80 (v := 0) rfl ?_
              obtain ⟨q81, h⟩ := k_gd_e h
              refine k_zast C dX12_takeLake_81 (k_aM24 w) q81 rfl ?_
              refine k_st (fun s81 es81 => ?_)
              replace h := k_nm_e h s81 es81
              refine k_iinc C dX12_takeLake_82 1 rfl (v := 1) rfl (by decide) [1, 0] (L' := fun z9 => [(0, .ref (w.2.1 0)), (1, .int z9)]) (fun z9 => rfl) (fun y82 ey82 => ?_)
              replace h := k_nm_e h y82 ey82
              refine k_goto C dX12_takeLake_85 (tgt := 56) (by decide) ?_
              exact ih56 _ _ h
        exact K56 _ _ _ h
      · replace h := k_if_f h c33
        refine k_aload_n C dX12_takeLake_36 0 rfl ?_
        refine k_get C dX12_takeLake_37 (k_gM0_20 w) k_fX12_46 (Or.inl rfl) ?_
        refine k_iload_n C dX12_takeLake_40 1 rfl ?_
        refine k_aload_n C dX12_takeLake_41 0 rfl ?_
        refine k_get C dX12_takeLake_42 (k_gM0_17 w) k_fX12_40 (Or.inl rfl) ?_
        refine k_iload_n C dX12_takeLake_45 1 rfl ?_
        obtain ⟨q46, h⟩ := k_gd_e h
        refine k_iald C dX12_takeLake_46 (k_aM11 w) q46 ?_
        obtain ⟨q47, h⟩ := k_gd_e h
        refine k_iast C dX12_takeLake_47 (k_aM13 w) q47 ?_
        refine k_st (fun s47 es47 => ?_)
        replace h := k_nm_e h s47 es47
        refine k_iinc C dX12_takeLake_48 1 rfl (v := 1) rfl (by decide) [1, 0] (L' := fun z9 => [(0, .ref (w.2.1 0)), (1, .int z9)]) (fun z9 => rfl) (fun y48 ey48 => ?_)
        replace h := k_nm_e h y48 ey48
        refine k_goto C dX12_takeLake_51 (tgt := 30) (by decide) ?_
        exact ih30 _ _ h
  exact K30 _ _ _ h
def f_X12_text (x1 : Int32) (σ : k_St) : Option (Int32 × k_St) :=
  k_jn (fun (s_22 : k_St) =>
    k_if (x1 = (1 : Int32))
      (k_if ((4 : Int32) ≤ (k_rd s_22 0 13))
        (some ((-1 : Int32), s_22))
        (k_b2 (f_X12_readLaw (k_rd s_22 0 13) s_22) fun v40 s40 =>
        k_if (v40 = (-1 : Int32))
          (k_nm (k_wr s40 0 2 (0 : Int32)) fun s49 =>
          k_nm (k_wr s49 0 13 ((k_rd s49 0 13) + (1 : Int32))) fun s59 =>
          some (((k_rd s59 0 13) - (1 : Int32)), s59))
          (some ((-1 : Int32), s40))))
      (some ((-1 : Int32), s_22))) fun j22 =>
  k_if (x1 = (0 : Int32))
    (k_b2 (f_X12_readLake σ) fun v5 s5 =>
    k_if (v5 = (-1 : Int32))
      (k_nm (k_wr s5 0 2 (0 : Int32)) fun s14 =>
      k_b2 (f_X12_takeLake s14) fun v18 s18 =>
      some (v18, s18))
      (j22 s5))
    (j22 σ)
set_option maxHeartbeats 4000000 in
set_option maxRecDepth 100000 in
theorem e_X12_text {l : Launch} {w : k_WC} {d : Nat} (hd : 153 ≤ d) {x1 : Int32}  {σ σ' : k_St} {r : Int32} (h : f_X12_text x1 σ = some (r, σ')) : k_EI l (k_PM w) yX12_text cX12_text 2 (some .int) d [.ref (w.2.1 0), .int x1] σ r σ' := by
  refine k_of (own := RX12) rfl (by decide) (Nat.le_of_ble_eq_true rfl) (fun X hX C hr => ?_)
  show k_K (k_PM w) X (k_MQ X (k_Qi (k_PM w) r σ') (k_PM w).2.2.1) 0 [(0, .ref (w.2.1 0)), (1, .int x1)] [] σ
  unfold f_X12_text at h
  refine k_iload_n C dX12_text_0 1 rfl ?_
  obtain ⟨j22, ej22, h⟩ := k_jn_e h
  have Jj22 : ∀ (s_22 : k_St), j22 s_22 = some (r, σ') → k_K (k_PM w) X (k_MQ X (k_Qi (k_PM w) r σ') (k_PM w).2.2.1) 22 [(0, .ref (w.2.1 0)), (1, .int x1)] [] s_22 := by
    intro s_22 h
    rw [ej22] at h
    refine k_iload_n C dX12_text_22 1 rfl ?_
    refine k_iconst C dX12_text_23 (v := 1) rfl ?_
    refine k_icmp_ne C dX12_text_24 (tgt := 69) (by decide) (fun c24 => ?_) (fun c24 => ?_)
    · replace h := k_if_f h c24
      refine k_iconst C dX12_text_69 (v := -1) rfl ?_
      exact k_iret C dX12_text_70 hr (Option.some.inj h)
    · replace h := k_if_t h c24
      refine k_aload_n C dX12_text_27 0 rfl ?_
      refine k_get C dX12_text_28 (k_gM0_13 w) k_fX12_340 (Or.inl rfl) ?_
      refine k_iconst C dX12_text_31 (v := 4) rfl ?_
      refine k_icmp_ge C dX12_text_32 (tgt := 69) (by decide) (fun c32 => ?_) (fun c32 => ?_)
      · replace h := k_if_t h c32
        refine k_iconst C dX12_text_69 (v := -1) rfl ?_
        exact k_iret C dX12_text_70 hr (Option.some.inj h)
      · replace h := k_if_f h c32
        refine k_aload_n C dX12_text_35 0 rfl ?_
        refine k_aload_n C dX12_text_36 0 rfl ?_
        refine k_get C dX12_text_37 (k_gM0_13 w) k_fX12_340 (Or.inl rfl) ?_
        obtain ⟨v40, s40, h40, h⟩ := k_b2_e h
        refine k_goI (k_runV C dX12_text_40 (e_X12_readLaw (d := 152) (Nat.le_refl _) h40) k_lX12_303 k_yX12_readLaw (k_oM0 w) (by omega) rfl (Nat.le_of_ble_eq_true rfl)) ?_
        refine k_iconst C dX12_text_43 (v := -1) rfl ?_
        refine k_icmp_ne C dX12_text_44 (tgt := 69) (by decide) (fun c44 => ?_) (fun c44 => ?_)
        · replace h := k_if_f h c44
          refine k_iconst C dX12_text_69 (v := -1) rfl ?_
          exact k_iret C dX12_text_70 hr (Option.some.inj h)
        · replace h := k_if_t h c44
          refine k_aload_n C dX12_text_47 0 rfl ?_
          refine k_iconst C dX12_text_48 (v := 0) rfl ?_
          refine k_puti C dX12_text_49 (k_pM0_2 w) k_fX12_161 (Or.inl rfl) k_xi ?_
          refine k_st (fun s49 es49 => ?_)
          replace h := k_nm_e h s49 es49
          refine k_aload_n C dX12_text_52 0 rfl ?_
          refine k_dup C dX12_text_53 rfl ?_
          refine k_get C dX12_text_54 (k_gM0_13 w) k_fX12_340 (Or.inl rfl) ?_
          refine k_iconst C dX12_text_57 (v := 1) rfl ?_
          refine k_iadd C dX12_text_58 ?_
          refine k_puti C dX12_text_59 (k_pM0_13 w) k_fX12_340 (Or.inl rfl) k_xi ?_
          refine k_st (fun s59 es59 => ?_)
          replace h := k_nm_e h s59 es59
          refine k_aload_n C dX12_text_62 0 rfl ?_
          refine k_get C dX12_text_63 (k_gM0_13 w) k_fX12_340 (Or.inl rfl) ?_
          refine k_iconst C dX12_text_66 (v := 1) rfl ?_
          refine k_isub C dX12_text_67 ?_
          exact k_iret C dX12_text_68 hr (Option.some.inj h)
  refine k_if_ne C dX12_text_1 (tgt := 22) (by decide) (fun c1 => ?_) (fun c1 => ?_)
  · replace h := k_if_f h c1
    exact Jj22 _ h
  · replace h := k_if_t h c1
    refine k_aload_n C dX12_text_4 0 rfl ?_
    obtain ⟨v5, s5, h5, h⟩ := k_b2_e h
    refine k_goI (k_runV C dX12_text_5 (e_X12_readLake (d := 6) (Nat.le_refl _) h5) k_lX12_300 k_yX12_readLake (k_oM0 w) (by omega) rfl (Nat.le_of_ble_eq_true rfl)) ?_
    refine k_iconst C dX12_text_8 (v := -1) rfl ?_
    refine k_icmp_ne C dX12_text_9 (tgt := 22) (by decide) (fun c9 => ?_) (fun c9 => ?_)
    · replace h := k_if_f h c9
      exact Jj22 _ h
    · replace h := k_if_t h c9
      refine k_aload_n C dX12_text_12 0 rfl ?_
      refine k_iconst C dX12_text_13 (v := 0) rfl ?_
      refine k_puti C dX12_text_14 (k_pM0_2 w) k_fX12_161 (Or.inl rfl) k_xi ?_
      refine k_st (fun s14 es14 => ?_)
      replace h := k_nm_e h s14 es14
      refine k_aload_n C dX12_text_17 0 rfl ?_
      obtain ⟨v18, s18, h18, h⟩ := k_b2_e h
      refine k_goI (k_runV C dX12_text_18 (e_X12_takeLake (d := 2) (Nat.le_refl _) h18) k_lX12_337 k_yX12_takeLake (k_oM0 w) (by omega) rfl (Nat.le_of_ble_eq_true rfl)) ?_
      exact k_iret C dX12_text_21 hr (Option.some.inj h)
def f_X12_isPlace (x1 : Int32) (σ : k_St) : Option (Int32) :=
  k_bd (f_X12_in x1 (0 : Int32) ((k_rd σ 0 21) - (1 : Int32))) fun v8 =>
  k_gd (o_isB v8 = true) <|
  some v8
set_option maxHeartbeats 4000000 in
set_option maxRecDepth 100000 in
theorem e_X12_isPlace {l : Launch} {w : k_WC} {d : Nat} (hd : 3 ≤ d) {x1 : Int32}  {σ : k_St} {r : Int32} (h : f_X12_isPlace x1 σ = some r) : k_EI l (k_PM w) yX12_isPlace cX12_isPlace 2 (some .boolean) d [.ref (w.2.1 0), .int x1] σ r σ := by
  refine k_of (own := RX12) rfl (by decide) (Nat.le_of_ble_eq_true rfl) (fun X hX C hr => ?_)
  show k_K (k_PM w) X (k_MQ X (k_Qi (k_PM w) r σ) (k_PM w).2.2.1) 0 [(0, .ref (w.2.1 0)), (1, .int x1)] [] σ
  unfold f_X12_isPlace at h
  refine k_iload_n C dX12_isPlace_0 1 rfl ?_
  refine k_iconst C dX12_isPlace_1 (v := 0) rfl ?_
  refine k_aload_n C dX12_isPlace_2 0 rfl ?_
  refine k_get C dX12_isPlace_3 (k_gM0_21 w) k_fX12_306 (Or.inl rfl) ?_
  refine k_iconst C dX12_isPlace_6 (v := 1) rfl ?_
  refine k_isub C dX12_isPlace_7 ?_
  obtain ⟨v8, h8, h⟩ := k_bd_e h
  refine k_goI (k_runS C dX12_isPlace_8 (e_X12_in (d := 2) (Nat.le_refl _) h8) k_lX12_269 k_yX12_in (by omega) rfl (Nat.le_of_ble_eq_true rfl)) ?_
  obtain ⟨gz, h⟩ := k_gd_e h
  exact k_zret C dX12_isPlace_11 hr (k_nz gz) (k_p1 h)
def f_X12_of (x1 : Int32) (x2 : Int32) (σ : k_St) : Option (Int32) :=
  k_gd (k_ix (((4 : Int32) * x1) + x2) 24 = true) <|
  some (k_rd σ 13 (((4 : Int32) * x1) + x2).toNatClampNeg)
set_option maxHeartbeats 4000000 in
set_option maxRecDepth 100000 in
theorem e_X12_of {l : Launch} {w : k_WC} {d : Nat} (hd : 2 ≤ d) {x1 : Int32} {x2 : Int32}  {σ : k_St} {r : Int32} (h : f_X12_of x1 x2 σ = some r) : k_EI l (k_PM w) yX12_of cX12_of 3 (some .int) d [.ref (w.2.1 0), .int x1, .int x2] σ r σ := by
  refine k_of (own := RX12) rfl (by decide) (Nat.le_of_ble_eq_true rfl) (fun X hX C hr => ?_)
  show k_K (k_PM w) X (k_MQ X (k_Qi (k_PM w) r σ) (k_PM w).2.2.1) 0 [(0, .ref (w.2.1 0)), (1, .int x1), (2, .int x2)] [] σ
  unfold f_X12_of at h
  refine k_aload_n C dX12_of_0 0 rfl ?_
  refine k_get C dX12_of_1 (k_gM0_20 w) k_fX12_46 (Or.inl rfl) ?_
  refine k_iconst C dX12_of_4 (v := 4) rfl ?_
  refine k_iload_n C dX12_of_5 1 rfl ?_
  refine k_imul C dX12_of_6 ?_
  refine k_iload_n C dX12_of_7 2 rfl ?_
  refine k_iadd C dX12_of_8 ?_
  obtain ⟨q9, h⟩ := k_gd_e h
  refine k_iald C dX12_of_9 (k_aM13 w) q9 ?_
  exact k_iret C dX12_of_10 hr (k_p1 h)
def f_X12_worthAt (x1 : Int32) (σ : k_St) : Option (Int32 × k_St) :=
  k_if ((k_rd σ 0 30) = (-1 : Int32))
    (k_bd (f_X12_of x1 (3 : Int32) σ) fun v11 =>
    some (v11, σ))
    (k_bd (f_X12_of x1 (3 : Int32) σ) fun v23 =>
    k_gd (k_ix (0 : Int32) 5 = true) <|
    k_nm (k_wr σ 9 (0 : Int32).toNatClampNeg v23) fun s26 =>
    k_gd (k_ix (1 : Int32) 5 = true) <|
    k_nm (k_wr s26 9 (1 : Int32).toNatClampNeg x1) fun s33 =>
    k_bd (f_X12_of x1 (1 : Int32) s33) fun v42 =>
    k_gd (k_ix (2 : Int32) 5 = true) <|
    k_nm (k_wr s33 9 (2 : Int32).toNatClampNeg v42) fun s45 =>
    k_bd (f_X12_of x1 (2 : Int32) s45) fun v54 =>
    k_gd (k_ix (3 : Int32) 5 = true) <|
    k_nm (k_wr s45 9 (3 : Int32).toNatClampNeg v54) fun s57 =>
    k_bd (f_X12_of x1 (0 : Int32) s57) fun v66 =>
    k_gd (k_ix (4 : Int32) 5 = true) <|
    k_nm (k_wr s57 9 (4 : Int32).toNatClampNeg v66) fun s69 =>
    k_b2 (f_X12_worthOf (k_rd s69 0 30) s69) fun v79 s79 =>
    some ((o_max (0 : Int32) (o_min (999 : Int32) v79)), s79))
set_option maxHeartbeats 4000000 in
set_option maxRecDepth 100000 in
theorem e_X12_worthAt {l : Launch} {w : k_WC} {d : Nat} (hd : 7 ≤ d) {x1 : Int32}  {σ σ' : k_St} {r : Int32} (h : f_X12_worthAt x1 σ = some (r, σ')) : k_EI l (k_PM w) yX12_worthAt cX12_worthAt 2 (some .int) d [.ref (w.2.1 0), .int x1] σ r σ' := by
  refine k_of (own := RX12) rfl (by decide) (Nat.le_of_ble_eq_true rfl) (fun X hX C hr => ?_)
  show k_K (k_PM w) X (k_MQ X (k_Qi (k_PM w) r σ') (k_PM w).2.2.1) 0 [(0, .ref (w.2.1 0)), (1, .int x1)] [] σ
  unfold f_X12_worthAt at h
  refine k_aload_n C dX12_worthAt_0 0 rfl ?_
  refine k_get C dX12_worthAt_1 (k_gM0_30 w) k_fX12_55 (Or.inl rfl) ?_
  refine k_iconst C dX12_worthAt_4 (v := -1) rfl ?_
  refine k_icmp_ne C dX12_worthAt_5 (tgt := 15) (by decide) (fun c5 => ?_) (fun c5 => ?_)
  · replace h := k_if_f h c5
    refine k_aload_n C dX12_worthAt_15 0 rfl ?_
    refine k_get C dX12_worthAt_16 (k_gM0_15 w) k_fX12_34 (Or.inl rfl) ?_
    refine k_iconst C dX12_worthAt_19 (v := 0) rfl ?_
    refine k_aload_n C dX12_worthAt_20 0 rfl ?_
    refine k_iload_n C dX12_worthAt_21 1 rfl ?_
    refine k_iconst C dX12_worthAt_22 (v := 3) rfl ?_
    obtain ⟨v23, h23, h⟩ := k_bd_e h
    refine k_goI (k_runV C dX12_worthAt_23 (e_X12_of (d := 2) (Nat.le_refl _) h23) k_lX12_343 k_yX12_of (k_oM0 w) (by omega) rfl (Nat.le_of_ble_eq_true rfl)) ?_
    obtain ⟨q26, h⟩ := k_gd_e h
    refine k_iast C dX12_worthAt_26 (k_aM9 w) q26 ?_
    refine k_st (fun s26 es26 => ?_)
    replace h := k_nm_e h s26 es26
    refine k_aload_n C dX12_worthAt_27 0 rfl ?_
    refine k_get C dX12_worthAt_28 (k_gM0_15 w) k_fX12_34 (Or.inl rfl) ?_
    refine k_iconst C dX12_worthAt_31 (v := 1) rfl ?_
    refine k_iload_n C dX12_worthAt_32 1 rfl ?_
    obtain ⟨q33, h⟩ := k_gd_e h
    refine k_iast C dX12_worthAt_33 (k_aM9 w) q33 ?_
    refine k_st (fun s33 es33 => ?_)
    replace h := k_nm_e h s33 es33
    refine k_aload_n C dX12_worthAt_34 0 rfl ?_
    refine k_get C dX12_worthAt_35 (k_gM0_15 w) k_fX12_34 (Or.inl rfl) ?_
    refine k_iconst C dX12_worthAt_38 (v := 2) rfl ?_
    refine k_aload_n C dX12_worthAt_39 0 rfl ?_
    refine k_iload_n C dX12_worthAt_40 1 rfl ?_
    refine k_iconst C dX12_worthAt_41 (v := 1) rfl ?_
    obtain ⟨v42, h42, h⟩ := k_bd_e h
    refine k_goI (k_runV C dX12_worthAt_42 (e_X12_of (d := 2) (Nat.le_refl _) h42) k_lX12_343 k_yX12_of (k_oM0 w) (by omega) rfl (Nat.le_of_ble_eq_true rfl)) ?_
    obtain ⟨q45, h⟩ := k_gd_e h
    refine k_iast C dX12_worthAt_45 (k_aM9 w) q45 ?_
    refine k_st (fun s45 es45 => ?_)
    replace h := k_nm_e h s45 es45
    refine k_aload_n C dX12_worthAt_46 0 rfl ?_
    refine k_get C dX12_worthAt_47 (k_gM0_15 w) k_fX12_34 (Or.inl rfl) ?_
    refine k_iconst C dX12_worthAt_50 (v := 3) rfl ?_
    refine k_aload_n C dX12_worthAt_51 0 rfl ?_
    refine k_iload_n C dX12_worthAt_52 1 rfl ?_
    refine k_iconst C dX12_worthAt_53 (v := 2) rfl ?_
    obtain ⟨v54, h54, h⟩ := k_bd_e h
    refine k_goI (k_runV C dX12_worthAt_54 (e_X12_of (d := 2) (Nat.le_refl _) h54) k_lX12_343 k_yX12_of (k_oM0 w) (by omega) rfl (Nat.le_of_ble_eq_true rfl)) ?_
    obtain ⟨q57, h⟩ := k_gd_e h
    refine k_iast C dX12_worthAt_57 (k_aM9 w) q57 ?_
    refine k_st (fun s57 es57 => ?_)
    replace h := k_nm_e h s57 es57
    refine k_aload_n C dX12_worthAt_58 0 rfl ?_
    refine k_get C dX12_worthAt_59 (k_gM0_15 w) k_fX12_34 (Or.inl rfl) ?_
    refine k_iconst C dX12_worthAt_62 (v := 4) rfl ?_
    refine k_aload_n C dX12_worthAt_63 0 rfl ?_
    refine k_iload_n C dX12_worthAt_64 1 rfl ?_
    refine k_iconst C dX12_worthAt_65 (v := 0) rfl ?_
    obtain ⟨v66, h66, h⟩ := k_bd_e h
    refine k_goI (k_runV C dX12_worthAt_66 (e_X12_of (d := 2) (Nat.le_refl _) h66) k_lX12_343 k_yX12_of (k_oM0 w) (by omega) rfl (Nat.le_of_ble_eq_true rfl)) ?_
    obtain ⟨q69, h⟩ := k_gd_e h
    refine k_iast C dX12_worthAt_69 (k_aM9 w) q69 ?_
    refine k_st (fun s69 es69 => ?_)
    replace h := k_nm_e h s69 es69
    refine k_iconst C dX12_worthAt_70 (v := 0) rfl ?_
    refine k_sipush C dX12_worthAt_71 (v := 999) rfl ?_
    refine k_aload_n C dX12_worthAt_74 0 rfl ?_
    refine k_aload_n C dX12_worthAt_75 0 rfl ?_
    refine k_get C dX12_worthAt_76 (k_gM0_30 w) k_fX12_55 (Or.inl rfl) ?_
    obtain ⟨v79, s79, h79, h⟩ := k_b2_e h
    refine k_goI (k_runV C dX12_worthAt_79 (e_X12_worthOf (d := 6) (Nat.le_refl _) h79) k_lX12_346 k_yX12_worthOf (k_oM0 w) (by omega) rfl (Nat.le_of_ble_eq_true rfl)) ?_
    refine k_mmin C dX12_worthAt_82 k_lX12_349 k_ym_min (by omega) (Nat.le_of_ble_eq_true rfl) ?_
    refine k_mmax C dX12_worthAt_85 k_lX12_351 k_ym_max (by omega) (Nat.le_of_ble_eq_true rfl) ?_
    exact k_iret C dX12_worthAt_88 hr (Option.some.inj h)
  · replace h := k_if_t h c5
    refine k_aload_n C dX12_worthAt_8 0 rfl ?_
    refine k_iload_n C dX12_worthAt_9 1 rfl ?_
    refine k_iconst C dX12_worthAt_10 (v := 3) rfl ?_
    obtain ⟨v11, h11, h⟩ := k_bd_e h
    refine k_goI (k_runV C dX12_worthAt_11 (e_X12_of (d := 2) (Nat.le_refl _) h11) k_lX12_343 k_yX12_of (k_oM0 w) (by omega) rfl (Nat.le_of_ble_eq_true rfl)) ?_
    exact k_iret C dX12_worthAt_14 hr (Option.some.inj h)
def f_X12_place (x1 : Int32) (x2 : Int32) (σ : k_St) : Option (Int32 × k_St) :=
  k_bd (f_X12_isPlace x1 σ) fun v3 =>
  k_jn (fun (t1_23 : Int32) =>
    k_nm (k_wr σ 0 0 t1_23) fun s23 =>
    k_if ((k_rd s23 0 0) = (1 : Int32))
      (some ((0 : Int32), s23))
      (k_if ((4 : Int32) ≤ x2)
        (k_b2 (f_X12_worthAt x1 s23) fun v54 s54 =>
        some (v54, s54))
        (k_bd (f_X12_of x1 x2 s23) fun v46 =>
        some (v46, s23)))) fun j23 =>
  k_jn (fun (_ : Unit) =>
    j23 (1 : Int32)) fun j22 =>
  k_if (v3 = (0 : Int32))
    (j22 ())
    (k_bd (f_X12_in x2 (0 : Int32) (4 : Int32)) fun v12 =>
    k_if (v12 = (0 : Int32))
      (j22 ())
      (j23 (0 : Int32)))
set_option maxHeartbeats 4000000 in
set_option maxRecDepth 100000 in
theorem e_X12_place {l : Launch} {w : k_WC} {d : Nat} (hd : 8 ≤ d) {x1 : Int32} {x2 : Int32}  {σ σ' : k_St} {r : Int32} (h : f_X12_place x1 x2 σ = some (r, σ')) : k_EI l (k_PM w) yX12_place cX12_place 3 (some .int) d [.ref (w.2.1 0), .int x1, .int x2] σ r σ' := by
  refine k_of (own := RX12) rfl (by decide) (Nat.le_of_ble_eq_true rfl) (fun X hX C hr => ?_)
  show k_K (k_PM w) X (k_MQ X (k_Qi (k_PM w) r σ') (k_PM w).2.2.1) 0 [(0, .ref (w.2.1 0)), (1, .int x1), (2, .int x2)] [] σ
  unfold f_X12_place at h
  refine k_aload_n C dX12_place_0 0 rfl ?_
  refine k_aload_n C dX12_place_1 0 rfl ?_
  refine k_iload_n C dX12_place_2 1 rfl ?_
  obtain ⟨v3, h3, h⟩ := k_bd_e h
  refine k_goI (k_runV C dX12_place_3 (e_X12_isPlace (d := 3) (Nat.le_refl _) h3) k_lX12_353 k_yX12_isPlace (k_oM0 w) (by omega) rfl (Nat.le_of_ble_eq_true rfl)) ?_
  obtain ⟨j23, ej23, h⟩ := k_jn_e h
  have Jj23 : ∀ (t1_23 : Int32), j23 t1_23 = some (r, σ') → k_K (k_PM w) X (k_MQ X (k_Qi (k_PM w) r σ') (k_PM w).2.2.1) 23 [(0, .ref (w.2.1 0)), (1, .int x1), (2, .int x2)] [.int t1_23, .ref (w.2.1 0)] σ := by
    intro t1_23 h
    rw [ej23] at h
    refine k_puti C dX12_place_23 (k_pM0_0 w) k_fX12_154 (Or.inl rfl) k_xi ?_
    refine k_st (fun s23 es23 => ?_)
    replace h := k_nm_e h s23 es23
    refine k_aload_n C dX12_place_26 0 rfl ?_
    refine k_get C dX12_place_27 (k_gM0_0 w) k_fX12_154 (Or.inl rfl) ?_
    refine k_iconst C dX12_place_30 (v := 1) rfl ?_
    refine k_icmp_ne C dX12_place_31 (tgt := 38) (by decide) (fun c31 => ?_) (fun c31 => ?_)
    · replace h := k_if_f h c31
      refine k_iload_n C dX12_place_38 2 rfl ?_
      refine k_iconst C dX12_place_39 (v := 4) rfl ?_
      refine k_icmp_ge C dX12_place_40 (tgt := 52) (by decide) (fun c40 => ?_) (fun c40 => ?_)
      · replace h := k_if_t h c40
        refine k_aload_n C dX12_place_52 0 rfl ?_
        refine k_iload_n C dX12_place_53 1 rfl ?_
        obtain ⟨v54, s54, h54, h⟩ := k_b2_e h
        refine k_goI (k_runV C dX12_place_54 (e_X12_worthAt (d := 7) (Nat.le_refl _) h54) k_lX12_356 k_yX12_worthAt (k_oM0 w) (by omega) rfl (Nat.le_of_ble_eq_true rfl)) ?_
        exact k_iret C dX12_place_57 hr (Option.some.inj h)
      · replace h := k_if_f h c40
        refine k_aload_n C dX12_place_43 0 rfl ?_
        refine k_iload_n C dX12_place_44 1 rfl ?_
        refine k_iload_n C dX12_place_45 2 rfl ?_
        obtain ⟨v46, h46, h⟩ := k_bd_e h
        refine k_goI (k_runV C dX12_place_46 (e_X12_of (d := 2) (Nat.le_refl _) h46) k_lX12_343 k_yX12_of (k_oM0 w) (by omega) rfl (Nat.le_of_ble_eq_true rfl)) ?_
        refine k_goto C dX12_place_49 (tgt := 57) (by decide) ?_
        exact k_iret C dX12_place_57 hr (Option.some.inj h)
    · replace h := k_if_t h c31
      refine k_iconst C dX12_place_34 (v := 0) rfl ?_
      refine k_goto C dX12_place_35 (tgt := 57) (by decide) ?_
      exact k_iret C dX12_place_57 hr (Option.some.inj h)
  obtain ⟨j22, ej22, h⟩ := k_jn_e h
  have Jj22 : j22 () = some (r, σ') → k_K (k_PM w) X (k_MQ X (k_Qi (k_PM w) r σ') (k_PM w).2.2.1) 22 [(0, .ref (w.2.1 0)), (1, .int x1), (2, .int x2)] [.ref (w.2.1 0)] σ := by
    intro  h
    rw [ej22] at h
    refine k_iconst C dX12_place_22 (v := 1) rfl ?_
    exact Jj23 _ h
  refine k_if_eq C dX12_place_6 (tgt := 22) (by decide) (fun c6 => ?_) (fun c6 => ?_)
  · replace h := k_if_t h c6
    exact Jj22 h
  · replace h := k_if_f h c6
    refine k_iload_n C dX12_place_9 2 rfl ?_
    refine k_iconst C dX12_place_10 (v := 0) rfl ?_
    refine k_iconst C dX12_place_11 (v := 4) rfl ?_
    obtain ⟨v12, h12, h⟩ := k_bd_e h
    refine k_goI (k_runS C dX12_place_12 (e_X12_in (d := 2) (Nat.le_refl _) h12) k_lX12_269 k_yX12_in (by omega) rfl (Nat.le_of_ble_eq_true rfl)) ?_
    refine k_if_eq C dX12_place_15 (tgt := 22) (by decide) (fun c15 => ?_) (fun c15 => ?_)
    · replace h := k_if_t h c15
      exact Jj22 h
    · replace h := k_if_f h c15
      refine k_iconst C dX12_place_18 (v := 0) rfl ?_
      refine k_goto C dX12_place_19 (tgt := 23) (by decide) ?_
      exact Jj23 _ h
def f_X12_worth (x1 : Int32) (σ : k_St) : Option (Int32 × k_St) :=
  k_bd (f_X12_in x1 (-1 : Int32) ((k_rd σ 0 13) - (1 : Int32))) fun v8 =>
  k_if (v8 = (0 : Int32))
    (some ((0 : Int32), σ))
    (k_nm (k_wr σ 0 30 x1) fun s18 =>
    some ((1 : Int32), s18))
set_option maxHeartbeats 4000000 in
set_option maxRecDepth 100000 in
theorem e_X12_worth {l : Launch} {w : k_WC} {d : Nat} (hd : 3 ≤ d) {x1 : Int32}  {σ σ' : k_St} {r : Int32} (h : f_X12_worth x1 σ = some (r, σ')) : k_EI l (k_PM w) yX12_worth cX12_worth 2 (some .boolean) d [.ref (w.2.1 0), .int x1] σ r σ' := by
  refine k_of (own := RX12) rfl (by decide) (Nat.le_of_ble_eq_true rfl) (fun X hX C hr => ?_)
  show k_K (k_PM w) X (k_MQ X (k_Qi (k_PM w) r σ') (k_PM w).2.2.1) 0 [(0, .ref (w.2.1 0)), (1, .int x1)] [] σ
  unfold f_X12_worth at h
  refine k_iload_n C dX12_worth_0 1 rfl ?_
  refine k_iconst C dX12_worth_1 (v := -1) rfl ?_
  refine k_aload_n C dX12_worth_2 0 rfl ?_
  refine k_get C dX12_worth_3 (k_gM0_13 w) k_fX12_340 (Or.inl rfl) ?_
  refine k_iconst C dX12_worth_6 (v := 1) rfl ?_
  refine k_isub C dX12_worth_7 ?_
  obtain ⟨v8, h8, h⟩ := k_bd_e h
  refine k_goI (k_runS C dX12_worth_8 (e_X12_in (d := 2) (Nat.le_refl _) h8) k_lX12_269 k_yX12_in (by omega) rfl (Nat.le_of_ble_eq_true rfl)) ?_
  refine k_if_ne C dX12_worth_11 (tgt := 16) (by decide) (fun c11 => ?_) (fun c11 => ?_)
  · replace h := k_if_f h c11
    refine k_aload_n C dX12_worth_16 0 rfl ?_
    refine k_iload_n C dX12_worth_17 1 rfl ?_
    refine k_puti C dX12_worth_18 (k_pM0_30 w) k_fX12_55 (Or.inl rfl) k_xi ?_
    refine k_st (fun s18 es18 => ?_)
    replace h := k_nm_e h s18 es18
    refine k_iconst C dX12_worth_21 (v := 1) rfl ?_
    exact k_zret C dX12_worth_22 hr rfl (Option.some.inj h)
  · replace h := k_if_t h c11
    refine k_iconst C dX12_worth_14 (v := 0) rfl ?_
    exact k_zret C dX12_worth_15 hr rfl (Option.some.inj h)
def f_X12_set (x1 : Int32) (x2 : Int32) (σ : k_St) : Option (Int32 × k_St) :=
  k_if ((k_rd σ 0 21) = (0 : Int32))
    (some ((0 : Int32), σ))
    (k_bd (f_X12_in x1 (0 : Int32) (3 : Int32)) fun v10 =>
    k_if (v10 = (0 : Int32))
      (some ((0 : Int32), σ))
      (k_jn (fun (t1_56 : Int32) =>
        k_if (x2 = t1_56)
          (some ((0 : Int32), σ))
          (k_jn (fun (t1_74 : Int32) =>
            k_gd (o_isB t1_74 = true) <|
            k_nm (k_wr σ 0 26 t1_74) fun s74 =>
            k_jn (fun (t1_91 : Int32) =>
              k_gd (o_isB t1_91 = true) <|
              k_nm (k_wr s74 0 27 t1_91) fun s91 =>
              k_jn (fun (t1_108 : Int32) =>
                k_gd (o_isB t1_108 = true) <|
                k_nm (k_wr s91 0 28 t1_108) fun s108 =>
                k_if (x1 = (3 : Int32))
                  (k_gd (o_isB x2 = true) <|
                  k_nm (k_wr s108 0 29 x2) fun s125 =>
                  some ((1 : Int32), s125))
                  (k_gd (o_isB (k_rd s108 0 29) = true) <|
                  k_nm (k_wr s108 0 29 (k_rd s108 0 29)) fun s125 =>
                  some ((1 : Int32), s125))) fun j108 =>
              k_if (x1 = (2 : Int32))
                (j108 x2)
                (j108 (k_rd s91 0 28))) fun j91 =>
            k_if (x1 = (1 : Int32))
              (j91 x2)
              (j91 (k_rd s74 0 27))) fun j74 =>
          k_if (x1 = (0 : Int32))
            (j74 x2)
            (j74 (k_rd σ 0 26)))) fun j56 =>
      k_if (x1 = (0 : Int32))
        (j56 (k_rd σ 0 26))
        (k_if (x1 = (1 : Int32))
          (j56 (k_rd σ 0 27))
          (k_if (x1 = (2 : Int32))
            (j56 (k_rd σ 0 28))
            (j56 (k_rd σ 0 29))))))
set_option maxHeartbeats 4000000 in
set_option maxRecDepth 100000 in
theorem e_X12_set {l : Launch} {w : k_WC} {d : Nat} (hd : 3 ≤ d) {x1 : Int32} {x2 : Int32}  {σ σ' : k_St} {r : Int32} (h : f_X12_set x1 x2 σ = some (r, σ')) : k_EI l (k_PM w) yX12_set cX12_set 3 (some .boolean) d [.ref (w.2.1 0), .int x1, .int x2] σ r σ' := by
  refine k_of (own := RX12) rfl (by decide) (Nat.le_of_ble_eq_true rfl) (fun X hX C hr => ?_)
  show k_K (k_PM w) X (k_MQ X (k_Qi (k_PM w) r σ') (k_PM w).2.2.1) 0 [(0, .ref (w.2.1 0)), (1, .int x1), (2, .int x2)] [] σ
  unfold f_X12_set at h
  refine k_aload_n C dX12_set_0 0 rfl ?_
  refine k_get C dX12_set_1 (k_gM0_21 w) k_fX12_306 (Or.inl rfl) ?_
  refine k_if_eq C dX12_set_4 (tgt := 59) (by decide) (fun c4 => ?_) (fun c4 => ?_)
  · replace h := k_if_t h c4
    refine k_iconst C dX12_set_59 (v := 0) rfl ?_
    exact k_zret C dX12_set_60 hr rfl (Option.some.inj h)
  · replace h := k_if_f h c4
    refine k_iload_n C dX12_set_7 1 rfl ?_
    refine k_iconst C dX12_set_8 (v := 0) rfl ?_
    refine k_iconst C dX12_set_9 (v := 3) rfl ?_
    obtain ⟨v10, h10, h⟩ := k_bd_e h
    refine k_goI (k_runS C dX12_set_10 (e_X12_in (d := 2) (Nat.le_refl _) h10) k_lX12_269 k_yX12_in (by omega) rfl (Nat.le_of_ble_eq_true rfl)) ?_
    refine k_if_eq C dX12_set_13 (tgt := 59) (by decide) (fun c13 => ?_) (fun c13 => ?_)
    · replace h := k_if_t h c13
      refine k_iconst C dX12_set_59 (v := 0) rfl ?_
      exact k_zret C dX12_set_60 hr rfl (Option.some.inj h)
    · replace h := k_if_f h c13
      refine k_iload_n C dX12_set_16 2 rfl ?_
      refine k_iload_n C dX12_set_17 1 rfl ?_
      obtain ⟨j56, ej56, h⟩ := k_jn_e h
      have Jj56 : ∀ (t1_56 : Int32), j56 t1_56 = some (r, σ') → k_K (k_PM w) X (k_MQ X (k_Qi (k_PM w) r σ') (k_PM w).2.2.1) 56 [(0, .ref (w.2.1 0)), (1, .int x1), (2, .int x2)] [.int t1_56, .int x2] σ := by
        intro t1_56 h
        rw [ej56] at h
        refine k_icmp_ne C dX12_set_56 (tgt := 61) (by decide) (fun c56 => ?_) (fun c56 => ?_)
        · replace h := k_if_f h c56
          refine k_aload_n C dX12_set_61 0 rfl ?_
          refine k_iload_n C dX12_set_62 1 rfl ?_
          obtain ⟨j74, ej74, h⟩ := k_jn_e h
          have Jj74 : ∀ (t1_74 : Int32), j74 t1_74 = some (r, σ') → k_K (k_PM w) X (k_MQ X (k_Qi (k_PM w) r σ') (k_PM w).2.2.1) 74 [(0, .ref (w.2.1 0)), (1, .int x1), (2, .int x2)] [.int t1_74, .ref (w.2.1 0)] σ := by
            intro t1_74 h
            rw [ej74] at h
            obtain ⟨r74, h⟩ := k_gd_e h
            refine k_puti C dX12_set_74 (k_pM0_26 w) k_fX12_315 (Or.inl rfl) (k_xz r74) ?_
            refine k_st (fun s74 es74 => ?_)
            replace h := k_nm_e h s74 es74
            refine k_aload_n C dX12_set_77 0 rfl ?_
            refine k_iload_n C dX12_set_78 1 rfl ?_
            refine k_iconst C dX12_set_79 (v := 1) rfl ?_
            obtain ⟨j91, ej91, h⟩ := k_jn_e h
            have Jj91 : ∀ (t1_91 : Int32), j91 t1_91 = some (r, σ') → k_K (k_PM w) X (k_MQ X (k_Qi (k_PM w) r σ') (k_PM w).2.2.1) 91 [(0, .ref (w.2.1 0)), (1, .int x1), (2, .int x2)] [.int t1_91, .ref (w.2.1 0)] s74 := by
              intro t1_91 h
              rw [ej91] at h
              obtain ⟨r91, h⟩ := k_gd_e h
              refine k_puti C dX12_set_91 (k_pM0_27 w) k_fX12_319 (Or.inl rfl) (k_xz r91) ?_
              refine k_st (fun s91 es91 => ?_)
              replace h := k_nm_e h s91 es91
              refine k_aload_n C dX12_set_94 0 rfl ?_
              refine k_iload_n C dX12_set_95 1 rfl ?_
              refine k_iconst C dX12_set_96 (v := 2) rfl ?_
              obtain ⟨j108, ej108, h⟩ := k_jn_e h
              have Jj108 : ∀ (t1_108 : Int32), j108 t1_108 = some (r, σ') → k_K (k_PM w) X (k_MQ X (k_Qi (k_PM w) r σ') (k_PM w).2.2.1) 108 [(0, .ref (w.2.1 0)), (1, .int x1), (2, .int x2)] [.int t1_108, .ref (w.2.1 0)] s91 := by
                intro t1_108 h
                rw [ej108] at h
                obtain ⟨r108, h⟩ := k_gd_e h
                refine k_puti C dX12_set_108 (k_pM0_28 w) k_fX12_322 (Or.inl rfl) (k_xz r108) ?_
                refine k_st (fun s108 es108 => ?_)
                replace h := k_nm_e h s108 es108
                refine k_aload_n C dX12_set_111 0 rfl ?_
                refine k_iload_n C dX12_set_112 1 rfl ?_
                refine k_iconst C dX12_set_113 (v := 3) rfl ?_
                refine k_icmp_ne C dX12_set_114 (tgt := 121) (by decide) (fun c114 => ?_) (fun c114 => ?_)
                · replace h := k_if_f h c114
                  refine k_aload_n C dX12_set_121 0 rfl ?_
                  refine k_get C dX12_set_122 (k_gM0_29 w) k_fX12_325 (Or.inl rfl) ?_
                  obtain ⟨r125, h⟩ := k_gd_e h
                  refine k_puti C dX12_set_125 (k_pM0_29 w) k_fX12_325 (Or.inl rfl) (k_xz r125) ?_
                  refine k_st (fun s125 es125 => ?_)
                  replace h := k_nm_e h s125 es125
                  refine k_iconst C dX12_set_128 (v := 1) rfl ?_
                  exact k_zret C dX12_set_129 hr rfl (Option.some.inj h)
                · replace h := k_if_t h c114
                  refine k_iload_n C dX12_set_117 2 rfl ?_
                  refine k_goto C dX12_set_118 (tgt := 125) (by decide) ?_
                  obtain ⟨r125, h⟩ := k_gd_e h
                  refine k_puti C dX12_set_125 (k_pM0_29 w) k_fX12_325 (Or.inl rfl) (k_xz r125) ?_
                  refine k_st (fun s125 es125 => ?_)
                  replace h := k_nm_e h s125 es125
                  refine k_iconst C dX12_set_128 (v := 1) rfl ?_
                  exact k_zret C dX12_set_129 hr rfl (Option.some.inj h)
              refine k_icmp_ne C dX12_set_97 (tgt := 104) (by decide) (fun c97 => ?_) (fun c97 => ?_)
              · replace h := k_if_f h c97
                refine k_aload_n C dX12_set_104 0 rfl ?_
                refine k_get C dX12_set_105 (k_gM0_28 w) k_fX12_322 (Or.inl rfl) ?_
                exact Jj108 _ h
              · replace h := k_if_t h c97
                refine k_iload_n C dX12_set_100 2 rfl ?_
                refine k_goto C dX12_set_101 (tgt := 108) (by decide) ?_
                exact Jj108 _ h
            refine k_icmp_ne C dX12_set_80 (tgt := 87) (by decide) (fun c80 => ?_) (fun c80 => ?_)
            · replace h := k_if_f h c80
              refine k_aload_n C dX12_set_87 0 rfl ?_
              refine k_get C dX12_set_88 (k_gM0_27 w) k_fX12_319 (Or.inl rfl) ?_
              exact Jj91 _ h
            · replace h := k_if_t h c80
              refine k_iload_n C dX12_set_83 2 rfl ?_
              refine k_goto C dX12_set_84 (tgt := 91) (by decide) ?_
              exact Jj91 _ h
          refine k_if_ne C dX12_set_63 (tgt := 70) (by decide) (fun c63 => ?_) (fun c63 => ?_)
          · replace h := k_if_f h c63
            refine k_aload_n C dX12_set_70 0 rfl ?_
            refine k_get C dX12_set_71 (k_gM0_26 w) k_fX12_315 (Or.inl rfl) ?_
            exact Jj74 _ h
          · replace h := k_if_t h c63
            refine k_iload_n C dX12_set_66 2 rfl ?_
            refine k_goto C dX12_set_67 (tgt := 74) (by decide) ?_
            exact Jj74 _ h
        · replace h := k_if_t h c56
          refine k_iconst C dX12_set_59 (v := 0) rfl ?_
          exact k_zret C dX12_set_60 hr rfl (Option.some.inj h)
      refine k_if_ne C dX12_set_18 (tgt := 28) (by decide) (fun c18 => ?_) (fun c18 => ?_)
      · replace h := k_if_f h c18
        refine k_iload_n C dX12_set_28 1 rfl ?_
        refine k_iconst C dX12_set_29 (v := 1) rfl ?_
        refine k_icmp_ne C dX12_set_30 (tgt := 40) (by decide) (fun c30 => ?_) (fun c30 => ?_)
        · replace h := k_if_f h c30
          refine k_iload_n C dX12_set_40 1 rfl ?_
          refine k_iconst C dX12_set_41 (v := 2) rfl ?_
          refine k_icmp_ne C dX12_set_42 (tgt := 52) (by decide) (fun c42 => ?_) (fun c42 => ?_)
          · replace h := k_if_f h c42
            refine k_aload_n C dX12_set_52 0 rfl ?_
            refine k_get C dX12_set_53 (k_gM0_29 w) k_fX12_325 (Or.inl rfl) ?_
            exact Jj56 _ h
          · replace h := k_if_t h c42
            refine k_aload_n C dX12_set_45 0 rfl ?_
            refine k_get C dX12_set_46 (k_gM0_28 w) k_fX12_322 (Or.inl rfl) ?_
            refine k_goto C dX12_set_49 (tgt := 56) (by decide) ?_
            exact Jj56 _ h
        · replace h := k_if_t h c30
          refine k_aload_n C dX12_set_33 0 rfl ?_
          refine k_get C dX12_set_34 (k_gM0_27 w) k_fX12_319 (Or.inl rfl) ?_
          refine k_goto C dX12_set_37 (tgt := 56) (by decide) ?_
          exact Jj56 _ h
      · replace h := k_if_t h c18
        refine k_aload_n C dX12_set_21 0 rfl ?_
        refine k_get C dX12_set_22 (k_gM0_26 w) k_fX12_315 (Or.inl rfl) ?_
        refine k_goto C dX12_set_25 (tgt := 56) (by decide) ?_
        exact Jj56 _ h
def f_X12_spreadOut (x0 : Int32) (x1 : Int32) (a2 : Nat) (σ : k_St) : Option (Int32 × k_St) :=
  k_bd (f_X12_in x0 (0 : Int32) (9999 : Int32)) fun v7 =>
  k_loop (fun (g15 : Int32 × Int32 × Int32 × k_St → Option (Int32 × k_St)) (z15 : Int32 × Int32 × Int32 × k_St) => match z15 with
    | (v3_15, v4_15, v5_15, s_15) =>
      k_if (v5_15 < (0 : Int32))
        (k_gd (o_isB v4_15 = true) <|
        some (v4_15, s_15))
        (k_jn (fun (t0_38 : Int32) =>
          k_gd (k_ix v5_15 (k_nM a2) = true) <|
          k_nm (k_wr s_15 a2 v5_15.toNatClampNeg (o_rem v3_15 (10 : Int32))) fun s47 =>
          k_nm ((v3_15 / (10 : Int32))) fun y52 =>
          k_nm (v5_15 + (-1 : Int32)) fun y53 =>
          g15 (y52, t0_38, y53, s47)) fun j38 =>
        k_jn (fun (_ : Unit) =>
          j38 (0 : Int32)) fun j37 =>
        k_if (v4_15 = (0 : Int32))
          (j37 ())
          (k_if (x1 ≤ (o_rem v3_15 (10 : Int32)))
            (j37 ())
            (j38 (1 : Int32))))) 100000 (x0, v7, (3 : Int32), σ)
set_option maxHeartbeats 4000000 in
set_option maxRecDepth 100000 in
theorem e_X12_spreadOut {l : Launch} {w : k_WC} {d : Nat} (hd : 3 ≤ d) {x0 : Int32} {x1 : Int32} {a2 : Nat} (ha2 : k_AI (k_PM w) .int a2 (w.2.1 a2) (k_nM a2)) {σ σ' : k_St} {r : Int32} (h : f_X12_spreadOut x0 x1 a2 σ = some (r, σ')) : k_EI l (k_PM w) yX12_spreadOut cX12_spreadOut 6 (some .boolean) d [.int x0, .int x1, .ref (w.2.1 a2)] σ r σ' := by
  refine k_of (own := RX12) rfl (by decide) (Nat.le_of_ble_eq_true rfl) (fun X hX C hr => ?_)
  show k_K (k_PM w) X (k_MQ X (k_Qi (k_PM w) r σ') (k_PM w).2.2.1) 0 [(0, .int x0), (1, .int x1), (2, .ref (w.2.1 a2))] [] σ
  unfold f_X12_spreadOut at h
  refine k_iload_n C dX12_spreadOut_0 0 rfl ?_
  refine k_istore_n C dX12_spreadOut_1 (by decide) [1, 2, 3, 0] (L' := [(0, .int x0), (1, .int x1), (2, .ref (w.2.1 a2)), (3, .int x0)]) rfl ?_
  refine k_iload_n C dX12_spreadOut_2 0 rfl ?_
  refine k_iconst C dX12_spreadOut_3 (v := 0) rfl ?_
  refine k_sipush C dX12_spreadOut_4 (v := 9999) rfl ?_
  obtain ⟨v7, h7, h⟩ := k_bd_e h
  refine k_goI (k_runS C dX12_spreadOut_7 (e_X12_in (d := 2) (Nat.le_refl _) h7) k_lX12_269 k_yX12_in (by omega) rfl (Nat.le_of_ble_eq_true rfl)) ?_
  refine k_istore C dX12_spreadOut_10 (by decide) [1, 2, 3, 4, 0] (L' := [(0, .int x0), (1, .int x1), (2, .ref (w.2.1 a2)), (3, .int x0), (4, .int v7)]) rfl ?_
  refine k_iconst C dX12_spreadOut_12 (v := 3) rfl ?_
  refine k_istore C dX12_spreadOut_13 (by decide) [1, 2, 3, 4, 5, 0] (L' := [(0, .int x0), (1, .int x1), (2, .ref (w.2.1 a2)), (3, .int x0), (4, .int v7), (5, .int (3 : Int32))]) rfl ?_
  obtain ⟨b15, eb15, h⟩ := k_lp_e h
  have K15 : ∀ (n : Nat) (v3_15 : Int32) (v4_15 : Int32) (v5_15 : Int32) (s_15 : k_St), k_loop b15 n (v3_15, v4_15, v5_15, s_15) = some (r, σ') → k_K (k_PM w) X (k_MQ X (k_Qi (k_PM w) r σ') (k_PM w).2.2.1) 15 [(1, .int x1), (2, .ref (w.2.1 a2)), (3, .int v3_15), (4, .int v4_15), (5, .int v5_15)] [] s_15 := by
    intro n
    induction n with
    | zero => intro v3_15 v4_15 v5_15 s_15 h; cases h
    | succ n ih15 =>
      intro v3_15 v4_15 v5_15 s_15 h
      obtain ⟨g15, eg15, h⟩ := k_lp_s h
      rw [← eg15] at ih15
      rw [eb15] at h
      refine k_iload C dX12_spreadOut_15 4 rfl ?_
      refine k_if_lt C dX12_spreadOut_17 (tgt := 59) (by decide) (fun c17 => ?_) (fun c17 => ?_)
      · replace h := k_if_t h c17
        refine k_iload C dX12_spreadOut_59 3 rfl ?_
        obtain ⟨gz, h⟩ := k_gd_e h
        exact k_zret C dX12_spreadOut_61 hr (k_nz gz) (Option.some.inj h)
      · replace h := k_if_f h c17
        refine k_iload C dX12_spreadOut_20 3 rfl ?_
        obtain ⟨j38, ej38, h⟩ := k_jn_e h
        have Jj38 : ∀ (t0_38 : Int32), j38 t0_38 = some (r, σ') → k_K (k_PM w) X (k_MQ X (k_Qi (k_PM w) r σ') (k_PM w).2.2.1) 38 [(1, .int x1), (2, .ref (w.2.1 a2)), (3, .int v3_15), (5, .int v5_15)] [.int t0_38] s_15 := by
          intro t0_38 h
          rw [ej38] at h
          refine k_istore C dX12_spreadOut_38 (by decide) [1, 2, 3, 0, 4] (L' := [(1, .int x1), (2, .ref (w.2.1 a2)), (3, .int v3_15), (4, .int t0_38), (5, .int v5_15)]) rfl ?_
          refine k_aload_n C dX12_spreadOut_40 1 rfl ?_
          refine k_iload C dX12_spreadOut_41 4 rfl ?_
          refine k_iload_n C dX12_spreadOut_43 2 rfl ?_
          refine k_bipush C dX12_spreadOut_44 (v := 10) rfl ?_
          refine k_irem C dX12_spreadOut_46 (by decide) ?_
          obtain ⟨q47, h⟩ := k_gd_e h
          refine k_iast C dX12_spreadOut_47 ha2 q47 ?_
          refine k_st (fun s47 es47 => ?_)
          replace h := k_nm_e h s47 es47
          refine k_iload_n C dX12_spreadOut_48 2 rfl ?_
          refine k_bipush C dX12_spreadOut_49 (v := 10) rfl ?_
          refine k_idiv C dX12_spreadOut_51 (by decide) ?_
          refine k_topi (fun y52 ey52 => ?_)
          replace h := k_nm_e h y52 ey52
          refine k_istore_n C dX12_spreadOut_52 (by decide) [1, 2, 0, 3, 4] (L' := [(1, .int x1), (2, .ref (w.2.1 a2)), (3, .int y52), (4, .int t0_38), (5, .int v5_15)]) rfl ?_
          refine k_iinc C dX12_spreadOut_53 4 rfl (v := -1) rfl (by decide) [1, 2, 3, 4, 0] (L' := fun z9 => [(1, .int x1), (2, .ref (w.2.1 a2)), (3, .int y52), (4, .int t0_38), (5, .int z9)]) (fun z9 => rfl) (fun y53 ey53 => ?_)
          replace h := k_nm_e h y53 ey53
          refine k_goto C dX12_spreadOut_56 (tgt := 15) (by decide) ?_
          exact ih15 _ _ _ _ h
        obtain ⟨j37, ej37, h⟩ := k_jn_e h
        have Jj37 : j37 () = some (r, σ') → k_K (k_PM w) X (k_MQ X (k_Qi (k_PM w) r σ') (k_PM w).2.2.1) 37 [(1, .int x1), (2, .ref (w.2.1 a2)), (3, .int v3_15), (5, .int v5_15)] [] s_15 := by
          intro  h
          rw [ej37] at h
          refine k_iconst C dX12_spreadOut_37 (v := 0) rfl ?_
          exact Jj38 _ h
        refine k_if_eq C dX12_spreadOut_22 (tgt := 37) (by decide) (fun c22 => ?_) (fun c22 => ?_)
        · replace h := k_if_t h c22
          refine k_sub (L' := [(1, .int x1), (2, .ref (w.2.1 a2)), (3, .int v3_15), (5, .int v5_15)]) [0, 1, 2, 4] rfl ?_
          exact Jj37 h
        · replace h := k_if_f h c22
          refine k_iload_n C dX12_spreadOut_25 2 rfl ?_
          refine k_bipush C dX12_spreadOut_26 (v := 10) rfl ?_
          refine k_irem C dX12_spreadOut_28 (by decide) ?_
          refine k_iload_n C dX12_spreadOut_29 0 rfl ?_
          refine k_icmp_ge C dX12_spreadOut_30 (tgt := 37) (by decide) (fun c30 => ?_) (fun c30 => ?_)
          · replace h := k_if_t h c30
            refine k_sub (L' := [(1, .int x1), (2, .ref (w.2.1 a2)), (3, .int v3_15), (5, .int v5_15)]) [0, 1, 2, 4] rfl ?_
            exact Jj37 h
          · replace h := k_if_f h c30
            refine k_iconst C dX12_spreadOut_33 (v := 1) rfl ?_
            refine k_goto C dX12_spreadOut_34 (tgt := 38) (by decide) ?_
            refine k_sub (L' := [(1, .int x1), (2, .ref (w.2.1 a2)), (3, .int v3_15), (5, .int v5_15)]) [0, 1, 2, 4] rfl ?_
            exact Jj38 _ h
  refine k_sub (L' := [(1, .int x1), (2, .ref (w.2.1 a2)), (3, .int x0), (4, .int v7), (5, .int (3 : Int32))]) [1, 2, 3, 4, 5] rfl ?_
  exact K15 _ _ _ _ _ h
def f_X12_packed (a0 : Nat) (σ : k_St) : Option (Int32) :=
  k_loop (fun (g4 : Int32 × Int32 → Option (Int32)) (z4 : Int32 × Int32) => match z4 with
    | (v1_4, v2_4) =>
      k_if ((4 : Int32) ≤ v2_4)
        (some v1_4)
        (k_gd (k_ix v2_4 (k_nM a0) = true) <|
        k_nm ((((10 : Int32) * v1_4) + (k_rd σ a0 v2_4.toNatClampNeg))) fun y17 =>
        k_nm (v2_4 + (1 : Int32)) fun y18 =>
        g4 (y17, y18))) 100000 ((0 : Int32), (0 : Int32))
set_option maxHeartbeats 4000000 in
set_option maxRecDepth 100000 in
theorem e_X12_packed {l : Launch} {w : k_WC} {d : Nat} (hd : 2 ≤ d) {a0 : Nat} (ha0 : k_AI (k_PM w) .int a0 (w.2.1 a0) (k_nM a0)) {σ : k_St} {r : Int32} (h : f_X12_packed a0 σ = some r) : k_EI l (k_PM w) yX12_packed cX12_packed 3 (some .int) d [.ref (w.2.1 a0)] σ r σ := by
  refine k_of (own := RX12) rfl (by decide) (Nat.le_of_ble_eq_true rfl) (fun X hX C hr => ?_)
  show k_K (k_PM w) X (k_MQ X (k_Qi (k_PM w) r σ) (k_PM w).2.2.1) 0 [(0, .ref (w.2.1 a0))] [] σ
  unfold f_X12_packed at h
  refine k_iconst C dX12_packed_0 (v := 0) rfl ?_
  refine k_istore_n C dX12_packed_1 (by decide) [1, 0] (L' := [(0, .ref (w.2.1 a0)), (1, .int (0 : Int32))]) rfl ?_
  refine k_iconst C dX12_packed_2 (v := 0) rfl ?_
  refine k_istore_n C dX12_packed_3 (by decide) [1, 2, 0] (L' := [(0, .ref (w.2.1 a0)), (1, .int (0 : Int32)), (2, .int (0 : Int32))]) rfl ?_
  obtain ⟨b4, eb4, h⟩ := k_lp_e h
  have K4 : ∀ (n : Nat) (v1_4 : Int32) (v2_4 : Int32), k_loop b4 n (v1_4, v2_4) = some r → k_K (k_PM w) X (k_MQ X (k_Qi (k_PM w) r σ) (k_PM w).2.2.1) 4 [(0, .ref (w.2.1 a0)), (1, .int v1_4), (2, .int v2_4)] [] σ := by
    intro n
    induction n with
    | zero => intro v1_4 v2_4 h; cases h
    | succ n ih4 =>
      intro v1_4 v2_4 h
      obtain ⟨g4, eg4, h⟩ := k_lp_s h
      rw [← eg4] at ih4
      rw [eb4] at h
      refine k_iload_n C dX12_packed_4 2 rfl ?_
      refine k_iconst C dX12_packed_5 (v := 4) rfl ?_
      refine k_icmp_ge C dX12_packed_6 (tgt := 24) (by decide) (fun c6 => ?_) (fun c6 => ?_)
      · replace h := k_if_t h c6
        refine k_iload_n C dX12_packed_24 1 rfl ?_
        exact k_iret C dX12_packed_25 hr (k_p1 h)
      · replace h := k_if_f h c6
        refine k_bipush C dX12_packed_9 (v := 10) rfl ?_
        refine k_iload_n C dX12_packed_11 1 rfl ?_
        refine k_imul C dX12_packed_12 ?_
        refine k_aload_n C dX12_packed_13 0 rfl ?_
        refine k_iload_n C dX12_packed_14 2 rfl ?_
        obtain ⟨q15, h⟩ := k_gd_e h
        refine k_iald C dX12_packed_15 ha0 q15 ?_
        refine k_iadd C dX12_packed_16 ?_
        refine k_topi (fun y17 ey17 => ?_)
        replace h := k_nm_e h y17 ey17
        refine k_istore_n C dX12_packed_17 (by decide) [1, 0, 2] (L' := [(0, .ref (w.2.1 a0)), (1, .int y17), (2, .int v2_4)]) rfl ?_
        refine k_iinc C dX12_packed_18 2 rfl (v := 1) rfl (by decide) [1, 2, 0] (L' := fun z9 => [(0, .ref (w.2.1 a0)), (1, .int y17), (2, .int z9)]) (fun z9 => rfl) (fun y18 ey18 => ?_)
        replace h := k_nm_e h y18 ey18
        refine k_goto C dX12_packed_21 (tgt := 4) (by decide) ?_
        exact ih4 _ _ h
  exact K4 _ _ _ h
def f_X12_tugs (x1 : Int32) (σ : k_St) : Option (Int32 × k_St) :=
  k_if ((k_rd σ 0 21) = (0 : Int32))
    (some ((0 : Int32), σ))
    (k_b2 (f_X12_spreadOut x1 (k_rd σ 0 22) 16 σ) fun v16 s16 =>
    k_if (v16 = (0 : Int32))
      (some ((0 : Int32), s16))
      (k_b2 (f_X12_spreadOut x1 (k_rd s16 0 22) 14 s16) fun v33 s33 =>
      some ((1 : Int32), s33)))
set_option maxHeartbeats 4000000 in
set_option maxRecDepth 100000 in
theorem e_X12_tugs {l : Launch} {w : k_WC} {d : Nat} (hd : 4 ≤ d) {x1 : Int32}  {σ σ' : k_St} {r : Int32} (h : f_X12_tugs x1 σ = some (r, σ')) : k_EI l (k_PM w) yX12_tugs cX12_tugs 2 (some .boolean) d [.ref (w.2.1 0), .int x1] σ r σ' := by
  refine k_of (own := RX12) rfl (by decide) (Nat.le_of_ble_eq_true rfl) (fun X hX C hr => ?_)
  show k_K (k_PM w) X (k_MQ X (k_Qi (k_PM w) r σ') (k_PM w).2.2.1) 0 [(0, .ref (w.2.1 0)), (1, .int x1)] [] σ
  unfold f_X12_tugs at h
  refine k_aload_n C dX12_tugs_0 0 rfl ?_
  refine k_get C dX12_tugs_1 (k_gM0_21 w) k_fX12_306 (Or.inl rfl) ?_
  refine k_if_eq C dX12_tugs_4 (tgt := 22) (by decide) (fun c4 => ?_) (fun c4 => ?_)
  · replace h := k_if_t h c4
    refine k_iconst C dX12_tugs_22 (v := 0) rfl ?_
    exact k_zret C dX12_tugs_23 hr rfl (Option.some.inj h)
  · replace h := k_if_f h c4
    refine k_iload_n C dX12_tugs_7 1 rfl ?_
    refine k_aload_n C dX12_tugs_8 0 rfl ?_
    refine k_get C dX12_tugs_9 (k_gM0_22 w) k_fX12_309 (Or.inl rfl) ?_
    refine k_aload_n C dX12_tugs_12 0 rfl ?_
    refine k_get C dX12_tugs_13 (k_gM0_31 w) k_fX12_59 (Or.inl rfl) ?_
    obtain ⟨v16, s16, h16, h⟩ := k_b2_e h
    refine k_goI (k_runS C dX12_tugs_16 (e_X12_spreadOut (d := 3) (Nat.le_refl _) (k_aM16 w) h16) k_lX12_359 k_yX12_spreadOut (by omega) rfl (Nat.le_of_ble_eq_true rfl)) ?_
    refine k_if_ne C dX12_tugs_19 (tgt := 24) (by decide) (fun c19 => ?_) (fun c19 => ?_)
    · replace h := k_if_f h c19
      refine k_iload_n C dX12_tugs_24 1 rfl ?_
      refine k_aload_n C dX12_tugs_25 0 rfl ?_
      refine k_get C dX12_tugs_26 (k_gM0_22 w) k_fX12_309 (Or.inl rfl) ?_
      refine k_aload_n C dX12_tugs_29 0 rfl ?_
      refine k_get C dX12_tugs_30 (k_gM0_24 w) k_fX12_49 (Or.inl rfl) ?_
      obtain ⟨v33, s33, h33, h⟩ := k_b2_e h
      refine k_goI (k_runS C dX12_tugs_33 (e_X12_spreadOut (d := 3) (Nat.le_refl _) (k_aM14 w) h33) k_lX12_359 k_yX12_spreadOut (by omega) rfl (Nat.le_of_ble_eq_true rfl)) ?_
      refine k_pop C dX12_tugs_36 rfl ?_
      refine k_iconst C dX12_tugs_37 (v := 1) rfl ?_
      exact k_zret C dX12_tugs_38 hr rfl (Option.some.inj h)
    · replace h := k_if_t h c19
      refine k_iconst C dX12_tugs_22 (v := 0) rfl ?_
      exact k_zret C dX12_tugs_23 hr rfl (Option.some.inj h)
def f_X12_isThrow (x1 : Int32) (x2 : Int32) (σ : k_St) : Option (Int32) :=
  k_if ((k_rd σ 0 21) ≤ (0 : Int32))
    (some (0 : Int32))
    (k_bd (f_X12_in x1 (0 : Int32) (3 : Int32)) fun v10 =>
    k_if (v10 = (0 : Int32))
      (some (0 : Int32))
      (k_bd (f_X12_in x2 (0 : Int32) ((k_rd σ 0 22) - (1 : Int32))) fun v24 =>
      k_if (v24 = (0 : Int32))
        (some (0 : Int32))
        (some (1 : Int32))))
set_option maxHeartbeats 4000000 in
set_option maxRecDepth 100000 in
theorem e_X12_isThrow {l : Launch} {w : k_WC} {d : Nat} (hd : 3 ≤ d) {x1 : Int32} {x2 : Int32}  {σ : k_St} {r : Int32} (h : f_X12_isThrow x1 x2 σ = some r) : k_EI l (k_PM w) yX12_isThrow cX12_isThrow 3 (some .boolean) d [.ref (w.2.1 0), .int x1, .int x2] σ r σ := by
  refine k_of (own := RX12) rfl (by decide) (Nat.le_of_ble_eq_true rfl) (fun X hX C hr => ?_)
  show k_K (k_PM w) X (k_MQ X (k_Qi (k_PM w) r σ) (k_PM w).2.2.1) 0 [(0, .ref (w.2.1 0)), (1, .int x1), (2, .int x2)] [] σ
  unfold f_X12_isThrow at h
  refine k_aload_n C dX12_isThrow_0 0 rfl ?_
  refine k_get C dX12_isThrow_1 (k_gM0_21 w) k_fX12_306 (Or.inl rfl) ?_
  refine k_if_le C dX12_isThrow_4 (tgt := 34) (by decide) (fun c4 => ?_) (fun c4 => ?_)
  · replace h := k_if_t h c4
    refine k_iconst C dX12_isThrow_34 (v := 0) rfl ?_
    exact k_zret C dX12_isThrow_35 hr rfl (k_p1 h)
  · replace h := k_if_f h c4
    refine k_iload_n C dX12_isThrow_7 1 rfl ?_
    refine k_iconst C dX12_isThrow_8 (v := 0) rfl ?_
    refine k_iconst C dX12_isThrow_9 (v := 3) rfl ?_
    obtain ⟨v10, h10, h⟩ := k_bd_e h
    refine k_goI (k_runS C dX12_isThrow_10 (e_X12_in (d := 2) (Nat.le_refl _) h10) k_lX12_269 k_yX12_in (by omega) rfl (Nat.le_of_ble_eq_true rfl)) ?_
    refine k_if_eq C dX12_isThrow_13 (tgt := 34) (by decide) (fun c13 => ?_) (fun c13 => ?_)
    · replace h := k_if_t h c13
      refine k_iconst C dX12_isThrow_34 (v := 0) rfl ?_
      exact k_zret C dX12_isThrow_35 hr rfl (k_p1 h)
    · replace h := k_if_f h c13
      refine k_iload_n C dX12_isThrow_16 2 rfl ?_
      refine k_iconst C dX12_isThrow_17 (v := 0) rfl ?_
      refine k_aload_n C dX12_isThrow_18 0 rfl ?_
      refine k_get C dX12_isThrow_19 (k_gM0_22 w) k_fX12_309 (Or.inl rfl) ?_
      refine k_iconst C dX12_isThrow_22 (v := 1) rfl ?_
      refine k_isub C dX12_isThrow_23 ?_
      obtain ⟨v24, h24, h⟩ := k_bd_e h
      refine k_goI (k_runS C dX12_isThrow_24 (e_X12_in (d := 2) (Nat.le_refl _) h24) k_lX12_269 k_yX12_in (by omega) rfl (Nat.le_of_ble_eq_true rfl)) ?_
      refine k_if_eq C dX12_isThrow_27 (tgt := 34) (by decide) (fun c27 => ?_) (fun c27 => ?_)
      · replace h := k_if_t h c27
        refine k_iconst C dX12_isThrow_34 (v := 0) rfl ?_
        exact k_zret C dX12_isThrow_35 hr rfl (k_p1 h)
      · replace h := k_if_f h c27
        refine k_iconst C dX12_isThrow_30 (v := 1) rfl ?_
        refine k_goto C dX12_isThrow_31 (tgt := 35) (by decide) ?_
        exact k_zret C dX12_isThrow_35 hr rfl (k_p1 h)
def f_X12_throwTo (x1 : Int32) (x2 : Int32) (x3 : Int32) (σ : k_St) : Option (Int32 × k_St) :=
  k_bd (f_X12_isThrow x1 x2 σ) fun v3 =>
  k_if (v3 = (0 : Int32))
    (some ((0 : Int32), σ))
    (k_bd (f_X12_isPlace x3 σ) fun v11 =>
    k_if (v11 = (0 : Int32))
      (some ((0 : Int32), σ))
      (k_gd (k_ix (((4 : Int32) * x1) + x2) 16 = true) <|
      k_nm (k_wr σ 15 (((4 : Int32) * x1) + x2).toNatClampNeg x3) fun s29 =>
      some ((1 : Int32), s29)))
set_option maxHeartbeats 4000000 in
set_option maxRecDepth 100000 in
theorem e_X12_throwTo {l : Launch} {w : k_WC} {d : Nat} (hd : 4 ≤ d) {x1 : Int32} {x2 : Int32} {x3 : Int32}  {σ σ' : k_St} {r : Int32} (h : f_X12_throwTo x1 x2 x3 σ = some (r, σ')) : k_EI l (k_PM w) yX12_throwTo cX12_throwTo 4 (some .boolean) d [.ref (w.2.1 0), .int x1, .int x2, .int x3] σ r σ' := by
  refine k_of (own := RX12) rfl (by decide) (Nat.le_of_ble_eq_true rfl) (fun X hX C hr => ?_)
  show k_K (k_PM w) X (k_MQ X (k_Qi (k_PM w) r σ') (k_PM w).2.2.1) 0 [(0, .ref (w.2.1 0)), (1, .int x1), (2, .int x2), (3, .int x3)] [] σ
  unfold f_X12_throwTo at h
  refine k_aload_n C dX12_throwTo_0 0 rfl ?_
  refine k_iload_n C dX12_throwTo_1 1 rfl ?_
  refine k_iload_n C dX12_throwTo_2 2 rfl ?_
  obtain ⟨v3, h3, h⟩ := k_bd_e h
  refine k_goI (k_runV C dX12_throwTo_3 (e_X12_isThrow (d := 3) (Nat.le_refl _) h3) k_lX12_363 k_yX12_isThrow (k_oM0 w) (by omega) rfl (Nat.le_of_ble_eq_true rfl)) ?_
  refine k_if_eq C dX12_throwTo_6 (tgt := 17) (by decide) (fun c6 => ?_) (fun c6 => ?_)
  · replace h := k_if_t h c6
    refine k_iconst C dX12_throwTo_17 (v := 0) rfl ?_
    exact k_zret C dX12_throwTo_18 hr rfl (Option.some.inj h)
  · replace h := k_if_f h c6
    refine k_aload_n C dX12_throwTo_9 0 rfl ?_
    refine k_iload_n C dX12_throwTo_10 3 rfl ?_
    obtain ⟨v11, h11, h⟩ := k_bd_e h
    refine k_goI (k_runV C dX12_throwTo_11 (e_X12_isPlace (d := 3) (Nat.le_refl _) h11) k_lX12_353 k_yX12_isPlace (k_oM0 w) (by omega) rfl (Nat.le_of_ble_eq_true rfl)) ?_
    refine k_if_ne C dX12_throwTo_14 (tgt := 19) (by decide) (fun c14 => ?_) (fun c14 => ?_)
    · replace h := k_if_f h c14
      refine k_aload_n C dX12_throwTo_19 0 rfl ?_
      refine k_get C dX12_throwTo_20 (k_gM0_25 w) k_fX12_52 (Or.inl rfl) ?_
      refine k_iconst C dX12_throwTo_23 (v := 4) rfl ?_
      refine k_iload_n C dX12_throwTo_24 1 rfl ?_
      refine k_imul C dX12_throwTo_25 ?_
      refine k_iload_n C dX12_throwTo_26 2 rfl ?_
      refine k_iadd C dX12_throwTo_27 ?_
      refine k_iload_n C dX12_throwTo_28 3 rfl ?_
      obtain ⟨q29, h⟩ := k_gd_e h
      refine k_iast C dX12_throwTo_29 (k_aM15 w) q29 ?_
      refine k_st (fun s29 es29 => ?_)
      replace h := k_nm_e h s29 es29
      refine k_iconst C dX12_throwTo_30 (v := 1) rfl ?_
      exact k_zret C dX12_throwTo_31 hr rfl (Option.some.inj h)
    · replace h := k_if_t h c14
      refine k_iconst C dX12_throwTo_17 (v := 0) rfl ?_
      exact k_zret C dX12_throwTo_18 hr rfl (Option.some.inj h)
def f_X12_thrown_ (x1 : Int32) (x2 : Int32) (σ : k_St) : Option (Int32) :=
  k_bd (f_X12_isThrow x1 x2 σ) fun v3 =>
  k_if (v3 = (0 : Int32))
    (some (-1 : Int32))
    (k_gd (k_ix (((4 : Int32) * x1) + x2) 16 = true) <|
    some (k_rd σ 15 (((4 : Int32) * x1) + x2).toNatClampNeg))
set_option maxHeartbeats 4000000 in
set_option maxRecDepth 100000 in
theorem e_X12_thrown_ {l : Launch} {w : k_WC} {d : Nat} (hd : 4 ≤ d) {x1 : Int32} {x2 : Int32}  {σ : k_St} {r : Int32} (h : f_X12_thrown_ x1 x2 σ = some r) : k_EI l (k_PM w) yX12_thrown_ cX12_thrown_ 3 (some .int) d [.ref (w.2.1 0), .int x1, .int x2] σ r σ := by
  refine k_of (own := RX12) rfl (by decide) (Nat.le_of_ble_eq_true rfl) (fun X hX C hr => ?_)
  show k_K (k_PM w) X (k_MQ X (k_Qi (k_PM w) r σ) (k_PM w).2.2.1) 0 [(0, .ref (w.2.1 0)), (1, .int x1), (2, .int x2)] [] σ
  unfold f_X12_thrown_ at h
  refine k_aload_n C dX12_thrown__0 0 rfl ?_
  refine k_iload_n C dX12_thrown__1 1 rfl ?_
  refine k_iload_n C dX12_thrown__2 2 rfl ?_
  obtain ⟨v3, h3, h⟩ := k_bd_e h
  refine k_goI (k_runV C dX12_thrown__3 (e_X12_isThrow (d := 3) (Nat.le_refl _) h3) k_lX12_363 k_yX12_isThrow (k_oM0 w) (by omega) rfl (Nat.le_of_ble_eq_true rfl)) ?_
  refine k_if_eq C dX12_thrown__6 (tgt := 22) (by decide) (fun c6 => ?_) (fun c6 => ?_)
  · replace h := k_if_t h c6
    refine k_iconst C dX12_thrown__22 (v := -1) rfl ?_
    exact k_iret C dX12_thrown__23 hr (k_p1 h)
  · replace h := k_if_f h c6
    refine k_aload_n C dX12_thrown__9 0 rfl ?_
    refine k_get C dX12_thrown__10 (k_gM0_25 w) k_fX12_52 (Or.inl rfl) ?_
    refine k_iconst C dX12_thrown__13 (v := 4) rfl ?_
    refine k_iload_n C dX12_thrown__14 1 rfl ?_
    refine k_imul C dX12_thrown__15 ?_
    refine k_iload_n C dX12_thrown__16 2 rfl ?_
    refine k_iadd C dX12_thrown__17 ?_
    obtain ⟨q18, h⟩ := k_gd_e h
    refine k_iald C dX12_thrown__18 (k_aM15 w) q18 ?_
    refine k_goto C dX12_thrown__19 (tgt := 23) (by decide) ?_
    exact k_iret C dX12_thrown__23 hr (k_p1 h)
def f_X12_heard (x1 : Int32) (σ : k_St) : Option (Int32) :=
  k_if ((k_rd σ 0 27) = (0 : Int32))
    (k_bd (f_X12_of x1 (1 : Int32) σ) fun v14 =>
    some v14)
    (some (0 : Int32))
set_option maxHeartbeats 4000000 in
set_option maxRecDepth 100000 in
theorem e_X12_heard {l : Launch} {w : k_WC} {d : Nat} (hd : 3 ≤ d) {x1 : Int32}  {σ : k_St} {r : Int32} (h : f_X12_heard x1 σ = some r) : k_EI l (k_PM w) yX12_heard cX12_heard 2 (some .int) d [.ref (w.2.1 0), .int x1] σ r σ := by
  refine k_of (own := RX12) rfl (by decide) (Nat.le_of_ble_eq_true rfl) (fun X hX C hr => ?_)
  show k_K (k_PM w) X (k_MQ X (k_Qi (k_PM w) r σ) (k_PM w).2.2.1) 0 [(0, .ref (w.2.1 0)), (1, .int x1)] [] σ
  unfold f_X12_heard at h
  refine k_aload_n C dX12_heard_0 0 rfl ?_
  refine k_get C dX12_heard_1 (k_gM0_27 w) k_fX12_319 (Or.inl rfl) ?_
  refine k_if_eq C dX12_heard_4 (tgt := 11) (by decide) (fun c4 => ?_) (fun c4 => ?_)
  · replace h := k_if_t h c4
    refine k_aload_n C dX12_heard_11 0 rfl ?_
    refine k_iload_n C dX12_heard_12 1 rfl ?_
    refine k_iconst C dX12_heard_13 (v := 1) rfl ?_
    obtain ⟨v14, h14, h⟩ := k_bd_e h
    refine k_goI (k_runV C dX12_heard_14 (e_X12_of (d := 2) (Nat.le_refl _) h14) k_lX12_343 k_yX12_of (k_oM0 w) (by omega) rfl (Nat.le_of_ble_eq_true rfl)) ?_
    exact k_iret C dX12_heard_17 hr (k_p1 h)
  · replace h := k_if_f h c4
    refine k_iconst C dX12_heard_7 (v := 0) rfl ?_
    refine k_goto C dX12_heard_8 (tgt := 17) (by decide) ?_
    exact k_iret C dX12_heard_17 hr (k_p1 h)
def f_X12_seenAt (x1 : Int32) (σ : k_St) : Option (Int32) :=
  k_if ((k_rd σ 0 26) = (0 : Int32))
    (k_bd (f_X12_of x1 (2 : Int32) σ) fun v14 =>
    some v14)
    (some (0 : Int32))
set_option maxHeartbeats 4000000 in
set_option maxRecDepth 100000 in
theorem e_X12_seenAt {l : Launch} {w : k_WC} {d : Nat} (hd : 3 ≤ d) {x1 : Int32}  {σ : k_St} {r : Int32} (h : f_X12_seenAt x1 σ = some r) : k_EI l (k_PM w) yX12_seenAt cX12_seenAt 2 (some .int) d [.ref (w.2.1 0), .int x1] σ r σ := by
  refine k_of (own := RX12) rfl (by decide) (Nat.le_of_ble_eq_true rfl) (fun X hX C hr => ?_)
  show k_K (k_PM w) X (k_MQ X (k_Qi (k_PM w) r σ) (k_PM w).2.2.1) 0 [(0, .ref (w.2.1 0)), (1, .int x1)] [] σ
  unfold f_X12_seenAt at h
  refine k_aload_n C dX12_seenAt_0 0 rfl ?_
  refine k_get C dX12_seenAt_1 (k_gM0_26 w) k_fX12_315 (Or.inl rfl) ?_
  refine k_if_eq C dX12_seenAt_4 (tgt := 11) (by decide) (fun c4 => ?_) (fun c4 => ?_)
  · replace h := k_if_t h c4
    refine k_aload_n C dX12_seenAt_11 0 rfl ?_
    refine k_iload_n C dX12_seenAt_12 1 rfl ?_
    refine k_iconst C dX12_seenAt_13 (v := 2) rfl ?_
    obtain ⟨v14, h14, h⟩ := k_bd_e h
    refine k_goI (k_runV C dX12_seenAt_14 (e_X12_of (d := 2) (Nat.le_refl _) h14) k_lX12_343 k_yX12_of (k_oM0 w) (by omega) rfl (Nat.le_of_ble_eq_true rfl)) ?_
    exact k_iret C dX12_seenAt_17 hr (k_p1 h)
  · replace h := k_if_f h c4
    refine k_iconst C dX12_seenAt_7 (v := 0) rfl ?_
    refine k_goto C dX12_seenAt_8 (tgt := 17) (by decide) ?_
    exact k_iret C dX12_seenAt_17 hr (k_p1 h)
def f_X12_layBrings (a1 : Nat) (σ : k_St) : Option (k_St) :=
  k_loop (fun (g2 : Int32 × k_St → Option (k_St)) (z2 : Int32 × k_St) => match z2 with
    | (v2_2, s_2) =>
      k_if ((96 : Int32) ≤ v2_2)
        (k_loop (fun (g23 : Int32 × k_St → Option (k_St)) (z23 : Int32 × k_St) => match z23 with
          | (v2_23, s_23) =>
            k_if ((k_rd s_23 0 21) ≤ v2_23)
              (some s_23)
              (k_bd (f_X12_heard v2_23 s_23) fun v34 =>
              k_gd (k_ix v34 (k_nM a1) = true) <|
              k_nm ((k_rd s_23 a1 v34.toNatClampNeg)) fun y38 =>
              k_bd (f_X12_seenAt v2_23 s_23) fun v41 =>
              k_bd (f_X12_of v2_23 (0 : Int32) s_23) fun v49 =>
              k_b2 (f_X12_worthAt v2_23 s_23) fun v54 s54 =>
              k_nm ((v49 * v54)) fun y58 =>
              k_jn (fun (t0_72 : Int32) =>
                k_nm ((((6 : Int32) * (((4 : Int32) * v41) + y38)) + v2_23)) fun y89 =>
                k_gd (k_ix y89 96 = true) <|
                k_gd (k_ix y89 96 = true) <|
                k_nm (k_wr s54 17 y89.toNatClampNeg ((k_rd s54 17 y89.toNatClampNeg) + (y58 * ((100 : Int32) - t0_72)))) fun s100 =>
                k_nm ((((6 : Int32) * ((4 : Int32) * v41)) + v2_23)) fun y114 =>
                k_gd (k_ix y114 96 = true) <|
                k_gd (k_ix y114 96 = true) <|
                k_nm (k_wr s100 17 y114.toNatClampNeg ((k_rd s100 17 y114.toNatClampNeg) + (y58 * t0_72))) fun s122 =>
                k_nm (v2_23 + (1 : Int32)) fun y123 =>
                g23 (y123, s122)) fun j72 =>
              k_if (y38 = (0 : Int32))
                (j72 (0 : Int32))
                (j72 (k_rd s54 0 23)))) 100000 ((0 : Int32), s_2))
        (k_gd (k_ix v2_2 96 = true) <|
        k_nm (k_wr s_2 17 v2_2.toNatClampNeg (0 : Int32)) fun s14 =>
        k_nm (v2_2 + (1 : Int32)) fun y15 =>
        g2 (y15, s14))) 100000 ((0 : Int32), σ)
set_option maxHeartbeats 4000000 in
set_option maxRecDepth 100000 in
theorem e_X12_layBrings {l : Launch} {w : k_WC} {d : Nat} (hd : 8 ≤ d) {a1 : Nat} (ha1 : k_AI (k_PM w) .int a1 (w.2.1 a1) (k_nM a1)) {σ σ' : k_St} (h : f_X12_layBrings a1 σ = some σ') : k_EV l (k_PM w) yX12_layBrings cX12_layBrings 7 d [.ref (w.2.1 0), .ref (w.2.1 a1)] σ σ' := by
  refine k_of (own := RX12) rfl (by decide) (Nat.le_of_ble_eq_true rfl) (fun X hX C hr => ?_)
  show k_K (k_PM w) X (k_MQ X (k_Qv (k_PM w) σ') (k_PM w).2.2.1) 0 [(0, .ref (w.2.1 0)), (1, .ref (w.2.1 a1))] [] σ
  unfold f_X12_layBrings at h
  refine k_iconst C dX12_layBrings_0 (v := 0) rfl ?_
  refine k_istore_n C dX12_layBrings_1 (by decide) [1, 2, 0] (L' := [(0, .ref (w.2.1 0)), (1, .ref (w.2.1 a1)), (2, .int (0 : Int32))]) rfl ?_
  obtain ⟨b2, eb2, h⟩ := k_lp_e h
  have K2 : ∀ (n : Nat) (v2_2 : Int32) (s_2 : k_St), k_loop b2 n (v2_2, s_2) = some σ' → k_K (k_PM w) X (k_MQ X (k_Qv (k_PM w) σ') (k_PM w).2.2.1) 2 [(0, .ref (w.2.1 0)), (1, .ref (w.2.1 a1)), (2, .int v2_2)] [] s_2 := by
    intro n
    induction n with
    | zero => intro v2_2 s_2 h; cases h
    | succ n ih2 =>
      intro v2_2 s_2 h
      obtain ⟨g2, eg2, h⟩ := k_lp_s h
      rw [← eg2] at ih2
      rw [eb2] at h
      refine k_iload_n C dX12_layBrings_2 2 rfl ?_
      refine k_bipush C dX12_layBrings_3 (v := 96) rfl ?_
      refine k_icmp_ge C dX12_layBrings_5 (tgt := 21) (by decide) (fun c5 => ?_) (fun c5 => ?_)
      · replace h := k_if_t h c5
        refine k_iconst C dX12_layBrings_21 (v := 0) rfl ?_
        refine k_istore_n C dX12_layBrings_22 (by decide) [1, 2, 0] (L' := [(0, .ref (w.2.1 0)), (1, .ref (w.2.1 a1)), (2, .int (0 : Int32))]) rfl ?_
        obtain ⟨b23, eb23, h⟩ := k_lp_e h
        have K23 : ∀ (n : Nat) (v2_23 : Int32) (s_23 : k_St), k_loop b23 n (v2_23, s_23) = some σ' → k_K (k_PM w) X (k_MQ X (k_Qv (k_PM w) σ') (k_PM w).2.2.1) 23 [(0, .ref (w.2.1 0)), (1, .ref (w.2.1 a1)), (2, .int v2_23)] [] s_23 := by
          intro n
          induction n with
          | zero => intro v2_23 s_23 h; cases h
          | succ n ih23 =>
            intro v2_23 s_23 h
            obtain ⟨g23, eg23, h⟩ := k_lp_s h
            rw [← eg23] at ih23
            rw [eb23] at h
            refine k_iload_n C dX12_layBrings_23 2 rfl ?_
            refine k_aload_n C dX12_layBrings_24 0 rfl ?_
            refine k_get C dX12_layBrings_25 (k_gM0_21 w) k_fX12_306 (Or.inl rfl) ?_
            refine k_icmp_ge C dX12_layBrings_28 (tgt := 129) (by decide) (fun c28 => ?_) (fun c28 => ?_)
            · replace h := k_if_t h c28
              exact k_vret C dX12_layBrings_129 hr (Option.some.inj h)
            · replace h := k_if_f h c28
              refine k_aload_n C dX12_layBrings_31 1 rfl ?_
              refine k_aload_n C dX12_layBrings_32 0 rfl ?_
              refine k_iload_n C dX12_layBrings_33 2 rfl ?_
              obtain ⟨v34, h34, h⟩ := k_bd_e h
              refine k_goI (k_runV C dX12_layBrings_34 (e_X12_heard (d := 3) (Nat.le_refl _) h34) k_lX12_366 k_yX12_heard (k_oM0 w) (by omega) rfl (Nat.le_of_ble_eq_true rfl)) ?_
              obtain ⟨q37, h⟩ := k_gd_e h
              refine k_iald C dX12_layBrings_37 ha1 q37 ?_
              refine k_topi (fun y38 ey38 => ?_)
              replace h := k_nm_e h y38 ey38
              refine k_istore_n C dX12_layBrings_38 (by decide) [1, 2, 3, 0] (L' := [(0, .ref (w.2.1 0)), (1, .ref (w.2.1 a1)), (2, .int v2_23), (3, .int y38)]) rfl ?_
              refine k_aload_n C dX12_layBrings_39 0 rfl ?_
              refine k_iload_n C dX12_layBrings_40 2 rfl ?_
              obtain ⟨v41, h41, h⟩ := k_bd_e h
              refine k_goI (k_runV C dX12_layBrings_41 (e_X12_seenAt (d := 3) (Nat.le_refl _) h41) k_lX12_369 k_yX12_seenAt (k_oM0 w) (by omega) rfl (Nat.le_of_ble_eq_true rfl)) ?_
              refine k_istore C dX12_layBrings_44 (by decide) [1, 2, 3, 4, 0] (L' := [(0, .ref (w.2.1 0)), (1, .ref (w.2.1 a1)), (2, .int v2_23), (3, .int y38), (4, .int v41)]) rfl ?_
              refine k_aload_n C dX12_layBrings_46 0 rfl ?_
              refine k_iload_n C dX12_layBrings_47 2 rfl ?_
              refine k_iconst C dX12_layBrings_48 (v := 0) rfl ?_
              obtain ⟨v49, h49, h⟩ := k_bd_e h
              refine k_goI (k_runV C dX12_layBrings_49 (e_X12_of (d := 2) (Nat.le_refl _) h49) k_lX12_343 k_yX12_of (k_oM0 w) (by omega) rfl (Nat.le_of_ble_eq_true rfl)) ?_
              refine k_aload_n C dX12_layBrings_52 0 rfl ?_
              refine k_iload_n C dX12_layBrings_53 2 rfl ?_
              obtain ⟨v54, s54, h54, h⟩ := k_b2_e h
              refine k_goI (k_runV C dX12_layBrings_54 (e_X12_worthAt (d := 7) (Nat.le_refl _) h54) k_lX12_356 k_yX12_worthAt (k_oM0 w) (by omega) rfl (Nat.le_of_ble_eq_true rfl)) ?_
              refine k_imul C dX12_layBrings_57 ?_
              refine k_topi (fun y58 ey58 => ?_)
              replace h := k_nm_e h y58 ey58
              refine k_istore C dX12_layBrings_58 (by decide) [1, 2, 3, 4, 5, 0] (L' := [(0, .ref (w.2.1 0)), (1, .ref (w.2.1 a1)), (2, .int v2_23), (3, .int y38), (4, .int v41), (5, .int y58)]) rfl ?_
              refine k_iload_n C dX12_layBrings_60 3 rfl ?_
              obtain ⟨j72, ej72, h⟩ := k_jn_e h
              have Jj72 : ∀ (t0_72 : Int32), j72 t0_72 = some σ' → k_K (k_PM w) X (k_MQ X (k_Qv (k_PM w) σ') (k_PM w).2.2.1) 72 [(0, .ref (w.2.1 0)), (1, .ref (w.2.1 a1)), (2, .int v2_23), (3, .int y38), (4, .int v41), (5, .int y58)] [.int t0_72] s54 := by
                intro t0_72 h
                rw [ej72] at h
                refine k_istore C dX12_layBrings_72 (by decide) [1, 2, 3, 4, 5, 6, 0] (L' := [(0, .ref (w.2.1 0)), (1, .ref (w.2.1 a1)), (2, .int v2_23), (3, .int y38), (4, .int v41), (5, .int y58), (6, .int t0_72)]) rfl ?_
                refine k_aload_n C dX12_layBrings_74 0 rfl ?_
                refine k_get C dX12_layBrings_75 (k_gM0_32 w) k_fX12_62 (Or.inl rfl) ?_
                refine k_bipush C dX12_layBrings_78 (v := 6) rfl ?_
                refine k_iconst C dX12_layBrings_80 (v := 4) rfl ?_
                refine k_iload C dX12_layBrings_81 4 rfl ?_
                refine k_imul C dX12_layBrings_83 ?_
                refine k_iload_n C dX12_layBrings_84 3 rfl ?_
                refine k_iadd C dX12_layBrings_85 ?_
                refine k_imul C dX12_layBrings_86 ?_
                refine k_iload_n C dX12_layBrings_87 2 rfl ?_
                refine k_iadd C dX12_layBrings_88 ?_
                refine k_topi (fun y89 ey89 => ?_)
                replace h := k_nm_e h y89 ey89
                refine k_dup2 C dX12_layBrings_89 rfl rfl ?_
                obtain ⟨q90, h⟩ := k_gd_e h
                refine k_iald C dX12_layBrings_90 (k_aM17 w) q90 ?_
                refine k_iload C dX12_layBrings_91 5 rfl ?_
                refine k_bipush C dX12_layBrings_93 (v := 100) rfl ?_
                refine k_iload C dX12_layBrings_95 6 rfl ?_
                refine k_isub C dX12_layBrings_97 ?_
                refine k_imul C dX12_layBrings_98 ?_
                refine k_iadd C dX12_layBrings_99 ?_
                obtain ⟨q100, h⟩ := k_gd_e h
                refine k_iast C dX12_layBrings_100 (k_aM17 w) q100 ?_
                refine k_st (fun s100 es100 => ?_)
                replace h := k_nm_e h s100 es100
                refine k_aload_n C dX12_layBrings_101 0 rfl ?_
                refine k_get C dX12_layBrings_102 (k_gM0_32 w) k_fX12_62 (Or.inl rfl) ?_
                refine k_bipush C dX12_layBrings_105 (v := 6) rfl ?_
                refine k_iconst C dX12_layBrings_107 (v := 4) rfl ?_
                refine k_iload C dX12_layBrings_108 4 rfl ?_
                refine k_imul C dX12_layBrings_110 ?_
                refine k_imul C dX12_layBrings_111 ?_
                refine k_iload_n C dX12_layBrings_112 2 rfl ?_
                refine k_iadd C dX12_layBrings_113 ?_
                refine k_topi (fun y114 ey114 => ?_)
                replace h := k_nm_e h y114 ey114
                refine k_dup2 C dX12_layBrings_114 rfl rfl ?_
                obtain ⟨q115, h⟩ := k_gd_e h
                refine k_iald C dX12_layBrings_115 (k_aM17 w) q115 ?_
                refine k_iload C dX12_layBrings_116 5 rfl ?_
                refine k_iload C dX12_layBrings_118 6 rfl ?_
                refine k_imul C dX12_layBrings_120 ?_
                refine k_iadd C dX12_layBrings_121 ?_
                obtain ⟨q122, h⟩ := k_gd_e h
                refine k_iast C dX12_layBrings_122 (k_aM17 w) q122 ?_
                refine k_st (fun s122 es122 => ?_)
                replace h := k_nm_e h s122 es122
                refine k_iinc C dX12_layBrings_123 2 rfl (v := 1) rfl (by decide) [1, 2, 0, 3, 4, 5, 6] (L' := fun z9 => [(0, .ref (w.2.1 0)), (1, .ref (w.2.1 a1)), (2, .int z9), (3, .int y38), (4, .int v41), (5, .int y58), (6, .int t0_72)]) (fun z9 => rfl) (fun y123 ey123 => ?_)
                replace h := k_nm_e h y123 ey123
                refine k_goto C dX12_layBrings_126 (tgt := 23) (by decide) ?_
                refine k_sub (L' := [(0, .ref (w.2.1 0)), (1, .ref (w.2.1 a1)), (2, .int y123)]) [0, 1, 2] rfl ?_
                exact ih23 _ _ h
              refine k_if_ne C dX12_layBrings_61 (tgt := 68) (by decide) (fun c61 => ?_) (fun c61 => ?_)
              · replace h := k_if_f h c61
                refine k_aload_n C dX12_layBrings_68 0 rfl ?_
                refine k_get C dX12_layBrings_69 (k_gM0_23 w) k_fX12_312 (Or.inl rfl) ?_
                exact Jj72 _ h
              · replace h := k_if_t h c61
                refine k_iconst C dX12_layBrings_64 (v := 0) rfl ?_
                refine k_goto C dX12_layBrings_65 (tgt := 72) (by decide) ?_
                exact Jj72 _ h
        exact K23 _ _ _ h
      · replace h := k_if_f h c5
        refine k_aload_n C dX12_layBrings_8 0 rfl ?_
        refine k_get C dX12_layBrings_9 (k_gM0_32 w) k_fX12_62 (Or.inl rfl) ?_
        refine k_iload_n C dX12_layBrings_12 2 rfl ?_
        refine k_iconst C dX12_layBrings_13 (v := 0) rfl ?_
        obtain ⟨q14, h⟩ := k_gd_e h
        refine k_iast C dX12_layBrings_14 (k_aM17 w) q14 ?_
        refine k_st (fun s14 es14 => ?_)
        replace h := k_nm_e h s14 es14
        refine k_iinc C dX12_layBrings_15 2 rfl (v := 1) rfl (by decide) [1, 2, 0] (L' := fun z9 => [(0, .ref (w.2.1 0)), (1, .ref (w.2.1 a1)), (2, .int z9)]) (fun z9 => rfl) (fun y15 ey15 => ?_)
        replace h := k_nm_e h y15 ey15
        refine k_goto C dX12_layBrings_18 (tgt := 2) (by decide) ?_
        exact ih2 _ _ h
  exact K2 _ _ _ h
def f_X12_layAnswers  (σ : k_St) : Option (k_St) :=
  k_loop (fun (g2 : Int32 × k_St → Option (k_St)) (z2 : Int32 × k_St) => match z2 with
    | (v1_2, s_2) =>
      k_if ((16 : Int32) ≤ v1_2)
        (some s_2)
        (k_gd (k_ix v1_2 16 = true) <|
        k_nm (k_wr s_2 18 v1_2.toNatClampNeg (0 : Int32)) fun s14 =>
        k_loop (fun (g17 : Int32 × k_St → Option (k_St)) (z17 : Int32 × k_St) => match z17 with
          | (v2_17, s_17) =>
            k_if ((k_rd s_17 0 21) ≤ v2_17)
              (k_nm (v1_2 + (1 : Int32)) fun y77 =>
              g2 (y77, s_17))
              (k_gd (k_ix (((6 : Int32) * v1_2) + v2_17) 96 = true) <|
              k_gd (k_ix v1_2 16 = true) <|
              k_gd (k_ix (((6 : Int32) * v1_2) + (k_rd s_17 18 v1_2.toNatClampNeg)) 96 = true) <|
              k_if ((k_rd s_17 17 (((6 : Int32) * v1_2) + v2_17).toNatClampNeg) ≤ (k_rd s_17 17 (((6 : Int32) * v1_2) + (k_rd s_17 18 v1_2.toNatClampNeg)).toNatClampNeg))
                (k_gd (k_ix v1_2 16 = true) <|
                k_gd (k_ix v1_2 16 = true) <|
                k_nm (k_wr s_17 18 v1_2.toNatClampNeg (k_rd s_17 18 v1_2.toNatClampNeg)) fun s70 =>
                k_nm (v2_17 + (1 : Int32)) fun y71 =>
                g17 (y71, s70))
                (k_gd (k_ix v1_2 16 = true) <|
                k_nm (k_wr s_17 18 v1_2.toNatClampNeg v2_17) fun s70 =>
                k_nm (v2_17 + (1 : Int32)) fun y71 =>
                g17 (y71, s70)))) 100000 ((1 : Int32), s14))) 100000 ((0 : Int32), σ)
set_option maxHeartbeats 4000000 in
set_option maxRecDepth 100000 in
theorem e_X12_layAnswers {l : Launch} {w : k_WC} {d : Nat} (hd : 2 ≤ d)   {σ σ' : k_St} (h : f_X12_layAnswers σ = some σ') : k_EV l (k_PM w) yX12_layAnswers cX12_layAnswers 3 d [.ref (w.2.1 0)] σ σ' := by
  refine k_of (own := RX12) rfl (by decide) (Nat.le_of_ble_eq_true rfl) (fun X hX C hr => ?_)
  show k_K (k_PM w) X (k_MQ X (k_Qv (k_PM w) σ') (k_PM w).2.2.1) 0 [(0, .ref (w.2.1 0))] [] σ
  unfold f_X12_layAnswers at h
  refine k_iconst C dX12_layAnswers_0 (v := 0) rfl ?_
  refine k_istore_n C dX12_layAnswers_1 (by decide) [1, 0] (L' := [(0, .ref (w.2.1 0)), (1, .int (0 : Int32))]) rfl ?_
  obtain ⟨b2, eb2, h⟩ := k_lp_e h
  have K2 : ∀ (n : Nat) (v1_2 : Int32) (s_2 : k_St), k_loop b2 n (v1_2, s_2) = some σ' → k_K (k_PM w) X (k_MQ X (k_Qv (k_PM w) σ') (k_PM w).2.2.1) 2 [(0, .ref (w.2.1 0)), (1, .int v1_2)] [] s_2 := by
    intro n
    induction n with
    | zero => intro v1_2 s_2 h; cases h
    | succ n ih2 =>
      intro v1_2 s_2 h
      obtain ⟨g2, eg2, h⟩ := k_lp_s h
      rw [← eg2] at ih2
      rw [eb2] at h
      refine k_iload_n C dX12_layAnswers_2 1 rfl ?_
      refine k_bipush C dX12_layAnswers_3 (v := 16) rfl ?_
      refine k_icmp_ge C dX12_layAnswers_5 (tgt := 83) (by decide) (fun c5 => ?_) (fun c5 => ?_)
      · replace h := k_if_t h c5
        exact k_vret C dX12_layAnswers_83 hr (Option.some.inj h)
      · replace h := k_if_f h c5
        refine k_aload_n C dX12_layAnswers_8 0 rfl ?_
        refine k_get C dX12_layAnswers_9 (k_gM0_33 w) k_fX12_65 (Or.inl rfl) ?_
        refine k_iload_n C dX12_layAnswers_12 1 rfl ?_
        refine k_iconst C dX12_layAnswers_13 (v := 0) rfl ?_
        obtain ⟨q14, h⟩ := k_gd_e h
        refine k_iast C dX12_layAnswers_14 (k_aM18 w) q14 ?_
        refine k_st (fun s14 es14 => ?_)
        replace h := k_nm_e h s14 es14
        refine k_iconst C dX12_layAnswers_15 (v := 1) rfl ?_
        refine k_istore_n C dX12_layAnswers_16 (by decide) [1, 2, 0] (L' := [(0, .ref (w.2.1 0)), (1, .int v1_2), (2, .int (1 : Int32))]) rfl ?_
        obtain ⟨b17, eb17, h⟩ := k_lp_e h
        have K17 : ∀ (n : Nat) (v2_17 : Int32) (s_17 : k_St), k_loop b17 n (v2_17, s_17) = some σ' → k_K (k_PM w) X (k_MQ X (k_Qv (k_PM w) σ') (k_PM w).2.2.1) 17 [(0, .ref (w.2.1 0)), (1, .int v1_2), (2, .int v2_17)] [] s_17 := by
          intro n
          induction n with
          | zero => intro v2_17 s_17 h; cases h
          | succ n ih17 =>
            intro v2_17 s_17 h
            obtain ⟨g17, eg17, h⟩ := k_lp_s h
            rw [← eg17] at ih17
            rw [eb17] at h
            refine k_iload_n C dX12_layAnswers_17 2 rfl ?_
            refine k_aload_n C dX12_layAnswers_18 0 rfl ?_
            refine k_get C dX12_layAnswers_19 (k_gM0_21 w) k_fX12_306 (Or.inl rfl) ?_
            refine k_icmp_ge C dX12_layAnswers_22 (tgt := 77) (by decide) (fun c22 => ?_) (fun c22 => ?_)
            · replace h := k_if_t h c22
              refine k_iinc C dX12_layAnswers_77 1 rfl (v := 1) rfl (by decide) [1, 0, 2] (L' := fun z9 => [(0, .ref (w.2.1 0)), (1, .int z9), (2, .int v2_17)]) (fun z9 => rfl) (fun y77 ey77 => ?_)
              replace h := k_nm_e h y77 ey77
              refine k_goto C dX12_layAnswers_80 (tgt := 2) (by decide) ?_
              refine k_sub (L' := [(0, .ref (w.2.1 0)), (1, .int y77)]) [0, 1] rfl ?_
              exact ih2 _ _ h
            · replace h := k_if_f h c22
              refine k_aload_n C dX12_layAnswers_25 0 rfl ?_
              refine k_get C dX12_layAnswers_26 (k_gM0_33 w) k_fX12_65 (Or.inl rfl) ?_
              refine k_iload_n C dX12_layAnswers_29 1 rfl ?_
              refine k_aload_n C dX12_layAnswers_30 0 rfl ?_
              refine k_get C dX12_layAnswers_31 (k_gM0_32 w) k_fX12_62 (Or.inl rfl) ?_
              refine k_bipush C dX12_layAnswers_34 (v := 6) rfl ?_
              refine k_iload_n C dX12_layAnswers_36 1 rfl ?_
              refine k_imul C dX12_layAnswers_37 ?_
              refine k_iload_n C dX12_layAnswers_38 2 rfl ?_
              refine k_iadd C dX12_layAnswers_39 ?_
              obtain ⟨q40, h⟩ := k_gd_e h
              refine k_iald C dX12_layAnswers_40 (k_aM17 w) q40 ?_
              refine k_aload_n C dX12_layAnswers_41 0 rfl ?_
              refine k_get C dX12_layAnswers_42 (k_gM0_32 w) k_fX12_62 (Or.inl rfl) ?_
              refine k_bipush C dX12_layAnswers_45 (v := 6) rfl ?_
              refine k_iload_n C dX12_layAnswers_47 1 rfl ?_
              refine k_imul C dX12_layAnswers_48 ?_
              refine k_aload_n C dX12_layAnswers_49 0 rfl ?_
              refine k_get C dX12_layAnswers_50 (k_gM0_33 w) k_fX12_65 (Or.inl rfl) ?_
              refine k_iload_n C dX12_layAnswers_53 1 rfl ?_
              obtain ⟨q54, h⟩ := k_gd_e h
              refine k_iald C dX12_layAnswers_54 (k_aM18 w) q54 ?_
              refine k_iadd C dX12_layAnswers_55 ?_
              obtain ⟨q56, h⟩ := k_gd_e h
              refine k_iald C dX12_layAnswers_56 (k_aM17 w) q56 ?_
              refine k_icmp_le C dX12_layAnswers_57 (tgt := 64) (by decide) (fun c57 => ?_) (fun c57 => ?_)
              · replace h := k_if_t h c57
                refine k_aload_n C dX12_layAnswers_64 0 rfl ?_
                refine k_get C dX12_layAnswers_65 (k_gM0_33 w) k_fX12_65 (Or.inl rfl) ?_
                refine k_iload_n C dX12_layAnswers_68 1 rfl ?_
                obtain ⟨q69, h⟩ := k_gd_e h
                refine k_iald C dX12_layAnswers_69 (k_aM18 w) q69 ?_
                obtain ⟨q70, h⟩ := k_gd_e h
                refine k_iast C dX12_layAnswers_70 (k_aM18 w) q70 ?_
                refine k_st (fun s70 es70 => ?_)
                replace h := k_nm_e h s70 es70
                refine k_iinc C dX12_layAnswers_71 2 rfl (v := 1) rfl (by decide) [1, 2, 0] (L' := fun z9 => [(0, .ref (w.2.1 0)), (1, .int v1_2), (2, .int z9)]) (fun z9 => rfl) (fun y71 ey71 => ?_)
                replace h := k_nm_e h y71 ey71
                refine k_goto C dX12_layAnswers_74 (tgt := 17) (by decide) ?_
                exact ih17 _ _ h
              · replace h := k_if_f h c57
                refine k_iload_n C dX12_layAnswers_60 2 rfl ?_
                refine k_goto C dX12_layAnswers_61 (tgt := 70) (by decide) ?_
                obtain ⟨q70, h⟩ := k_gd_e h
                refine k_iast C dX12_layAnswers_70 (k_aM18 w) q70 ?_
                refine k_st (fun s70 es70 => ?_)
                replace h := k_nm_e h s70 es70
                refine k_iinc C dX12_layAnswers_71 2 rfl (v := 1) rfl (by decide) [1, 2, 0] (L' := fun z9 => [(0, .ref (w.2.1 0)), (1, .int v1_2), (2, .int z9)]) (fun z9 => rfl) (fun y71 ey71 => ?_)
                replace h := k_nm_e h y71 ey71
                refine k_goto C dX12_layAnswers_74 (tgt := 17) (by decide) ?_
                exact ih17 _ _ h
        exact K17 _ _ _ h
  exact K2 _ _ _ h
def f_X12_sumBy (a1 : Nat) (σ : k_St) : Option (Int32) :=
  k_loop (fun (g4 : Int32 × Int32 → Option (Int32)) (z4 : Int32 × Int32) => match z4 with
    | (v2_4, v3_4) =>
      k_if ((16 : Int32) ≤ v3_4)
        (some v2_4)
        (k_gd (k_ix v3_4 (k_nM a1) = true) <|
        k_gd (k_ix (((6 : Int32) * v3_4) + (k_rd σ a1 v3_4.toNatClampNeg)) 96 = true) <|
        k_nm ((v2_4 + (k_rd σ 17 (((6 : Int32) * v3_4) + (k_rd σ a1 v3_4.toNatClampNeg)).toNatClampNeg))) fun y25 =>
        k_nm (v3_4 + (1 : Int32)) fun y26 =>
        g4 (y25, y26))) 100000 ((0 : Int32), (0 : Int32))
set_option maxHeartbeats 4000000 in
set_option maxRecDepth 100000 in
theorem e_X12_sumBy {l : Launch} {w : k_WC} {d : Nat} (hd : 2 ≤ d) {a1 : Nat} (ha1 : k_AI (k_PM w) .int a1 (w.2.1 a1) (k_nM a1)) {σ : k_St} {r : Int32} (h : f_X12_sumBy a1 σ = some r) : k_EI l (k_PM w) yX12_sumBy cX12_sumBy 4 (some .int) d [.ref (w.2.1 0), .ref (w.2.1 a1)] σ r σ := by
  refine k_of (own := RX12) rfl (by decide) (Nat.le_of_ble_eq_true rfl) (fun X hX C hr => ?_)
  show k_K (k_PM w) X (k_MQ X (k_Qi (k_PM w) r σ) (k_PM w).2.2.1) 0 [(0, .ref (w.2.1 0)), (1, .ref (w.2.1 a1))] [] σ
  unfold f_X12_sumBy at h
  refine k_iconst C dX12_sumBy_0 (v := 0) rfl ?_
  refine k_istore_n C dX12_sumBy_1 (by decide) [1, 2, 0] (L' := [(0, .ref (w.2.1 0)), (1, .ref (w.2.1 a1)), (2, .int (0 : Int32))]) rfl ?_
  refine k_iconst C dX12_sumBy_2 (v := 0) rfl ?_
  refine k_istore_n C dX12_sumBy_3 (by decide) [1, 2, 3, 0] (L' := [(0, .ref (w.2.1 0)), (1, .ref (w.2.1 a1)), (2, .int (0 : Int32)), (3, .int (0 : Int32))]) rfl ?_
  obtain ⟨b4, eb4, h⟩ := k_lp_e h
  have K4 : ∀ (n : Nat) (v2_4 : Int32) (v3_4 : Int32), k_loop b4 n (v2_4, v3_4) = some r → k_K (k_PM w) X (k_MQ X (k_Qi (k_PM w) r σ) (k_PM w).2.2.1) 4 [(0, .ref (w.2.1 0)), (1, .ref (w.2.1 a1)), (2, .int v2_4), (3, .int v3_4)] [] σ := by
    intro n
    induction n with
    | zero => intro v2_4 v3_4 h; cases h
    | succ n ih4 =>
      intro v2_4 v3_4 h
      obtain ⟨g4, eg4, h⟩ := k_lp_s h
      rw [← eg4] at ih4
      rw [eb4] at h
      refine k_iload_n C dX12_sumBy_4 3 rfl ?_
      refine k_bipush C dX12_sumBy_5 (v := 16) rfl ?_
      refine k_icmp_ge C dX12_sumBy_7 (tgt := 32) (by decide) (fun c7 => ?_) (fun c7 => ?_)
      · replace h := k_if_t h c7
        refine k_iload_n C dX12_sumBy_32 2 rfl ?_
        exact k_iret C dX12_sumBy_33 hr (k_p1 h)
      · replace h := k_if_f h c7
        refine k_iload_n C dX12_sumBy_10 2 rfl ?_
        refine k_aload_n C dX12_sumBy_11 0 rfl ?_
        refine k_get C dX12_sumBy_12 (k_gM0_32 w) k_fX12_62 (Or.inl rfl) ?_
        refine k_bipush C dX12_sumBy_15 (v := 6) rfl ?_
        refine k_iload_n C dX12_sumBy_17 3 rfl ?_
        refine k_imul C dX12_sumBy_18 ?_
        refine k_aload_n C dX12_sumBy_19 1 rfl ?_
        refine k_iload_n C dX12_sumBy_20 3 rfl ?_
        obtain ⟨q21, h⟩ := k_gd_e h
        refine k_iald C dX12_sumBy_21 ha1 q21 ?_
        refine k_iadd C dX12_sumBy_22 ?_
        obtain ⟨q23, h⟩ := k_gd_e h
        refine k_iald C dX12_sumBy_23 (k_aM17 w) q23 ?_
        refine k_iadd C dX12_sumBy_24 ?_
        refine k_topi (fun y25 ey25 => ?_)
        replace h := k_nm_e h y25 ey25
        refine k_istore_n C dX12_sumBy_25 (by decide) [1, 2, 0, 3] (L' := [(0, .ref (w.2.1 0)), (1, .ref (w.2.1 a1)), (2, .int y25), (3, .int v3_4)]) rfl ?_
        refine k_iinc C dX12_sumBy_26 3 rfl (v := 1) rfl (by decide) [1, 2, 3, 0] (L' := fun z9 => [(0, .ref (w.2.1 0)), (1, .ref (w.2.1 a1)), (2, .int y25), (3, .int z9)]) (fun z9 => rfl) (fun y26 ey26 => ?_)
        replace h := k_nm_e h y26 ey26
        refine k_goto C dX12_sumBy_29 (tgt := 4) (by decide) ?_
        exact ih4 _ _ h
  exact K4 _ _ _ h
def f_X12_below  (σ : k_St) : Option (Int32) :=
  k_loop (fun (g4 : Int32 × Int32 → Option (Int32)) (z4 : Int32 × Int32) => match z4 with
    | (v1_4, v2_4) =>
      k_if ((k_rd σ 0 21) ≤ v2_4)
        (some ((100 : Int32) * v1_4))
        (k_bd (f_X12_of v2_4 (0 : Int32) σ) fun v16 =>
        k_nm ((v1_4 + v16)) fun y20 =>
        k_nm (v2_4 + (1 : Int32)) fun y21 =>
        g4 (y20, y21))) 100000 ((0 : Int32), (0 : Int32))
set_option maxHeartbeats 4000000 in
set_option maxRecDepth 100000 in
theorem e_X12_below {l : Launch} {w : k_WC} {d : Nat} (hd : 3 ≤ d)   {σ : k_St} {r : Int32} (h : f_X12_below σ = some r) : k_EI l (k_PM w) yX12_below cX12_below 3 (some .int) d [.ref (w.2.1 0)] σ r σ := by
  refine k_of (own := RX12) rfl (by decide) (Nat.le_of_ble_eq_true rfl) (fun X hX C hr => ?_)
  show k_K (k_PM w) X (k_MQ X (k_Qi (k_PM w) r σ) (k_PM w).2.2.1) 0 [(0, .ref (w.2.1 0))] [] σ
  unfold f_X12_below at h
  refine k_iconst C dX12_below_0 (v := 0) rfl ?_
  refine k_istore_n C dX12_below_1 (by decide) [1, 0] (L' := [(0, .ref (w.2.1 0)), (1, .int (0 : Int32))]) rfl ?_
  refine k_iconst C dX12_below_2 (v := 0) rfl ?_
  refine k_istore_n C dX12_below_3 (by decide) [1, 2, 0] (L' := [(0, .ref (w.2.1 0)), (1, .int (0 : Int32)), (2, .int (0 : Int32))]) rfl ?_
  obtain ⟨b4, eb4, h⟩ := k_lp_e h
  have K4 : ∀ (n : Nat) (v1_4 : Int32) (v2_4 : Int32), k_loop b4 n (v1_4, v2_4) = some r → k_K (k_PM w) X (k_MQ X (k_Qi (k_PM w) r σ) (k_PM w).2.2.1) 4 [(0, .ref (w.2.1 0)), (1, .int v1_4), (2, .int v2_4)] [] σ := by
    intro n
    induction n with
    | zero => intro v1_4 v2_4 h; cases h
    | succ n ih4 =>
      intro v1_4 v2_4 h
      obtain ⟨g4, eg4, h⟩ := k_lp_s h
      rw [← eg4] at ih4
      rw [eb4] at h
      refine k_iload_n C dX12_below_4 2 rfl ?_
      refine k_aload_n C dX12_below_5 0 rfl ?_
      refine k_get C dX12_below_6 (k_gM0_21 w) k_fX12_306 (Or.inl rfl) ?_
      refine k_icmp_ge C dX12_below_9 (tgt := 27) (by decide) (fun c9 => ?_) (fun c9 => ?_)
      · replace h := k_if_t h c9
        refine k_bipush C dX12_below_27 (v := 100) rfl ?_
        refine k_iload_n C dX12_below_29 1 rfl ?_
        refine k_imul C dX12_below_30 ?_
        exact k_iret C dX12_below_31 hr (k_p1 h)
      · replace h := k_if_f h c9
        refine k_iload_n C dX12_below_12 1 rfl ?_
        refine k_aload_n C dX12_below_13 0 rfl ?_
        refine k_iload_n C dX12_below_14 2 rfl ?_
        refine k_iconst C dX12_below_15 (v := 0) rfl ?_
        obtain ⟨v16, h16, h⟩ := k_bd_e h
        refine k_goI (k_runV C dX12_below_16 (e_X12_of (d := 2) (Nat.le_refl _) h16) k_lX12_343 k_yX12_of (k_oM0 w) (by omega) rfl (Nat.le_of_ble_eq_true rfl)) ?_
        refine k_iadd C dX12_below_19 ?_
        refine k_topi (fun y20 ey20 => ?_)
        replace h := k_nm_e h y20 ey20
        refine k_istore_n C dX12_below_20 (by decide) [1, 0, 2] (L' := [(0, .ref (w.2.1 0)), (1, .int y20), (2, .int v2_4)]) rfl ?_
        refine k_iinc C dX12_below_21 2 rfl (v := 1) rfl (by decide) [1, 2, 0] (L' := fun z9 => [(0, .ref (w.2.1 0)), (1, .int y20), (2, .int z9)]) (fun z9 => rfl) (fun y21 ey21 => ?_)
        replace h := k_nm_e h y21 ey21
        refine k_goto C dX12_below_24 (tgt := 4) (by decide) ?_
        exact ih4 _ _ h
  exact K4 _ _ _ h
def b_X12_divisor (p_divisor : Int32 → Int32 → Option (Int32)) (x0 : Int32) (x1 : Int32) : Option (Int32) :=
  k_if (x1 = (0 : Int32))
    (some x0)
    (k_gd (¬ x1 = 0) <|
    k_bd (p_divisor x1 (o_rem x0 x1)) fun v12 =>
    some v12)
set_option maxHeartbeats 4000000 in
set_option maxRecDepth 100000 in
theorem eb_X12_divisor {p_divisor : Int32 → Int32 → Option (Int32)} {d0 : Nat} (H_divisor : ∀ {l : Launch} {w : k_WC} {d : Nat} (_ : d0 ≤ d) {x0 : Int32} {x1 : Int32} {σ : k_St} {r : Int32} (_ : p_divisor x0 x1 = some r), k_EI l (k_PM w) yX12_divisor cX12_divisor 2 (some .int) d [.int x0, .int x1] σ r σ) {l : Launch} {w : k_WC} {d : Nat} (hb : 3 ≤ d0) (hd : d0 < d) {x0 : Int32} {x1 : Int32}  {σ : k_St} {r : Int32} (h : b_X12_divisor p_divisor x0 x1 = some r) : k_EI l (k_PM w) yX12_divisor cX12_divisor 2 (some .int) d [.int x0, .int x1] σ r σ := by
  refine k_of (own := RX12) rfl (by decide) (Nat.le_of_ble_eq_true rfl) (fun X hX C hr => ?_)
  show k_K (k_PM w) X (k_MQ X (k_Qi (k_PM w) r σ) (k_PM w).2.2.1) 0 [(0, .int x0), (1, .int x1)] [] σ
  unfold b_X12_divisor at h
  refine k_iload_n C dX12_divisor_0 1 rfl ?_
  refine k_if_ne C dX12_divisor_1 (tgt := 8) (by decide) (fun c1 => ?_) (fun c1 => ?_)
  · replace h := k_if_f h c1
    refine k_iload_n C dX12_divisor_8 1 rfl ?_
    refine k_iload_n C dX12_divisor_9 0 rfl ?_
    refine k_iload_n C dX12_divisor_10 1 rfl ?_
    obtain ⟨q11, h⟩ := k_gd_e h
    refine k_irem C dX12_divisor_11 q11 ?_
    obtain ⟨v12, h12, h⟩ := k_bd_e h
    refine k_goI (k_runS C dX12_divisor_12 (H_divisor (d := d0) (Nat.le_refl _) h12) k_lX12_372 k_yX12_divisor (by omega) rfl (Nat.le_of_ble_eq_true rfl)) ?_
    exact k_iret C dX12_divisor_15 hr (k_p1 h)
  · replace h := k_if_t h c1
    refine k_iload_n C dX12_divisor_4 0 rfl ?_
    refine k_goto C dX12_divisor_5 (tgt := 15) (by decide) ?_
    exact k_iret C dX12_divisor_15 hr (k_p1 h)
def f_X12_divisor : Nat → Int32 → Int32 → Option (Int32)
  | 0 => fun _ _ => none
  | n + 1 => b_X12_divisor (f_X12_divisor n)
theorem e_X12_divisor_all : ∀ n : Nat, ∀ {l : Launch} {w : k_WC} {d : Nat} (_ : 3 + 1 * n ≤ d) {x0 : Int32} {x1 : Int32} {σ : k_St} {r : Int32} (_ : f_X12_divisor n x0 x1 = some r), k_EI l (k_PM w) yX12_divisor cX12_divisor 2 (some .int) d [.int x0, .int x1] σ r σ
  | 0 => fun _ => by
    intros; rename_i h; cases h
  | n + 1 => by
    have ih := @e_X12_divisor_all n
    exact fun hd => fun h => eb_X12_divisor (d0 := 3 + 1 * n + 0) (fun hd => fun h => ih (by omega) h) (by omega) (by omega) h
theorem e_X12_divisor : ∀ {l : Launch} {w : k_WC} {d : Nat} (_ : 203 ≤ d) {x0 : Int32} {x1 : Int32} {σ : k_St} {r : Int32} (_ : f_X12_divisor 200 x0 x1 = some r), k_EI l (k_PM w) yX12_divisor cX12_divisor 2 (some .int) d [.int x0, .int x1] σ r σ := fun hd => fun h => e_X12_divisor_all 200 (by omega) h
def f_X12_plain (x1 : Int32) (x2 : Int32) (σ : k_St) : Option (Int32) :=
  k_bd (f_X12_below σ) fun v1 =>
  k_bd (f_X12_divisor 200 v1 x1) fun v5 =>
  k_if (x2 = (0 : Int32))
    (k_gd (¬ v5 = 0) <|
    some (x1 / v5))
    (k_bd (f_X12_below σ) fun v20 =>
    k_gd (¬ v5 = 0) <|
    some (v20 / v5))
set_option maxHeartbeats 4000000 in
set_option maxRecDepth 100000 in
theorem e_X12_plain {l : Launch} {w : k_WC} {d : Nat} (hd : 204 ≤ d) {x1 : Int32} {x2 : Int32}  {σ : k_St} {r : Int32} (h : f_X12_plain x1 x2 σ = some r) : k_EI l (k_PM w) yX12_plain cX12_plain 4 (some .int) d [.ref (w.2.1 0), .int x1, .int x2] σ r σ := by
  refine k_of (own := RX12) rfl (by decide) (Nat.le_of_ble_eq_true rfl) (fun X hX C hr => ?_)
  show k_K (k_PM w) X (k_MQ X (k_Qi (k_PM w) r σ) (k_PM w).2.2.1) 0 [(0, .ref (w.2.1 0)), (1, .int x1), (2, .int x2)] [] σ
  unfold f_X12_plain at h
  refine k_aload_n C dX12_plain_0 0 rfl ?_
  obtain ⟨v1, h1, h⟩ := k_bd_e h
  refine k_goI (k_runV C dX12_plain_1 (e_X12_below (d := 3) (Nat.le_refl _) h1) k_lX12_375 k_yX12_below (k_oM0 w) (by omega) rfl (Nat.le_of_ble_eq_true rfl)) ?_
  refine k_iload_n C dX12_plain_4 1 rfl ?_
  obtain ⟨v5, h5, h⟩ := k_bd_e h
  refine k_goI (k_runS C dX12_plain_5 (e_X12_divisor (d := 203) (Nat.le_refl _) h5) k_lX12_372 k_yX12_divisor (by omega) rfl (Nat.le_of_ble_eq_true rfl)) ?_
  refine k_istore_n C dX12_plain_8 (by decide) [1, 2, 3, 0] (L' := [(0, .ref (w.2.1 0)), (1, .int x1), (2, .int x2), (3, .int v5)]) rfl ?_
  refine k_iload_n C dX12_plain_9 2 rfl ?_
  refine k_if_ne C dX12_plain_10 (tgt := 19) (by decide) (fun c10 => ?_) (fun c10 => ?_)
  · replace h := k_if_f h c10
    refine k_aload_n C dX12_plain_19 0 rfl ?_
    obtain ⟨v20, h20, h⟩ := k_bd_e h
    refine k_goI (k_runV C dX12_plain_20 (e_X12_below (d := 3) (Nat.le_refl _) h20) k_lX12_375 k_yX12_below (k_oM0 w) (by omega) rfl (Nat.le_of_ble_eq_true rfl)) ?_
    refine k_iload_n C dX12_plain_23 3 rfl ?_
    obtain ⟨q24, h⟩ := k_gd_e h
    refine k_idiv C dX12_plain_24 q24 ?_
    exact k_iret C dX12_plain_25 hr (k_p1 h)
  · replace h := k_if_t h c10
    refine k_iload_n C dX12_plain_13 1 rfl ?_
    refine k_iload_n C dX12_plain_14 3 rfl ?_
    obtain ⟨q15, h⟩ := k_gd_e h
    refine k_idiv C dX12_plain_15 q15 ?_
    refine k_goto C dX12_plain_16 (tgt := 25) (by decide) ?_
    exact k_iret C dX12_plain_25 hr (k_p1 h)
def f_X12_mean (x1 : Int32) (σ : k_St) : Option (Int32 × k_St) :=
  k_if ((k_rd σ 0 21) = (0 : Int32))
    (some ((-1 : Int32), σ))
    (k_bd (f_X12_in x1 (0 : Int32) (1 : Int32)) fun v10 =>
    k_if (v10 = (0 : Int32))
      (some ((-1 : Int32), σ))
      (k_bd (f_X12_layBrings 14 σ) fun s23 =>
      k_bd (f_X12_sumBy 15 s23) fun v32 =>
      k_bd (f_X12_plain v32 x1 s23) fun v36 =>
      some (v36, s23)))
set_option maxHeartbeats 4000000 in
set_option maxRecDepth 100000 in
theorem e_X12_mean {l : Launch} {w : k_WC} {d : Nat} (hd : 205 ≤ d) {x1 : Int32}  {σ σ' : k_St} {r : Int32} (h : f_X12_mean x1 σ = some (r, σ')) : k_EI l (k_PM w) yX12_mean cX12_mean 2 (some .int) d [.ref (w.2.1 0), .int x1] σ r σ' := by
  refine k_of (own := RX12) rfl (by decide) (Nat.le_of_ble_eq_true rfl) (fun X hX C hr => ?_)
  show k_K (k_PM w) X (k_MQ X (k_Qi (k_PM w) r σ') (k_PM w).2.2.1) 0 [(0, .ref (w.2.1 0)), (1, .int x1)] [] σ
  unfold f_X12_mean at h
  refine k_aload_n C dX12_mean_0 0 rfl ?_
  refine k_get C dX12_mean_1 (k_gM0_21 w) k_fX12_306 (Or.inl rfl) ?_
  refine k_if_eq C dX12_mean_4 (tgt := 16) (by decide) (fun c4 => ?_) (fun c4 => ?_)
  · replace h := k_if_t h c4
    refine k_iconst C dX12_mean_16 (v := -1) rfl ?_
    exact k_iret C dX12_mean_17 hr (Option.some.inj h)
  · replace h := k_if_f h c4
    refine k_iload_n C dX12_mean_7 1 rfl ?_
    refine k_iconst C dX12_mean_8 (v := 0) rfl ?_
    refine k_iconst C dX12_mean_9 (v := 1) rfl ?_
    obtain ⟨v10, h10, h⟩ := k_bd_e h
    refine k_goI (k_runS C dX12_mean_10 (e_X12_in (d := 2) (Nat.le_refl _) h10) k_lX12_269 k_yX12_in (by omega) rfl (Nat.le_of_ble_eq_true rfl)) ?_
    refine k_if_ne C dX12_mean_13 (tgt := 18) (by decide) (fun c13 => ?_) (fun c13 => ?_)
    · replace h := k_if_f h c13
      refine k_aload_n C dX12_mean_18 0 rfl ?_
      refine k_aload_n C dX12_mean_19 0 rfl ?_
      refine k_get C dX12_mean_20 (k_gM0_24 w) k_fX12_49 (Or.inl rfl) ?_
      obtain ⟨s23, h23, h⟩ := k_bd_e h
      refine k_goV (k_runV C dX12_mean_23 (e_X12_layBrings (d := 8) (Nat.le_refl _) (k_aM14 w) h23) k_lX12_378 k_yX12_layBrings (k_oM0 w) (by omega) rfl (Nat.le_of_ble_eq_true rfl)) ?_
      refine k_aload_n C dX12_mean_26 0 rfl ?_
      refine k_aload_n C dX12_mean_27 0 rfl ?_
      refine k_aload_n C dX12_mean_28 0 rfl ?_
      refine k_get C dX12_mean_29 (k_gM0_25 w) k_fX12_52 (Or.inl rfl) ?_
      obtain ⟨v32, h32, h⟩ := k_bd_e h
      refine k_goI (k_runV C dX12_mean_32 (e_X12_sumBy (d := 2) (Nat.le_refl _) (k_aM15 w) h32) k_lX12_382 k_yX12_sumBy (k_oM0 w) (by omega) rfl (Nat.le_of_ble_eq_true rfl)) ?_
      refine k_iload_n C dX12_mean_35 1 rfl ?_
      obtain ⟨v36, h36, h⟩ := k_bd_e h
      refine k_goI (k_runV C dX12_mean_36 (e_X12_plain (d := 204) (Nat.le_refl _) h36) k_lX12_386 k_yX12_plain (k_oM0 w) (by omega) rfl (Nat.le_of_ble_eq_true rfl)) ?_
      exact k_iret C dX12_mean_39 hr (Option.some.inj h)
    · replace h := k_if_t h c13
      refine k_iconst C dX12_mean_16 (v := -1) rfl ?_
      exact k_iret C dX12_mean_17 hr (Option.some.inj h)
def f_X12_answer  (σ : k_St) : Option (Int32 × k_St) :=
  k_if ((k_rd σ 0 21) = (0 : Int32))
    (some ((0 : Int32), σ))
    (k_bd (f_X12_layBrings 14 σ) fun s14 =>
    k_bd (f_X12_layAnswers s14) fun s18 =>
    k_loop (fun (g23 : Int32 × k_St → Option (Int32 × k_St)) (z23 : Int32 × k_St) => match z23 with
      | (v1_23, s_23) =>
        k_if ((16 : Int32) ≤ v1_23)
          (some ((1 : Int32), s_23))
          (k_gd (k_ix v1_23 16 = true) <|
          k_gd (k_ix v1_23 16 = true) <|
          k_nm (k_wr s_23 15 v1_23.toNatClampNeg (k_rd s_23 18 v1_23.toNatClampNeg)) fun s40 =>
          k_nm (v1_23 + (1 : Int32)) fun y41 =>
          g23 (y41, s40))) 100000 ((0 : Int32), s18))
set_option maxHeartbeats 4000000 in
set_option maxRecDepth 100000 in
theorem e_X12_answer {l : Launch} {w : k_WC} {d : Nat} (hd : 9 ≤ d)   {σ σ' : k_St} {r : Int32} (h : f_X12_answer σ = some (r, σ')) : k_EI l (k_PM w) yX12_answer cX12_answer 2 (some .boolean) d [.ref (w.2.1 0)] σ r σ' := by
  refine k_of (own := RX12) rfl (by decide) (Nat.le_of_ble_eq_true rfl) (fun X hX C hr => ?_)
  show k_K (k_PM w) X (k_MQ X (k_Qi (k_PM w) r σ') (k_PM w).2.2.1) 0 [(0, .ref (w.2.1 0))] [] σ
  unfold f_X12_answer at h
  refine k_aload_n C dX12_answer_0 0 rfl ?_
  refine k_get C dX12_answer_1 (k_gM0_21 w) k_fX12_306 (Or.inl rfl) ?_
  refine k_if_ne C dX12_answer_4 (tgt := 9) (by decide) (fun c4 => ?_) (fun c4 => ?_)
  · replace h := k_if_f h c4
    refine k_aload_n C dX12_answer_9 0 rfl ?_
    refine k_aload_n C dX12_answer_10 0 rfl ?_
    refine k_get C dX12_answer_11 (k_gM0_24 w) k_fX12_49 (Or.inl rfl) ?_
    obtain ⟨s14, h14, h⟩ := k_bd_e h
    refine k_goV (k_runV C dX12_answer_14 (e_X12_layBrings (d := 8) (Nat.le_refl _) (k_aM14 w) h14) k_lX12_378 k_yX12_layBrings (k_oM0 w) (by omega) rfl (Nat.le_of_ble_eq_true rfl)) ?_
    refine k_aload_n C dX12_answer_17 0 rfl ?_
    obtain ⟨s18, h18, h⟩ := k_bd_e h
    refine k_goV (k_runV C dX12_answer_18 (e_X12_layAnswers (d := 2) (Nat.le_refl _) h18) k_lX12_389 k_yX12_layAnswers (k_oM0 w) (by omega) rfl (Nat.le_of_ble_eq_true rfl)) ?_
    refine k_iconst C dX12_answer_21 (v := 0) rfl ?_
    refine k_istore_n C dX12_answer_22 (by decide) [1, 0] (L' := [(0, .ref (w.2.1 0)), (1, .int (0 : Int32))]) rfl ?_
    obtain ⟨b23, eb23, h⟩ := k_lp_e h
    have K23 : ∀ (n : Nat) (v1_23 : Int32) (s_23 : k_St), k_loop b23 n (v1_23, s_23) = some (r, σ') → k_K (k_PM w) X (k_MQ X (k_Qi (k_PM w) r σ') (k_PM w).2.2.1) 23 [(0, .ref (w.2.1 0)), (1, .int v1_23)] [] s_23 := by
      intro n
      induction n with
      | zero => intro v1_23 s_23 h; cases h
      | succ n ih23 =>
        intro v1_23 s_23 h
        obtain ⟨g23, eg23, h⟩ := k_lp_s h
        rw [← eg23] at ih23
        rw [eb23] at h
        refine k_iload_n C dX12_answer_23 1 rfl ?_
        refine k_bipush C dX12_answer_24 (v := 16) rfl ?_
        refine k_icmp_ge C dX12_answer_26 (tgt := 47) (by decide) (fun c26 => ?_) (fun c26 => ?_)
        · replace h := k_if_t h c26
          refine k_iconst C dX12_answer_47 (v := 1) rfl ?_
          exact k_zret C dX12_answer_48 hr rfl (Option.some.inj h)
        · replace h := k_if_f h c26
          refine k_aload_n C dX12_answer_29 0 rfl ?_
          refine k_get C dX12_answer_30 (k_gM0_25 w) k_fX12_52 (Or.inl rfl) ?_
          refine k_iload_n C dX12_answer_33 1 rfl ?_
          refine k_aload_n C dX12_answer_34 0 rfl ?_
          refine k_get C dX12_answer_35 (k_gM0_33 w) k_fX12_65 (Or.inl rfl) ?_
          refine k_iload_n C dX12_answer_38 1 rfl ?_
          obtain ⟨q39, h⟩ := k_gd_e h
          refine k_iald C dX12_answer_39 (k_aM18 w) q39 ?_
          obtain ⟨q40, h⟩ := k_gd_e h
          refine k_iast C dX12_answer_40 (k_aM15 w) q40 ?_
          refine k_st (fun s40 es40 => ?_)
          replace h := k_nm_e h s40 es40
          refine k_iinc C dX12_answer_41 1 rfl (v := 1) rfl (by decide) [1, 0] (L' := fun z9 => [(0, .ref (w.2.1 0)), (1, .int z9)]) (fun z9 => rfl) (fun y41 ey41 => ?_)
          replace h := k_nm_e h y41 ey41
          refine k_goto C dX12_answer_44 (tgt := 23) (by decide) ?_
          exact ih23 _ _ h
    exact K23 _ _ _ h
  · replace h := k_if_t h c4
    refine k_iconst C dX12_answer_7 (v := 0) rfl ?_
    exact k_zret C dX12_answer_8 hr rfl (Option.some.inj h)
def f_X12_answerTo (x1 : Int32) (x2 : Int32) (σ : k_St) : Option (Int32 × k_St) :=
  k_bd (f_X12_isThrow x1 x2 σ) fun v3 =>
  k_if (v3 = (0 : Int32))
    (some ((-1 : Int32), σ))
    (k_bd (f_X12_layBrings 14 σ) fun s16 =>
    k_bd (f_X12_layAnswers s16) fun s20 =>
    k_gd (k_ix (((4 : Int32) * x1) + x2) 16 = true) <|
    some ((k_rd s20 18 (((4 : Int32) * x1) + x2).toNatClampNeg), s20))
set_option maxHeartbeats 4000000 in
set_option maxRecDepth 100000 in
theorem e_X12_answerTo {l : Launch} {w : k_WC} {d : Nat} (hd : 9 ≤ d) {x1 : Int32} {x2 : Int32}  {σ σ' : k_St} {r : Int32} (h : f_X12_answerTo x1 x2 σ = some (r, σ')) : k_EI l (k_PM w) yX12_answerTo cX12_answerTo 3 (some .int) d [.ref (w.2.1 0), .int x1, .int x2] σ r σ' := by
  refine k_of (own := RX12) rfl (by decide) (Nat.le_of_ble_eq_true rfl) (fun X hX C hr => ?_)
  show k_K (k_PM w) X (k_MQ X (k_Qi (k_PM w) r σ') (k_PM w).2.2.1) 0 [(0, .ref (w.2.1 0)), (1, .int x1), (2, .int x2)] [] σ
  unfold f_X12_answerTo at h
  refine k_aload_n C dX12_answerTo_0 0 rfl ?_
  refine k_iload_n C dX12_answerTo_1 1 rfl ?_
  refine k_iload_n C dX12_answerTo_2 2 rfl ?_
  obtain ⟨v3, h3, h⟩ := k_bd_e h
  refine k_goI (k_runV C dX12_answerTo_3 (e_X12_isThrow (d := 3) (Nat.le_refl _) h3) k_lX12_363 k_yX12_isThrow (k_oM0 w) (by omega) rfl (Nat.le_of_ble_eq_true rfl)) ?_
  refine k_if_ne C dX12_answerTo_6 (tgt := 11) (by decide) (fun c6 => ?_) (fun c6 => ?_)
  · replace h := k_if_f h c6
    refine k_aload_n C dX12_answerTo_11 0 rfl ?_
    refine k_aload_n C dX12_answerTo_12 0 rfl ?_
    refine k_get C dX12_answerTo_13 (k_gM0_24 w) k_fX12_49 (Or.inl rfl) ?_
    obtain ⟨s16, h16, h⟩ := k_bd_e h
    refine k_goV (k_runV C dX12_answerTo_16 (e_X12_layBrings (d := 8) (Nat.le_refl _) (k_aM14 w) h16) k_lX12_378 k_yX12_layBrings (k_oM0 w) (by omega) rfl (Nat.le_of_ble_eq_true rfl)) ?_
    refine k_aload_n C dX12_answerTo_19 0 rfl ?_
    obtain ⟨s20, h20, h⟩ := k_bd_e h
    refine k_goV (k_runV C dX12_answerTo_20 (e_X12_layAnswers (d := 2) (Nat.le_refl _) h20) k_lX12_389 k_yX12_layAnswers (k_oM0 w) (by omega) rfl (Nat.le_of_ble_eq_true rfl)) ?_
    refine k_aload_n C dX12_answerTo_23 0 rfl ?_
    refine k_get C dX12_answerTo_24 (k_gM0_33 w) k_fX12_65 (Or.inl rfl) ?_
    refine k_iconst C dX12_answerTo_27 (v := 4) rfl ?_
    refine k_iload_n C dX12_answerTo_28 1 rfl ?_
    refine k_imul C dX12_answerTo_29 ?_
    refine k_iload_n C dX12_answerTo_30 2 rfl ?_
    refine k_iadd C dX12_answerTo_31 ?_
    obtain ⟨q32, h⟩ := k_gd_e h
    refine k_iald C dX12_answerTo_32 (k_aM18 w) q32 ?_
    exact k_iret C dX12_answerTo_33 hr (Option.some.inj h)
  · replace h := k_if_t h c6
    refine k_iconst C dX12_answerTo_9 (v := -1) rfl ?_
    exact k_iret C dX12_answerTo_10 hr (Option.some.inj h)
def f_X12_answeredBy (a1 : Nat) (σ : k_St) : Option (Int32 × k_St) :=
  k_bd (f_X12_layBrings a1 σ) fun s2 =>
  k_bd (f_X12_layAnswers s2) fun s6 =>
  k_bd (f_X12_sumBy 18 s6) fun v14 =>
  some (v14, s6)
set_option maxHeartbeats 4000000 in
set_option maxRecDepth 100000 in
theorem e_X12_answeredBy {l : Launch} {w : k_WC} {d : Nat} (hd : 9 ≤ d) {a1 : Nat} (ha1 : k_AI (k_PM w) .int a1 (w.2.1 a1) (k_nM a1)) {σ σ' : k_St} {r : Int32} (h : f_X12_answeredBy a1 σ = some (r, σ')) : k_EI l (k_PM w) yX12_answeredBy cX12_answeredBy 2 (some .int) d [.ref (w.2.1 0), .ref (w.2.1 a1)] σ r σ' := by
  refine k_of (own := RX12) rfl (by decide) (Nat.le_of_ble_eq_true rfl) (fun X hX C hr => ?_)
  show k_K (k_PM w) X (k_MQ X (k_Qi (k_PM w) r σ') (k_PM w).2.2.1) 0 [(0, .ref (w.2.1 0)), (1, .ref (w.2.1 a1))] [] σ
  unfold f_X12_answeredBy at h
  refine k_aload_n C dX12_answeredBy_0 0 rfl ?_
  refine k_aload_n C dX12_answeredBy_1 1 rfl ?_
  obtain ⟨s2, h2, h⟩ := k_bd_e h
  refine k_goV (k_runV C dX12_answeredBy_2 (e_X12_layBrings (d := 8) (Nat.le_refl _) ha1 h2) k_lX12_378 k_yX12_layBrings (k_oM0 w) (by omega) rfl (Nat.le_of_ble_eq_true rfl)) ?_
  refine k_aload_n C dX12_answeredBy_5 0 rfl ?_
  obtain ⟨s6, h6, h⟩ := k_bd_e h
  refine k_goV (k_runV C dX12_answeredBy_6 (e_X12_layAnswers (d := 2) (Nat.le_refl _) h6) k_lX12_389 k_yX12_layAnswers (k_oM0 w) (by omega) rfl (Nat.le_of_ble_eq_true rfl)) ?_
  refine k_aload_n C dX12_answeredBy_9 0 rfl ?_
  refine k_aload_n C dX12_answeredBy_10 0 rfl ?_
  refine k_get C dX12_answeredBy_11 (k_gM0_33 w) k_fX12_65 (Or.inl rfl) ?_
  obtain ⟨v14, h14, h⟩ := k_bd_e h
  refine k_goI (k_runV C dX12_answeredBy_14 (e_X12_sumBy (d := 2) (Nat.le_refl _) (k_aM18 w) h14) k_lX12_382 k_yX12_sumBy (k_oM0 w) (by omega) rfl (Nat.le_of_ble_eq_true rfl)) ?_
  exact k_iret C dX12_answeredBy_17 hr (Option.some.inj h)
def f_X12_nth (x1 : Int32) (x2 : Int32) (a3 : Nat) (σ : k_St) : Option (k_St) :=
  k_loop (fun (g6 : Int32 × Int32 × k_St → Option (k_St)) (z6 : Int32 × Int32 × k_St) => match z6 with
    | (v4_6, v5_6, s_6) =>
      k_if (v5_6 < (0 : Int32))
        (some s_6)
        (k_gd (¬ x2 = 0) <|
        k_gd (k_ix v5_6 (k_nM a3) = true) <|
        k_nm (k_wr s_6 a3 v5_6.toNatClampNeg (o_rem v4_6 x2)) fun s18 =>
        k_gd (¬ x2 = 0) <|
        k_nm ((v4_6 / x2)) fun y23 =>
        k_nm (v5_6 + (-1 : Int32)) fun y25 =>
        g6 (y23, y25, s18))) 100000 (x1, (3 : Int32), σ)
set_option maxHeartbeats 4000000 in
set_option maxRecDepth 100000 in
theorem e_X12_nth {l : Launch} {w : k_WC} {d : Nat} (hd : 2 ≤ d) {x1 : Int32} {x2 : Int32} {a3 : Nat} (ha3 : k_AI (k_PM w) .int a3 (w.2.1 a3) (k_nM a3)) {σ σ' : k_St} (h : f_X12_nth x1 x2 a3 σ = some σ') : k_EV l (k_PM w) yX12_nth cX12_nth 6 d [.ref (w.2.1 0), .int x1, .int x2, .ref (w.2.1 a3)] σ σ' := by
  refine k_of (own := RX12) rfl (by decide) (Nat.le_of_ble_eq_true rfl) (fun X hX C hr => ?_)
  show k_K (k_PM w) X (k_MQ X (k_Qv (k_PM w) σ') (k_PM w).2.2.1) 0 [(0, .ref (w.2.1 0)), (1, .int x1), (2, .int x2), (3, .ref (w.2.1 a3))] [] σ
  unfold f_X12_nth at h
  refine k_iload_n C dX12_nth_0 1 rfl ?_
  refine k_istore C dX12_nth_1 (by decide) [1, 2, 3, 4, 0] (L' := [(0, .ref (w.2.1 0)), (1, .int x1), (2, .int x2), (3, .ref (w.2.1 a3)), (4, .int x1)]) rfl ?_
  refine k_iconst C dX12_nth_3 (v := 3) rfl ?_
  refine k_istore C dX12_nth_4 (by decide) [1, 2, 3, 4, 5, 0] (L' := [(0, .ref (w.2.1 0)), (1, .int x1), (2, .int x2), (3, .ref (w.2.1 a3)), (4, .int x1), (5, .int (3 : Int32))]) rfl ?_
  obtain ⟨b6, eb6, h⟩ := k_lp_e h
  have K6 : ∀ (n : Nat) (v4_6 : Int32) (v5_6 : Int32) (s_6 : k_St), k_loop b6 n (v4_6, v5_6, s_6) = some σ' → k_K (k_PM w) X (k_MQ X (k_Qv (k_PM w) σ') (k_PM w).2.2.1) 6 [(2, .int x2), (3, .ref (w.2.1 a3)), (4, .int v4_6), (5, .int v5_6)] [] s_6 := by
    intro n
    induction n with
    | zero => intro v4_6 v5_6 s_6 h; cases h
    | succ n ih6 =>
      intro v4_6 v5_6 s_6 h
      obtain ⟨g6, eg6, h⟩ := k_lp_s h
      rw [← eg6] at ih6
      rw [eb6] at h
      refine k_iload C dX12_nth_6 3 rfl ?_
      refine k_if_lt C dX12_nth_8 (tgt := 31) (by decide) (fun c8 => ?_) (fun c8 => ?_)
      · replace h := k_if_t h c8
        exact k_vret C dX12_nth_31 hr (Option.some.inj h)
      · replace h := k_if_f h c8
        refine k_aload_n C dX12_nth_11 1 rfl ?_
        refine k_iload C dX12_nth_12 3 rfl ?_
        refine k_iload C dX12_nth_14 2 rfl ?_
        refine k_iload_n C dX12_nth_16 0 rfl ?_
        obtain ⟨q17, h⟩ := k_gd_e h
        refine k_irem C dX12_nth_17 q17 ?_
        obtain ⟨q18, h⟩ := k_gd_e h
        refine k_iast C dX12_nth_18 ha3 q18 ?_
        refine k_st (fun s18 es18 => ?_)
        replace h := k_nm_e h s18 es18
        refine k_iload C dX12_nth_19 2 rfl ?_
        refine k_iload_n C dX12_nth_21 0 rfl ?_
        obtain ⟨q22, h⟩ := k_gd_e h
        refine k_idiv C dX12_nth_22 q22 ?_
        refine k_topi (fun y23 ey23 => ?_)
        replace h := k_nm_e h y23 ey23
        refine k_istore C dX12_nth_23 (by decide) [1, 2, 0, 3] (L' := [(2, .int x2), (3, .ref (w.2.1 a3)), (4, .int y23), (5, .int v5_6)]) rfl ?_
        refine k_iinc C dX12_nth_25 3 rfl (v := -1) rfl (by decide) [1, 2, 3, 0] (L' := fun z9 => [(2, .int x2), (3, .ref (w.2.1 a3)), (4, .int y23), (5, .int z9)]) (fun z9 => rfl) (fun y25 ey25 => ?_)
        replace h := k_nm_e h y25 ey25
        refine k_goto C dX12_nth_28 (tgt := 6) (by decide) ?_
        exact ih6 _ _ _ h
  refine k_sub (L' := [(2, .int x2), (3, .ref (w.2.1 a3)), (4, .int x1), (5, .int (3 : Int32))]) [2, 3, 4, 5] rfl ?_
  exact K6 _ _ _ _ h
def f_X12_layTongue (x1 : Int32) (σ : k_St) : Option (k_St) :=
  k_nm (k_wr σ 0 35 (-1 : Int32)) fun s2 =>
  k_loop (fun (g7 : Int32 × k_St → Option (k_St)) (z7 : Int32 × k_St) => match z7 with
    | (v2_7, s_7) =>
      k_if ((((x1 * x1) * x1) * x1) ≤ v2_7)
        (some s_7)
        (k_bd (f_X12_nth v2_7 x1 16 s_7) fun s25 =>
        k_b2 (f_X12_answeredBy 16 s25) fun v33 s33 =>
        k_if (v33 ≤ (k_rd s33 0 35))
          (k_nm (v2_7 + (1 : Int32)) fun y61 =>
          g7 (y61, s33))
          (k_nm (k_wr s33 0 35 v33) fun s47 =>
          k_bd (f_X12_packed 16 s47) fun v55 =>
          k_nm (k_wr s47 0 34 v55) fun s58 =>
          k_nm (v2_7 + (1 : Int32)) fun y61 =>
          g7 (y61, s58)))) 100000 ((0 : Int32), s2)
set_option maxHeartbeats 4000000 in
set_option maxRecDepth 100000 in
theorem e_X12_layTongue {l : Launch} {w : k_WC} {d : Nat} (hd : 10 ≤ d) {x1 : Int32}  {σ σ' : k_St} (h : f_X12_layTongue x1 σ = some σ') : k_EV l (k_PM w) yX12_layTongue cX12_layTongue 4 d [.ref (w.2.1 0), .int x1] σ σ' := by
  refine k_of (own := RX12) rfl (by decide) (Nat.le_of_ble_eq_true rfl) (fun X hX C hr => ?_)
  show k_K (k_PM w) X (k_MQ X (k_Qv (k_PM w) σ') (k_PM w).2.2.1) 0 [(0, .ref (w.2.1 0)), (1, .int x1)] [] σ
  unfold f_X12_layTongue at h
  refine k_aload_n C dX12_layTongue_0 0 rfl ?_
  refine k_iconst C dX12_layTongue_1 (v := -1) rfl ?_
  refine k_puti C dX12_layTongue_2 (k_pM0_35 w) k_fX12_392 (Or.inl rfl) k_xi ?_
  refine k_st (fun s2 es2 => ?_)
  replace h := k_nm_e h s2 es2
  refine k_iconst C dX12_layTongue_5 (v := 0) rfl ?_
  refine k_istore_n C dX12_layTongue_6 (by decide) [1, 2, 0] (L' := [(0, .ref (w.2.1 0)), (1, .int x1), (2, .int (0 : Int32))]) rfl ?_
  obtain ⟨b7, eb7, h⟩ := k_lp_e h
  have K7 : ∀ (n : Nat) (v2_7 : Int32) (s_7 : k_St), k_loop b7 n (v2_7, s_7) = some σ' → k_K (k_PM w) X (k_MQ X (k_Qv (k_PM w) σ') (k_PM w).2.2.1) 7 [(0, .ref (w.2.1 0)), (1, .int x1), (2, .int v2_7)] [] s_7 := by
    intro n
    induction n with
    | zero => intro v2_7 s_7 h; cases h
    | succ n ih7 =>
      intro v2_7 s_7 h
      obtain ⟨g7, eg7, h⟩ := k_lp_s h
      rw [← eg7] at ih7
      rw [eb7] at h
      refine k_iload_n C dX12_layTongue_7 2 rfl ?_
      refine k_iload_n C dX12_layTongue_8 1 rfl ?_
      refine k_iload_n C dX12_layTongue_9 1 rfl ?_
      refine k_imul C dX12_layTongue_10 ?_
      refine k_iload_n C dX12_layTongue_11 1 rfl ?_
      refine k_imul C dX12_layTongue_12 ?_
      refine k_iload_n C dX12_layTongue_13 1 rfl ?_
      refine k_imul C dX12_layTongue_14 ?_
      refine k_icmp_ge C dX12_layTongue_15 (tgt := 67) (by decide) (fun c15 => ?_) (fun c15 => ?_)
      · replace h := k_if_t h c15
        exact k_vret C dX12_layTongue_67 hr (Option.some.inj h)
      · replace h := k_if_f h c15
        refine k_aload_n C dX12_layTongue_18 0 rfl ?_
        refine k_iload_n C dX12_layTongue_19 2 rfl ?_
        refine k_iload_n C dX12_layTongue_20 1 rfl ?_
        refine k_aload_n C dX12_layTongue_21 0 rfl ?_
        refine k_get C dX12_layTongue_22 (k_gM0_31 w) k_fX12_59 (Or.inl rfl) ?_
        obtain ⟨s25, h25, h⟩ := k_bd_e h
        refine k_goV (k_runV C dX12_layTongue_25 (e_X12_nth (d := 2) (Nat.le_refl _) (k_aM16 w) h25) k_lX12_395 k_yX12_nth (k_oM0 w) (by omega) rfl (Nat.le_of_ble_eq_true rfl)) ?_
        refine k_aload_n C dX12_layTongue_28 0 rfl ?_
        refine k_aload_n C dX12_layTongue_29 0 rfl ?_
        refine k_get C dX12_layTongue_30 (k_gM0_31 w) k_fX12_59 (Or.inl rfl) ?_
        obtain ⟨v33, s33, h33, h⟩ := k_b2_e h
        refine k_goI (k_runV C dX12_layTongue_33 (e_X12_answeredBy (d := 9) (Nat.le_refl _) (k_aM16 w) h33) k_lX12_399 k_yX12_answeredBy (k_oM0 w) (by omega) rfl (Nat.le_of_ble_eq_true rfl)) ?_
        refine k_istore_n C dX12_layTongue_36 (by decide) [1, 2, 3, 0] (L' := [(0, .ref (w.2.1 0)), (1, .int x1), (2, .int v2_7), (3, .int v33)]) rfl ?_
        refine k_iload_n C dX12_layTongue_37 3 rfl ?_
        refine k_aload_n C dX12_layTongue_38 0 rfl ?_
        refine k_get C dX12_layTongue_39 (k_gM0_35 w) k_fX12_392 (Or.inl rfl) ?_
        refine k_icmp_le C dX12_layTongue_42 (tgt := 61) (by decide) (fun c42 => ?_) (fun c42 => ?_)
        · replace h := k_if_t h c42
          refine k_iinc C dX12_layTongue_61 2 rfl (v := 1) rfl (by decide) [1, 2, 0, 3] (L' := fun z9 => [(0, .ref (w.2.1 0)), (1, .int x1), (2, .int z9), (3, .int v33)]) (fun z9 => rfl) (fun y61 ey61 => ?_)
          replace h := k_nm_e h y61 ey61
          refine k_goto C dX12_layTongue_64 (tgt := 7) (by decide) ?_
          refine k_sub (L' := [(0, .ref (w.2.1 0)), (1, .int x1), (2, .int y61)]) [0, 1, 2] rfl ?_
          exact ih7 _ _ h
        · replace h := k_if_f h c42
          refine k_aload_n C dX12_layTongue_45 0 rfl ?_
          refine k_iload_n C dX12_layTongue_46 3 rfl ?_
          refine k_puti C dX12_layTongue_47 (k_pM0_35 w) k_fX12_392 (Or.inl rfl) k_xi ?_
          refine k_st (fun s47 es47 => ?_)
          replace h := k_nm_e h s47 es47
          refine k_aload_n C dX12_layTongue_50 0 rfl ?_
          refine k_aload_n C dX12_layTongue_51 0 rfl ?_
          refine k_get C dX12_layTongue_52 (k_gM0_31 w) k_fX12_59 (Or.inl rfl) ?_
          obtain ⟨v55, h55, h⟩ := k_bd_e h
          refine k_goI (k_runS C dX12_layTongue_55 (e_X12_packed (d := 2) (Nat.le_refl _) (k_aM16 w) h55) k_lX12_402 k_yX12_packed (by omega) rfl (Nat.le_of_ble_eq_true rfl)) ?_
          refine k_puti C dX12_layTongue_58 (k_pM0_34 w) k_fX12_405 (Or.inl rfl) k_xi ?_
          refine k_st (fun s58 es58 => ?_)
          replace h := k_nm_e h s58 es58
          refine k_iinc C dX12_layTongue_61 2 rfl (v := 1) rfl (by decide) [1, 2, 0, 3] (L' := fun z9 => [(0, .ref (w.2.1 0)), (1, .int x1), (2, .int z9), (3, .int v33)]) (fun z9 => rfl) (fun y61 ey61 => ?_)
          replace h := k_nm_e h y61 ey61
          refine k_goto C dX12_layTongue_64 (tgt := 7) (by decide) ?_
          refine k_sub (L' := [(0, .ref (w.2.1 0)), (1, .int x1), (2, .int y61)]) [0, 1, 2] rfl ?_
          exact ih7 _ _ h
  exact K7 _ _ _ h
def f_X12_tongue (x1 : Int32) (x2 : Int32) (σ : k_St) : Option (Int32 × k_St) :=
  k_if ((k_rd σ 0 21) = (0 : Int32))
    (some ((-1 : Int32), σ))
    (k_bd (f_X12_in x1 (1 : Int32) (4 : Int32)) fun v10 =>
    k_if (v10 = (0 : Int32))
      (some ((-1 : Int32), σ))
      (k_bd (f_X12_in x2 (0 : Int32) (2 : Int32)) fun v19 =>
      k_if (v19 = (0 : Int32))
        (some ((-1 : Int32), σ))
        (k_bd (f_X12_layTongue x1 σ) fun s29 =>
        k_if (x2 = (0 : Int32))
          (some ((k_rd s29 0 34), s29))
          (k_bd (f_X12_plain (k_rd s29 0 35) (x2 - (1 : Int32)) s29) fun v51 =>
          some (v51, s29)))))
set_option maxHeartbeats 4000000 in
set_option maxRecDepth 100000 in
theorem e_X12_tongue {l : Launch} {w : k_WC} {d : Nat} (hd : 205 ≤ d) {x1 : Int32} {x2 : Int32}  {σ σ' : k_St} {r : Int32} (h : f_X12_tongue x1 x2 σ = some (r, σ')) : k_EI l (k_PM w) yX12_tongue cX12_tongue 3 (some .int) d [.ref (w.2.1 0), .int x1, .int x2] σ r σ' := by
  refine k_of (own := RX12) rfl (by decide) (Nat.le_of_ble_eq_true rfl) (fun X hX C hr => ?_)
  show k_K (k_PM w) X (k_MQ X (k_Qi (k_PM w) r σ') (k_PM w).2.2.1) 0 [(0, .ref (w.2.1 0)), (1, .int x1), (2, .int x2)] [] σ
  unfold f_X12_tongue at h
  refine k_aload_n C dX12_tongue_0 0 rfl ?_
  refine k_get C dX12_tongue_1 (k_gM0_21 w) k_fX12_306 (Or.inl rfl) ?_
  refine k_if_eq C dX12_tongue_4 (tgt := 25) (by decide) (fun c4 => ?_) (fun c4 => ?_)
  · replace h := k_if_t h c4
    refine k_iconst C dX12_tongue_25 (v := -1) rfl ?_
    exact k_iret C dX12_tongue_26 hr (Option.some.inj h)
  · replace h := k_if_f h c4
    refine k_iload_n C dX12_tongue_7 1 rfl ?_
    refine k_iconst C dX12_tongue_8 (v := 1) rfl ?_
    refine k_iconst C dX12_tongue_9 (v := 4) rfl ?_
    obtain ⟨v10, h10, h⟩ := k_bd_e h
    refine k_goI (k_runS C dX12_tongue_10 (e_X12_in (d := 2) (Nat.le_refl _) h10) k_lX12_269 k_yX12_in (by omega) rfl (Nat.le_of_ble_eq_true rfl)) ?_
    refine k_if_eq C dX12_tongue_13 (tgt := 25) (by decide) (fun c13 => ?_) (fun c13 => ?_)
    · replace h := k_if_t h c13
      refine k_iconst C dX12_tongue_25 (v := -1) rfl ?_
      exact k_iret C dX12_tongue_26 hr (Option.some.inj h)
    · replace h := k_if_f h c13
      refine k_iload_n C dX12_tongue_16 2 rfl ?_
      refine k_iconst C dX12_tongue_17 (v := 0) rfl ?_
      refine k_iconst C dX12_tongue_18 (v := 2) rfl ?_
      obtain ⟨v19, h19, h⟩ := k_bd_e h
      refine k_goI (k_runS C dX12_tongue_19 (e_X12_in (d := 2) (Nat.le_refl _) h19) k_lX12_269 k_yX12_in (by omega) rfl (Nat.le_of_ble_eq_true rfl)) ?_
      refine k_if_ne C dX12_tongue_22 (tgt := 27) (by decide) (fun c22 => ?_) (fun c22 => ?_)
      · replace h := k_if_f h c22
        refine k_aload_n C dX12_tongue_27 0 rfl ?_
        refine k_iload_n C dX12_tongue_28 1 rfl ?_
        obtain ⟨s29, h29, h⟩ := k_bd_e h
        refine k_goV (k_runV C dX12_tongue_29 (e_X12_layTongue (d := 10) (Nat.le_refl _) h29) k_lX12_408 k_yX12_layTongue (k_oM0 w) (by omega) rfl (Nat.le_of_ble_eq_true rfl)) ?_
        refine k_iload_n C dX12_tongue_32 2 rfl ?_
        refine k_if_ne C dX12_tongue_33 (tgt := 43) (by decide) (fun c33 => ?_) (fun c33 => ?_)
        · replace h := k_if_f h c33
          refine k_aload_n C dX12_tongue_43 0 rfl ?_
          refine k_aload_n C dX12_tongue_44 0 rfl ?_
          refine k_get C dX12_tongue_45 (k_gM0_35 w) k_fX12_392 (Or.inl rfl) ?_
          refine k_iload_n C dX12_tongue_48 2 rfl ?_
          refine k_iconst C dX12_tongue_49 (v := 1) rfl ?_
          refine k_isub C dX12_tongue_50 ?_
          obtain ⟨v51, h51, h⟩ := k_bd_e h
          refine k_goI (k_runV C dX12_tongue_51 (e_X12_plain (d := 204) (Nat.le_refl _) h51) k_lX12_386 k_yX12_plain (k_oM0 w) (by omega) rfl (Nat.le_of_ble_eq_true rfl)) ?_
          exact k_iret C dX12_tongue_54 hr (Option.some.inj h)
        · replace h := k_if_t h c33
          refine k_aload_n C dX12_tongue_36 0 rfl ?_
          refine k_get C dX12_tongue_37 (k_gM0_34 w) k_fX12_405 (Or.inl rfl) ?_
          refine k_goto C dX12_tongue_40 (tgt := 54) (by decide) ?_
          exact k_iret C dX12_tongue_54 hr (Option.some.inj h)
      · replace h := k_if_t h c22
        refine k_iconst C dX12_tongue_25 (v := -1) rfl ?_
        exact k_iret C dX12_tongue_26 hr (Option.some.inj h)
def f_X12_sense (x1 : Int32) (x2 : Int32) (x3 : Int32) (σ : k_St) : Option (Int32 × k_St) :=
  k_if ((k_rd σ 0 21) = (0 : Int32))
    (some ((-1 : Int32), σ))
    (k_bd (f_X12_in x3 (0 : Int32) (1 : Int32)) fun v10 =>
    k_if (v10 = (0 : Int32))
      (some ((-1 : Int32), σ))
      (k_nm ((k_rd σ 0 26)) fun y22 =>
      k_nm ((k_rd σ 0 27)) fun y28 =>
      k_gd (o_isB x1 = true) <|
      k_nm (k_wr σ 0 26 x1) fun s32 =>
      k_gd (o_isB x2 = true) <|
      k_nm (k_wr s32 0 27 x2) fun s37 =>
      k_bd (f_X12_layTongue (k_rd s37 0 22) s37) fun s45 =>
      k_gd (o_isB y22 = true) <|
      k_nm (k_wr s45 0 26 y22) fun s51 =>
      k_gd (o_isB y28 = true) <|
      k_nm (k_wr s51 0 27 y28) fun s57 =>
      k_bd (f_X12_plain (k_rd s57 0 35) x3 s57) fun v66 =>
      some (v66, s57)))
set_option maxHeartbeats 4000000 in
set_option maxRecDepth 100000 in
theorem e_X12_sense {l : Launch} {w : k_WC} {d : Nat} (hd : 205 ≤ d) {x1 : Int32} {x2 : Int32} {x3 : Int32}  {σ σ' : k_St} {r : Int32} (h : f_X12_sense x1 x2 x3 σ = some (r, σ')) : k_EI l (k_PM w) yX12_sense cX12_sense 6 (some .int) d [.ref (w.2.1 0), .int x1, .int x2, .int x3] σ r σ' := by
  refine k_of (own := RX12) rfl (by decide) (Nat.le_of_ble_eq_true rfl) (fun X hX C hr => ?_)
  show k_K (k_PM w) X (k_MQ X (k_Qi (k_PM w) r σ') (k_PM w).2.2.1) 0 [(0, .ref (w.2.1 0)), (1, .int x1), (2, .int x2), (3, .int x3)] [] σ
  unfold f_X12_sense at h
  refine k_aload_n C dX12_sense_0 0 rfl ?_
  refine k_get C dX12_sense_1 (k_gM0_21 w) k_fX12_306 (Or.inl rfl) ?_
  refine k_if_eq C dX12_sense_4 (tgt := 16) (by decide) (fun c4 => ?_) (fun c4 => ?_)
  · replace h := k_if_t h c4
    refine k_iconst C dX12_sense_16 (v := -1) rfl ?_
    exact k_iret C dX12_sense_17 hr (Option.some.inj h)
  · replace h := k_if_f h c4
    refine k_iload_n C dX12_sense_7 3 rfl ?_
    refine k_iconst C dX12_sense_8 (v := 0) rfl ?_
    refine k_iconst C dX12_sense_9 (v := 1) rfl ?_
    obtain ⟨v10, h10, h⟩ := k_bd_e h
    refine k_goI (k_runS C dX12_sense_10 (e_X12_in (d := 2) (Nat.le_refl _) h10) k_lX12_269 k_yX12_in (by omega) rfl (Nat.le_of_ble_eq_true rfl)) ?_
    refine k_if_ne C dX12_sense_13 (tgt := 18) (by decide) (fun c13 => ?_) (fun c13 => ?_)
    · replace h := k_if_f h c13
      refine k_aload_n C dX12_sense_18 0 rfl ?_
      refine k_get C dX12_sense_19 (k_gM0_26 w) k_fX12_315 (Or.inl rfl) ?_
      refine k_topi (fun y22 ey22 => ?_)
      replace h := k_nm_e h y22 ey22
      refine k_istore C dX12_sense_22 (by decide) [1, 2, 3, 4, 0] (L' := [(0, .ref (w.2.1 0)), (1, .int x1), (2, .int x2), (3, .int x3), (4, .int y22)]) rfl ?_
      refine k_aload_n C dX12_sense_24 0 rfl ?_
      refine k_get C dX12_sense_25 (k_gM0_27 w) k_fX12_319 (Or.inl rfl) ?_
      refine k_topi (fun y28 ey28 => ?_)
      replace h := k_nm_e h y28 ey28
      refine k_istore C dX12_sense_28 (by decide) [1, 2, 3, 4, 5, 0] (L' := [(0, .ref (w.2.1 0)), (1, .int x1), (2, .int x2), (3, .int x3), (4, .int y22), (5, .int y28)]) rfl ?_
      refine k_aload_n C dX12_sense_30 0 rfl ?_
      refine k_iload_n C dX12_sense_31 1 rfl ?_
      obtain ⟨r32, h⟩ := k_gd_e h
      refine k_puti C dX12_sense_32 (k_pM0_26 w) k_fX12_315 (Or.inl rfl) (k_xz r32) ?_
      refine k_st (fun s32 es32 => ?_)
      replace h := k_nm_e h s32 es32
      refine k_aload_n C dX12_sense_35 0 rfl ?_
      refine k_iload_n C dX12_sense_36 2 rfl ?_
      obtain ⟨r37, h⟩ := k_gd_e h
      refine k_puti C dX12_sense_37 (k_pM0_27 w) k_fX12_319 (Or.inl rfl) (k_xz r37) ?_
      refine k_st (fun s37 es37 => ?_)
      replace h := k_nm_e h s37 es37
      refine k_aload_n C dX12_sense_40 0 rfl ?_
      refine k_aload_n C dX12_sense_41 0 rfl ?_
      refine k_get C dX12_sense_42 (k_gM0_22 w) k_fX12_309 (Or.inl rfl) ?_
      obtain ⟨s45, h45, h⟩ := k_bd_e h
      refine k_goV (k_runV C dX12_sense_45 (e_X12_layTongue (d := 10) (Nat.le_refl _) h45) k_lX12_408 k_yX12_layTongue (k_oM0 w) (by omega) rfl (Nat.le_of_ble_eq_true rfl)) ?_
      refine k_aload_n C dX12_sense_48 0 rfl ?_
      refine k_iload C dX12_sense_49 4 rfl ?_
      obtain ⟨r51, h⟩ := k_gd_e h
      refine k_puti C dX12_sense_51 (k_pM0_26 w) k_fX12_315 (Or.inl rfl) (k_xz r51) ?_
      refine k_st (fun s51 es51 => ?_)
      replace h := k_nm_e h s51 es51
      refine k_aload_n C dX12_sense_54 0 rfl ?_
      refine k_iload C dX12_sense_55 5 rfl ?_
      obtain ⟨r57, h⟩ := k_gd_e h
      refine k_puti C dX12_sense_57 (k_pM0_27 w) k_fX12_319 (Or.inl rfl) (k_xz r57) ?_
      refine k_st (fun s57 es57 => ?_)
      replace h := k_nm_e h s57 es57
      refine k_aload_n C dX12_sense_60 0 rfl ?_
      refine k_aload_n C dX12_sense_61 0 rfl ?_
      refine k_get C dX12_sense_62 (k_gM0_35 w) k_fX12_392 (Or.inl rfl) ?_
      refine k_iload_n C dX12_sense_65 3 rfl ?_
      obtain ⟨v66, h66, h⟩ := k_bd_e h
      refine k_goI (k_runV C dX12_sense_66 (e_X12_plain (d := 204) (Nat.le_refl _) h66) k_lX12_386 k_yX12_plain (k_oM0 w) (by omega) rfl (Nat.le_of_ble_eq_true rfl)) ?_
      exact k_iret C dX12_sense_69 hr (Option.some.inj h)
    · replace h := k_if_t h c13
      refine k_iconst C dX12_sense_16 (v := -1) rfl ?_
      exact k_iret C dX12_sense_17 hr (Option.some.inj h)
def f_X12_isSettled (x1 : Int32) (σ : k_St) : Option (Int32 × k_St) :=
  k_bd (f_X12_nth x1 (k_rd σ 0 22) 16 σ) fun s10 =>
  k_b2 (f_X12_answeredBy 16 s10) fun v18 s18 =>
  k_loop (fun (g24 : Int32 × k_St → Option (Int32 × k_St)) (z24 : Int32 × k_St) => match z24 with
    | (v3_24, s_24) =>
      k_if ((16 : Int32) ≤ v3_24)
        (k_loop (fun (g50 : Int32 × k_St → Option (Int32 × k_St)) (z50 : Int32 × k_St) => match z50 with
          | (v3_50, s_50) =>
            k_if (((((k_rd s_50 0 22) * (k_rd s_50 0 22)) * (k_rd s_50 0 22)) * (k_rd s_50 0 22)) ≤ v3_50)
              (some ((1 : Int32), s_50))
              (k_bd (f_X12_nth v3_50 (k_rd s_50 0 22) 20 s_50) fun s83 =>
              k_bd (f_X12_layBrings 20 s83) fun s91 =>
              k_bd (f_X12_sumBy 19 s91) fun v99 =>
              k_if (v99 ≤ v18)
                (k_nm (v3_50 + (1 : Int32)) fun y108 =>
                g50 (y108, s91))
                (some ((0 : Int32), s91)))) 100000 ((0 : Int32), s_24))
        (k_gd (k_ix v3_24 16 = true) <|
        k_gd (k_ix v3_24 16 = true) <|
        k_nm (k_wr s_24 19 v3_24.toNatClampNeg (k_rd s_24 18 v3_24.toNatClampNeg)) fun s41 =>
        k_nm (v3_24 + (1 : Int32)) fun y42 =>
        g24 (y42, s41))) 100000 ((0 : Int32), s18)
set_option maxHeartbeats 4000000 in
set_option maxRecDepth 100000 in
theorem e_X12_isSettled {l : Launch} {w : k_WC} {d : Nat} (hd : 10 ≤ d) {x1 : Int32}  {σ σ' : k_St} {r : Int32} (h : f_X12_isSettled x1 σ = some (r, σ')) : k_EI l (k_PM w) yX12_isSettled cX12_isSettled 4 (some .boolean) d [.ref (w.2.1 0), .int x1] σ r σ' := by
  refine k_of (own := RX12) rfl (by decide) (Nat.le_of_ble_eq_true rfl) (fun X hX C hr => ?_)
  show k_K (k_PM w) X (k_MQ X (k_Qi (k_PM w) r σ') (k_PM w).2.2.1) 0 [(0, .ref (w.2.1 0)), (1, .int x1)] [] σ
  unfold f_X12_isSettled at h
  refine k_aload_n C dX12_isSettled_0 0 rfl ?_
  refine k_iload_n C dX12_isSettled_1 1 rfl ?_
  refine k_aload_n C dX12_isSettled_2 0 rfl ?_
  refine k_get C dX12_isSettled_3 (k_gM0_22 w) k_fX12_309 (Or.inl rfl) ?_
  refine k_aload_n C dX12_isSettled_6 0 rfl ?_
  refine k_get C dX12_isSettled_7 (k_gM0_31 w) k_fX12_59 (Or.inl rfl) ?_
  obtain ⟨s10, h10, h⟩ := k_bd_e h
  refine k_goV (k_runV C dX12_isSettled_10 (e_X12_nth (d := 2) (Nat.le_refl _) (k_aM16 w) h10) k_lX12_395 k_yX12_nth (k_oM0 w) (by omega) rfl (Nat.le_of_ble_eq_true rfl)) ?_
  refine k_aload_n C dX12_isSettled_13 0 rfl ?_
  refine k_aload_n C dX12_isSettled_14 0 rfl ?_
  refine k_get C dX12_isSettled_15 (k_gM0_31 w) k_fX12_59 (Or.inl rfl) ?_
  obtain ⟨v18, s18, h18, h⟩ := k_b2_e h
  refine k_goI (k_runV C dX12_isSettled_18 (e_X12_answeredBy (d := 9) (Nat.le_refl _) (k_aM16 w) h18) k_lX12_399 k_yX12_answeredBy (k_oM0 w) (by omega) rfl (Nat.le_of_ble_eq_true rfl)) ?_
  refine k_istore_n C dX12_isSettled_21 (by decide) [1, 2, 0] (L' := [(0, .ref (w.2.1 0)), (1, .int x1), (2, .int v18)]) rfl ?_
  refine k_iconst C dX12_isSettled_22 (v := 0) rfl ?_
  refine k_istore_n C dX12_isSettled_23 (by decide) [1, 2, 3, 0] (L' := [(0, .ref (w.2.1 0)), (1, .int x1), (2, .int v18), (3, .int (0 : Int32))]) rfl ?_
  obtain ⟨b24, eb24, h⟩ := k_lp_e h
  have K24 : ∀ (n : Nat) (v3_24 : Int32) (s_24 : k_St), k_loop b24 n (v3_24, s_24) = some (r, σ') → k_K (k_PM w) X (k_MQ X (k_Qi (k_PM w) r σ') (k_PM w).2.2.1) 24 [(0, .ref (w.2.1 0)), (2, .int v18), (3, .int v3_24)] [] s_24 := by
    intro n
    induction n with
    | zero => intro v3_24 s_24 h; cases h
    | succ n ih24 =>
      intro v3_24 s_24 h
      obtain ⟨g24, eg24, h⟩ := k_lp_s h
      rw [← eg24] at ih24
      rw [eb24] at h
      refine k_iload_n C dX12_isSettled_24 2 rfl ?_
      refine k_bipush C dX12_isSettled_25 (v := 16) rfl ?_
      refine k_icmp_ge C dX12_isSettled_27 (tgt := 48) (by decide) (fun c27 => ?_) (fun c27 => ?_)
      · replace h := k_if_t h c27
        refine k_iconst C dX12_isSettled_48 (v := 0) rfl ?_
        refine k_istore_n C dX12_isSettled_49 (by decide) [1, 2, 0] (L' := [(0, .ref (w.2.1 0)), (2, .int v18), (3, .int (0 : Int32))]) rfl ?_
        obtain ⟨b50, eb50, h⟩ := k_lp_e h
        have K50 : ∀ (n : Nat) (v3_50 : Int32) (s_50 : k_St), k_loop b50 n (v3_50, s_50) = some (r, σ') → k_K (k_PM w) X (k_MQ X (k_Qi (k_PM w) r σ') (k_PM w).2.2.1) 50 [(0, .ref (w.2.1 0)), (2, .int v18), (3, .int v3_50)] [] s_50 := by
          intro n
          induction n with
          | zero => intro v3_50 s_50 h; cases h
          | succ n ih50 =>
            intro v3_50 s_50 h
            obtain ⟨g50, eg50, h⟩ := k_lp_s h
            rw [← eg50] at ih50
            rw [eb50] at h
            refine k_iload_n C dX12_isSettled_50 2 rfl ?_
            refine k_aload_n C dX12_isSettled_51 0 rfl ?_
            refine k_get C dX12_isSettled_52 (k_gM0_22 w) k_fX12_309 (Or.inl rfl) ?_
            refine k_aload_n C dX12_isSettled_55 0 rfl ?_
            refine k_get C dX12_isSettled_56 (k_gM0_22 w) k_fX12_309 (Or.inl rfl) ?_
            refine k_imul C dX12_isSettled_59 ?_
            refine k_aload_n C dX12_isSettled_60 0 rfl ?_
            refine k_get C dX12_isSettled_61 (k_gM0_22 w) k_fX12_309 (Or.inl rfl) ?_
            refine k_imul C dX12_isSettled_64 ?_
            refine k_aload_n C dX12_isSettled_65 0 rfl ?_
            refine k_get C dX12_isSettled_66 (k_gM0_22 w) k_fX12_309 (Or.inl rfl) ?_
            refine k_imul C dX12_isSettled_69 ?_
            refine k_icmp_ge C dX12_isSettled_70 (tgt := 114) (by decide) (fun c70 => ?_) (fun c70 => ?_)
            · replace h := k_if_t h c70
              refine k_iconst C dX12_isSettled_114 (v := 1) rfl ?_
              exact k_zret C dX12_isSettled_115 hr rfl (Option.some.inj h)
            · replace h := k_if_f h c70
              refine k_aload_n C dX12_isSettled_73 0 rfl ?_
              refine k_iload_n C dX12_isSettled_74 2 rfl ?_
              refine k_aload_n C dX12_isSettled_75 0 rfl ?_
              refine k_get C dX12_isSettled_76 (k_gM0_22 w) k_fX12_309 (Or.inl rfl) ?_
              refine k_aload_n C dX12_isSettled_79 0 rfl ?_
              refine k_get C dX12_isSettled_80 (k_gM0_37 w) k_fX12_71 (Or.inl rfl) ?_
              obtain ⟨s83, h83, h⟩ := k_bd_e h
              refine k_goV (k_runV C dX12_isSettled_83 (e_X12_nth (d := 2) (Nat.le_refl _) (k_aM20 w) h83) k_lX12_395 k_yX12_nth (k_oM0 w) (by omega) rfl (Nat.le_of_ble_eq_true rfl)) ?_
              refine k_aload_n C dX12_isSettled_86 0 rfl ?_
              refine k_aload_n C dX12_isSettled_87 0 rfl ?_
              refine k_get C dX12_isSettled_88 (k_gM0_37 w) k_fX12_71 (Or.inl rfl) ?_
              obtain ⟨s91, h91, h⟩ := k_bd_e h
              refine k_goV (k_runV C dX12_isSettled_91 (e_X12_layBrings (d := 8) (Nat.le_refl _) (k_aM20 w) h91) k_lX12_378 k_yX12_layBrings (k_oM0 w) (by omega) rfl (Nat.le_of_ble_eq_true rfl)) ?_
              refine k_aload_n C dX12_isSettled_94 0 rfl ?_
              refine k_aload_n C dX12_isSettled_95 0 rfl ?_
              refine k_get C dX12_isSettled_96 (k_gM0_36 w) k_fX12_68 (Or.inl rfl) ?_
              obtain ⟨v99, h99, h⟩ := k_bd_e h
              refine k_goI (k_runV C dX12_isSettled_99 (e_X12_sumBy (d := 2) (Nat.le_refl _) (k_aM19 w) h99) k_lX12_382 k_yX12_sumBy (k_oM0 w) (by omega) rfl (Nat.le_of_ble_eq_true rfl)) ?_
              refine k_iload_n C dX12_isSettled_102 1 rfl ?_
              refine k_icmp_le C dX12_isSettled_103 (tgt := 108) (by decide) (fun c103 => ?_) (fun c103 => ?_)
              · replace h := k_if_t h c103
                refine k_iinc C dX12_isSettled_108 2 rfl (v := 1) rfl (by decide) [1, 2, 0] (L' := fun z9 => [(0, .ref (w.2.1 0)), (2, .int v18), (3, .int z9)]) (fun z9 => rfl) (fun y108 ey108 => ?_)
                replace h := k_nm_e h y108 ey108
                refine k_goto C dX12_isSettled_111 (tgt := 50) (by decide) ?_
                exact ih50 _ _ h
              · replace h := k_if_f h c103
                refine k_iconst C dX12_isSettled_106 (v := 0) rfl ?_
                exact k_zret C dX12_isSettled_107 hr rfl (Option.some.inj h)
        exact K50 _ _ _ h
      · replace h := k_if_f h c27
        refine k_aload_n C dX12_isSettled_30 0 rfl ?_
        refine k_get C dX12_isSettled_31 (k_gM0_36 w) k_fX12_68 (Or.inl rfl) ?_
        refine k_iload_n C dX12_isSettled_34 2 rfl ?_
        refine k_aload_n C dX12_isSettled_35 0 rfl ?_
        refine k_get C dX12_isSettled_36 (k_gM0_33 w) k_fX12_65 (Or.inl rfl) ?_
        refine k_iload_n C dX12_isSettled_39 2 rfl ?_
        obtain ⟨q40, h⟩ := k_gd_e h
        refine k_iald C dX12_isSettled_40 (k_aM18 w) q40 ?_
        obtain ⟨q41, h⟩ := k_gd_e h
        refine k_iast C dX12_isSettled_41 (k_aM19 w) q41 ?_
        refine k_st (fun s41 es41 => ?_)
        replace h := k_nm_e h s41 es41
        refine k_iinc C dX12_isSettled_42 2 rfl (v := 1) rfl (by decide) [1, 2, 0] (L' := fun z9 => [(0, .ref (w.2.1 0)), (2, .int v18), (3, .int z9)]) (fun z9 => rfl) (fun y42 ey42 => ?_)
        replace h := k_nm_e h y42 ey42
        refine k_goto C dX12_isSettled_45 (tgt := 24) (by decide) ?_
        exact ih24 _ _ h
  refine k_sub (L' := [(0, .ref (w.2.1 0)), (2, .int v18), (3, .int (0 : Int32))]) [0, 2, 3] rfl ?_
  exact K24 _ _ _ h
def f_X12_settled (x1 : Int32) (σ : k_St) : Option (Int32 × k_St) :=
  k_if ((k_rd σ 0 21) = (0 : Int32))
    (some ((-1 : Int32), σ))
    (k_if ((-1 : Int32) ≤ x1)
      (k_loop (fun (g18 : Int32 × Int32 × k_St → Option (Int32 × k_St)) (z18 : Int32 × Int32 × k_St) => match z18 with
        | (v2_18, v3_18, s_18) =>
          k_if (((((k_rd s_18 0 22) * (k_rd s_18 0 22)) * (k_rd s_18 0 22)) * (k_rd s_18 0 22)) ≤ v3_18)
            (k_if (x1 = (-1 : Int32))
              (some (v2_18, s_18))
              (some ((-1 : Int32), s_18)))
            (k_b2 (f_X12_isSettled v3_18 s_18) fun v43 s43 =>
            k_if (v43 = (0 : Int32))
              (k_nm (v3_18 + (1 : Int32)) fun y78 =>
              g18 (v2_18, y78, s43))
              (k_if (v2_18 = x1)
                (k_bd (f_X12_nth v3_18 (k_rd s43 0 22) 16 s43) fun s64 =>
                k_bd (f_X12_packed 16 s64) fun v71 =>
                some (v71, s64))
                (k_nm (v2_18 + (1 : Int32)) fun y75 =>
                k_nm (v3_18 + (1 : Int32)) fun y78 =>
                g18 (y75, y78, s43))))) 100000 ((0 : Int32), (0 : Int32), σ))
      (some ((-1 : Int32), σ)))
set_option maxHeartbeats 4000000 in
set_option maxRecDepth 100000 in
theorem e_X12_settled {l : Launch} {w : k_WC} {d : Nat} (hd : 11 ≤ d) {x1 : Int32}  {σ σ' : k_St} {r : Int32} (h : f_X12_settled x1 σ = some (r, σ')) : k_EI l (k_PM w) yX12_settled cX12_settled 4 (some .int) d [.ref (w.2.1 0), .int x1] σ r σ' := by
  refine k_of (own := RX12) rfl (by decide) (Nat.le_of_ble_eq_true rfl) (fun X hX C hr => ?_)
  show k_K (k_PM w) X (k_MQ X (k_Qi (k_PM w) r σ') (k_PM w).2.2.1) 0 [(0, .ref (w.2.1 0)), (1, .int x1)] [] σ
  unfold f_X12_settled at h
  refine k_aload_n C dX12_settled_0 0 rfl ?_
  refine k_get C dX12_settled_1 (k_gM0_21 w) k_fX12_306 (Or.inl rfl) ?_
  refine k_if_eq C dX12_settled_4 (tgt := 12) (by decide) (fun c4 => ?_) (fun c4 => ?_)
  · replace h := k_if_t h c4
    refine k_iconst C dX12_settled_12 (v := -1) rfl ?_
    exact k_iret C dX12_settled_13 hr (Option.some.inj h)
  · replace h := k_if_f h c4
    refine k_iload_n C dX12_settled_7 1 rfl ?_
    refine k_iconst C dX12_settled_8 (v := -1) rfl ?_
    refine k_icmp_ge C dX12_settled_9 (tgt := 14) (by decide) (fun c9 => ?_) (fun c9 => ?_)
    · replace h := k_if_t h c9
      refine k_iconst C dX12_settled_14 (v := 0) rfl ?_
      refine k_istore_n C dX12_settled_15 (by decide) [1, 2, 0] (L' := [(0, .ref (w.2.1 0)), (1, .int x1), (2, .int (0 : Int32))]) rfl ?_
      refine k_iconst C dX12_settled_16 (v := 0) rfl ?_
      refine k_istore_n C dX12_settled_17 (by decide) [1, 2, 3, 0] (L' := [(0, .ref (w.2.1 0)), (1, .int x1), (2, .int (0 : Int32)), (3, .int (0 : Int32))]) rfl ?_
      obtain ⟨b18, eb18, h⟩ := k_lp_e h
      have K18 : ∀ (n : Nat) (v2_18 : Int32) (v3_18 : Int32) (s_18 : k_St), k_loop b18 n (v2_18, v3_18, s_18) = some (r, σ') → k_K (k_PM w) X (k_MQ X (k_Qi (k_PM w) r σ') (k_PM w).2.2.1) 18 [(0, .ref (w.2.1 0)), (1, .int x1), (2, .int v2_18), (3, .int v3_18)] [] s_18 := by
        intro n
        induction n with
        | zero => intro v2_18 v3_18 s_18 h; cases h
        | succ n ih18 =>
          intro v2_18 v3_18 s_18 h
          obtain ⟨g18, eg18, h⟩ := k_lp_s h
          rw [← eg18] at ih18
          rw [eb18] at h
          refine k_iload_n C dX12_settled_18 3 rfl ?_
          refine k_aload_n C dX12_settled_19 0 rfl ?_
          refine k_get C dX12_settled_20 (k_gM0_22 w) k_fX12_309 (Or.inl rfl) ?_
          refine k_aload_n C dX12_settled_23 0 rfl ?_
          refine k_get C dX12_settled_24 (k_gM0_22 w) k_fX12_309 (Or.inl rfl) ?_
          refine k_imul C dX12_settled_27 ?_
          refine k_aload_n C dX12_settled_28 0 rfl ?_
          refine k_get C dX12_settled_29 (k_gM0_22 w) k_fX12_309 (Or.inl rfl) ?_
          refine k_imul C dX12_settled_32 ?_
          refine k_aload_n C dX12_settled_33 0 rfl ?_
          refine k_get C dX12_settled_34 (k_gM0_22 w) k_fX12_309 (Or.inl rfl) ?_
          refine k_imul C dX12_settled_37 ?_
          refine k_icmp_ge C dX12_settled_38 (tgt := 84) (by decide) (fun c38 => ?_) (fun c38 => ?_)
          · replace h := k_if_t h c38
            refine k_iload_n C dX12_settled_84 1 rfl ?_
            refine k_iconst C dX12_settled_85 (v := -1) rfl ?_
            refine k_icmp_ne C dX12_settled_86 (tgt := 93) (by decide) (fun c86 => ?_) (fun c86 => ?_)
            · replace h := k_if_f h c86
              refine k_iconst C dX12_settled_93 (v := -1) rfl ?_
              exact k_iret C dX12_settled_94 hr (Option.some.inj h)
            · replace h := k_if_t h c86
              refine k_iload_n C dX12_settled_89 2 rfl ?_
              refine k_goto C dX12_settled_90 (tgt := 94) (by decide) ?_
              exact k_iret C dX12_settled_94 hr (Option.some.inj h)
          · replace h := k_if_f h c38
            refine k_aload_n C dX12_settled_41 0 rfl ?_
            refine k_iload_n C dX12_settled_42 3 rfl ?_
            obtain ⟨v43, s43, h43, h⟩ := k_b2_e h
            refine k_goI (k_runV C dX12_settled_43 (e_X12_isSettled (d := 10) (Nat.le_refl _) h43) k_lX12_411 k_yX12_isSettled (k_oM0 w) (by omega) rfl (Nat.le_of_ble_eq_true rfl)) ?_
            refine k_if_eq C dX12_settled_46 (tgt := 78) (by decide) (fun c46 => ?_) (fun c46 => ?_)
            · replace h := k_if_t h c46
              refine k_iinc C dX12_settled_78 3 rfl (v := 1) rfl (by decide) [1, 2, 3, 0] (L' := fun z9 => [(0, .ref (w.2.1 0)), (1, .int x1), (2, .int v2_18), (3, .int z9)]) (fun z9 => rfl) (fun y78 ey78 => ?_)
              replace h := k_nm_e h y78 ey78
              refine k_goto C dX12_settled_81 (tgt := 18) (by decide) ?_
              exact ih18 _ _ _ h
            · replace h := k_if_f h c46
              refine k_iload_n C dX12_settled_49 2 rfl ?_
              refine k_iload_n C dX12_settled_50 1 rfl ?_
              refine k_icmp_ne C dX12_settled_51 (tgt := 75) (by decide) (fun c51 => ?_) (fun c51 => ?_)
              · replace h := k_if_f h c51
                refine k_iinc C dX12_settled_75 2 rfl (v := 1) rfl (by decide) [1, 2, 0, 3] (L' := fun z9 => [(0, .ref (w.2.1 0)), (1, .int x1), (2, .int z9), (3, .int v3_18)]) (fun z9 => rfl) (fun y75 ey75 => ?_)
                replace h := k_nm_e h y75 ey75
                refine k_iinc C dX12_settled_78 3 rfl (v := 1) rfl (by decide) [1, 2, 3, 0] (L' := fun z9 => [(0, .ref (w.2.1 0)), (1, .int x1), (2, .int y75), (3, .int z9)]) (fun z9 => rfl) (fun y78 ey78 => ?_)
                replace h := k_nm_e h y78 ey78
                refine k_goto C dX12_settled_81 (tgt := 18) (by decide) ?_
                exact ih18 _ _ _ h
              · replace h := k_if_t h c51
                refine k_aload_n C dX12_settled_54 0 rfl ?_
                refine k_iload_n C dX12_settled_55 3 rfl ?_
                refine k_aload_n C dX12_settled_56 0 rfl ?_
                refine k_get C dX12_settled_57 (k_gM0_22 w) k_fX12_309 (Or.inl rfl) ?_
                refine k_aload_n C dX12_settled_60 0 rfl ?_
                refine k_get C dX12_settled_61 (k_gM0_31 w) k_fX12_59 (Or.inl rfl) ?_
                obtain ⟨s64, h64, h⟩ := k_bd_e h
                refine k_goV (k_runV C dX12_settled_64 (e_X12_nth (d := 2) (Nat.le_refl _) (k_aM16 w) h64) k_lX12_395 k_yX12_nth (k_oM0 w) (by omega) rfl (Nat.le_of_ble_eq_true rfl)) ?_
                refine k_aload_n C dX12_settled_67 0 rfl ?_
                refine k_get C dX12_settled_68 (k_gM0_31 w) k_fX12_59 (Or.inl rfl) ?_
                obtain ⟨v71, h71, h⟩ := k_bd_e h
                refine k_goI (k_runS C dX12_settled_71 (e_X12_packed (d := 2) (Nat.le_refl _) (k_aM16 w) h71) k_lX12_402 k_yX12_packed (by omega) rfl (Nat.le_of_ble_eq_true rfl)) ?_
                exact k_iret C dX12_settled_74 hr (Option.some.inj h)
      exact K18 _ _ _ _ h
    · replace h := k_if_f h c9
      refine k_iconst C dX12_settled_12 (v := -1) rfl ?_
      exact k_iret C dX12_settled_13 hr (Option.some.inj h)
def f_X12_worst (x1 : Int32) (σ : k_St) : Option (Int32 × k_St) :=
  k_if ((k_rd σ 0 21) = (0 : Int32))
    (some ((-1 : Int32), σ))
    (k_bd (f_X12_in x1 (0 : Int32) (1 : Int32)) fun v10 =>
    k_if (v10 = (0 : Int32))
      (some ((-1 : Int32), σ))
      (k_loop (fun (g22 : Int32 × Int32 × k_St → Option (Int32 × k_St)) (z22 : Int32 × Int32 × k_St) => match z22 with
        | (v2_22, v3_22, s_22) =>
          k_if (((((k_rd s_22 0 22) * (k_rd s_22 0 22)) * (k_rd s_22 0 22)) * (k_rd s_22 0 22)) ≤ v3_22)
            (k_bd (f_X12_plain v2_22 x1 s_22) fun v102 =>
            some (v102, s_22))
            (k_b2 (f_X12_isSettled v3_22 s_22) fun v47 s47 =>
            k_if (v47 = (0 : Int32))
              (k_nm (v3_22 + (1 : Int32)) fun y93 =>
              g22 (v2_22, y93, s47))
              (k_bd (f_X12_nth v3_22 (k_rd s47 0 22) 16 s47) fun s63 =>
              k_b2 (f_X12_answeredBy 16 s63) fun v71 s71 =>
              k_if (v2_22 = (-1 : Int32))
                (k_nm (v3_22 + (1 : Int32)) fun y93 =>
                g22 (v71, y93, s71))
                (k_nm ((o_min v2_22 v71)) fun y92 =>
                k_nm (v3_22 + (1 : Int32)) fun y93 =>
                g22 (y92, y93, s71))))) 100000 ((-1 : Int32), (0 : Int32), σ)))
set_option maxHeartbeats 4000000 in
set_option maxRecDepth 100000 in
theorem e_X12_worst {l : Launch} {w : k_WC} {d : Nat} (hd : 205 ≤ d) {x1 : Int32}  {σ σ' : k_St} {r : Int32} (h : f_X12_worst x1 σ = some (r, σ')) : k_EI l (k_PM w) yX12_worst cX12_worst 5 (some .int) d [.ref (w.2.1 0), .int x1] σ r σ' := by
  refine k_of (own := RX12) rfl (by decide) (Nat.le_of_ble_eq_true rfl) (fun X hX C hr => ?_)
  show k_K (k_PM w) X (k_MQ X (k_Qi (k_PM w) r σ') (k_PM w).2.2.1) 0 [(0, .ref (w.2.1 0)), (1, .int x1)] [] σ
  unfold f_X12_worst at h
  refine k_aload_n C dX12_worst_0 0 rfl ?_
  refine k_get C dX12_worst_1 (k_gM0_21 w) k_fX12_306 (Or.inl rfl) ?_
  refine k_if_eq C dX12_worst_4 (tgt := 16) (by decide) (fun c4 => ?_) (fun c4 => ?_)
  · replace h := k_if_t h c4
    refine k_iconst C dX12_worst_16 (v := -1) rfl ?_
    exact k_iret C dX12_worst_17 hr (Option.some.inj h)
  · replace h := k_if_f h c4
    refine k_iload_n C dX12_worst_7 1 rfl ?_
    refine k_iconst C dX12_worst_8 (v := 0) rfl ?_
    refine k_iconst C dX12_worst_9 (v := 1) rfl ?_
    obtain ⟨v10, h10, h⟩ := k_bd_e h
    refine k_goI (k_runS C dX12_worst_10 (e_X12_in (d := 2) (Nat.le_refl _) h10) k_lX12_269 k_yX12_in (by omega) rfl (Nat.le_of_ble_eq_true rfl)) ?_
    refine k_if_ne C dX12_worst_13 (tgt := 18) (by decide) (fun c13 => ?_) (fun c13 => ?_)
    · replace h := k_if_f h c13
      refine k_iconst C dX12_worst_18 (v := -1) rfl ?_
      refine k_istore_n C dX12_worst_19 (by decide) [1, 2, 0] (L' := [(0, .ref (w.2.1 0)), (1, .int x1), (2, .int (-1 : Int32))]) rfl ?_
      refine k_iconst C dX12_worst_20 (v := 0) rfl ?_
      refine k_istore_n C dX12_worst_21 (by decide) [1, 2, 3, 0] (L' := [(0, .ref (w.2.1 0)), (1, .int x1), (2, .int (-1 : Int32)), (3, .int (0 : Int32))]) rfl ?_
      obtain ⟨b22, eb22, h⟩ := k_lp_e h
      have K22 : ∀ (n : Nat) (v2_22 : Int32) (v3_22 : Int32) (s_22 : k_St), k_loop b22 n (v2_22, v3_22, s_22) = some (r, σ') → k_K (k_PM w) X (k_MQ X (k_Qi (k_PM w) r σ') (k_PM w).2.2.1) 22 [(0, .ref (w.2.1 0)), (1, .int x1), (2, .int v2_22), (3, .int v3_22)] [] s_22 := by
        intro n
        induction n with
        | zero => intro v2_22 v3_22 s_22 h; cases h
        | succ n ih22 =>
          intro v2_22 v3_22 s_22 h
          obtain ⟨g22, eg22, h⟩ := k_lp_s h
          rw [← eg22] at ih22
          rw [eb22] at h
          refine k_iload_n C dX12_worst_22 3 rfl ?_
          refine k_aload_n C dX12_worst_23 0 rfl ?_
          refine k_get C dX12_worst_24 (k_gM0_22 w) k_fX12_309 (Or.inl rfl) ?_
          refine k_aload_n C dX12_worst_27 0 rfl ?_
          refine k_get C dX12_worst_28 (k_gM0_22 w) k_fX12_309 (Or.inl rfl) ?_
          refine k_imul C dX12_worst_31 ?_
          refine k_aload_n C dX12_worst_32 0 rfl ?_
          refine k_get C dX12_worst_33 (k_gM0_22 w) k_fX12_309 (Or.inl rfl) ?_
          refine k_imul C dX12_worst_36 ?_
          refine k_aload_n C dX12_worst_37 0 rfl ?_
          refine k_get C dX12_worst_38 (k_gM0_22 w) k_fX12_309 (Or.inl rfl) ?_
          refine k_imul C dX12_worst_41 ?_
          refine k_icmp_ge C dX12_worst_42 (tgt := 99) (by decide) (fun c42 => ?_) (fun c42 => ?_)
          · replace h := k_if_t h c42
            refine k_aload_n C dX12_worst_99 0 rfl ?_
            refine k_iload_n C dX12_worst_100 2 rfl ?_
            refine k_iload_n C dX12_worst_101 1 rfl ?_
            obtain ⟨v102, h102, h⟩ := k_bd_e h
            refine k_goI (k_runV C dX12_worst_102 (e_X12_plain (d := 204) (Nat.le_refl _) h102) k_lX12_386 k_yX12_plain (k_oM0 w) (by omega) rfl (Nat.le_of_ble_eq_true rfl)) ?_
            exact k_iret C dX12_worst_105 hr (Option.some.inj h)
          · replace h := k_if_f h c42
            refine k_aload_n C dX12_worst_45 0 rfl ?_
            refine k_iload_n C dX12_worst_46 3 rfl ?_
            obtain ⟨v47, s47, h47, h⟩ := k_b2_e h
            refine k_goI (k_runV C dX12_worst_47 (e_X12_isSettled (d := 10) (Nat.le_refl _) h47) k_lX12_411 k_yX12_isSettled (k_oM0 w) (by omega) rfl (Nat.le_of_ble_eq_true rfl)) ?_
            refine k_if_eq C dX12_worst_50 (tgt := 93) (by decide) (fun c50 => ?_) (fun c50 => ?_)
            · replace h := k_if_t h c50
              refine k_iinc C dX12_worst_93 3 rfl (v := 1) rfl (by decide) [1, 2, 3, 0] (L' := fun z9 => [(0, .ref (w.2.1 0)), (1, .int x1), (2, .int v2_22), (3, .int z9)]) (fun z9 => rfl) (fun y93 ey93 => ?_)
              replace h := k_nm_e h y93 ey93
              refine k_goto C dX12_worst_96 (tgt := 22) (by decide) ?_
              exact ih22 _ _ _ h
            · replace h := k_if_f h c50
              refine k_aload_n C dX12_worst_53 0 rfl ?_
              refine k_iload_n C dX12_worst_54 3 rfl ?_
              refine k_aload_n C dX12_worst_55 0 rfl ?_
              refine k_get C dX12_worst_56 (k_gM0_22 w) k_fX12_309 (Or.inl rfl) ?_
              refine k_aload_n C dX12_worst_59 0 rfl ?_
              refine k_get C dX12_worst_60 (k_gM0_31 w) k_fX12_59 (Or.inl rfl) ?_
              obtain ⟨s63, h63, h⟩ := k_bd_e h
              refine k_goV (k_runV C dX12_worst_63 (e_X12_nth (d := 2) (Nat.le_refl _) (k_aM16 w) h63) k_lX12_395 k_yX12_nth (k_oM0 w) (by omega) rfl (Nat.le_of_ble_eq_true rfl)) ?_
              refine k_aload_n C dX12_worst_66 0 rfl ?_
              refine k_aload_n C dX12_worst_67 0 rfl ?_
              refine k_get C dX12_worst_68 (k_gM0_31 w) k_fX12_59 (Or.inl rfl) ?_
              obtain ⟨v71, s71, h71, h⟩ := k_b2_e h
              refine k_goI (k_runV C dX12_worst_71 (e_X12_answeredBy (d := 9) (Nat.le_refl _) (k_aM16 w) h71) k_lX12_399 k_yX12_answeredBy (k_oM0 w) (by omega) rfl (Nat.le_of_ble_eq_true rfl)) ?_
              refine k_istore C dX12_worst_74 (by decide) [1, 2, 3, 4, 0] (L' := [(0, .ref (w.2.1 0)), (1, .int x1), (2, .int v2_22), (3, .int v3_22), (4, .int v71)]) rfl ?_
              refine k_iload_n C dX12_worst_76 2 rfl ?_
              refine k_iconst C dX12_worst_77 (v := -1) rfl ?_
              refine k_icmp_ne C dX12_worst_78 (tgt := 86) (by decide) (fun c78 => ?_) (fun c78 => ?_)
              · replace h := k_if_f h c78
                refine k_iload_n C dX12_worst_86 2 rfl ?_
                refine k_iload C dX12_worst_87 4 rfl ?_
                refine k_mmin C dX12_worst_89 k_lX12_349 k_ym_min (by omega) (Nat.le_of_ble_eq_true rfl) ?_
                refine k_topi (fun y92 ey92 => ?_)
                replace h := k_nm_e h y92 ey92
                refine k_istore_n C dX12_worst_92 (by decide) [1, 2, 0, 3, 4] (L' := [(0, .ref (w.2.1 0)), (1, .int x1), (2, .int y92), (3, .int v3_22), (4, .int v71)]) rfl ?_
                refine k_iinc C dX12_worst_93 3 rfl (v := 1) rfl (by decide) [1, 2, 3, 0, 4] (L' := fun z9 => [(0, .ref (w.2.1 0)), (1, .int x1), (2, .int y92), (3, .int z9), (4, .int v71)]) (fun z9 => rfl) (fun y93 ey93 => ?_)
                replace h := k_nm_e h y93 ey93
                refine k_goto C dX12_worst_96 (tgt := 22) (by decide) ?_
                refine k_sub (L' := [(0, .ref (w.2.1 0)), (1, .int x1), (2, .int y92), (3, .int y93)]) [0, 1, 2, 3] rfl ?_
                exact ih22 _ _ _ h
              · replace h := k_if_t h c78
                refine k_iload C dX12_worst_81 4 rfl ?_
                refine k_goto C dX12_worst_83 (tgt := 92) (by decide) ?_
                refine k_istore_n C dX12_worst_92 (by decide) [1, 2, 0, 3, 4] (L' := [(0, .ref (w.2.1 0)), (1, .int x1), (2, .int v71), (3, .int v3_22), (4, .int v71)]) rfl ?_
                refine k_iinc C dX12_worst_93 3 rfl (v := 1) rfl (by decide) [1, 2, 3, 0, 4] (L' := fun z9 => [(0, .ref (w.2.1 0)), (1, .int x1), (2, .int v71), (3, .int z9), (4, .int v71)]) (fun z9 => rfl) (fun y93 ey93 => ?_)
                replace h := k_nm_e h y93 ey93
                refine k_goto C dX12_worst_96 (tgt := 22) (by decide) ?_
                refine k_sub (L' := [(0, .ref (w.2.1 0)), (1, .int x1), (2, .int v71), (3, .int y93)]) [0, 1, 2, 3] rfl ?_
                exact ih22 _ _ _ h
      exact K22 _ _ _ _ h
    · replace h := k_if_t h c13
      refine k_iconst C dX12_worst_16 (v := -1) rfl ?_
      exact k_iret C dX12_worst_17 hr (Option.some.inj h)
def f_X12_layWords (x1 : Int32) (x2 : Int32) (σ : k_St) : Option (Int32 × k_St) :=
  k_loop (fun (g5 : Int32 × Int32 × k_St → Option (Int32 × k_St)) (z5 : Int32 × Int32 × k_St) => match z5 with
    | (v3_5, v4_5, s_5) =>
      k_if ((o_shl (1 : Int32) x1) ≤ v4_5)
        (some (v3_5, s_5))
        (k_loop (fun (g19 : Int32 × Int32 → Option (Int32 × k_St)) (z19 : Int32 × Int32) => match z19 with
          | (v5_19, v6_19) =>
            k_if (v3_5 ≤ v6_19)
              (k_if (v5_19 = (0 : Int32))
                (k_nm (v4_5 + (1 : Int32)) fun y76 =>
                g5 (v3_5, y76, s_5))
                (k_gd (k_ix v3_5 256 = true) <|
                k_nm (k_wr s_5 21 v3_5.toNatClampNeg v4_5) fun s72 =>
                k_nm (v3_5 + (1 : Int32)) fun y73 =>
                k_nm (v4_5 + (1 : Int32)) fun y76 =>
                g5 (y73, y76, s72)))
              (k_if (v5_19 = (0 : Int32))
                (k_nm (v6_19 + (1 : Int32)) fun y54 =>
                g19 ((0 : Int32), y54))
                (k_gd (k_ix v6_19 256 = true) <|
                k_bd (f_J6_bitCount_0f7a4 (v4_5 ^^^ (k_rd s_5 21 v6_19.toNatClampNeg))) fun v40 =>
                k_if (v40 ≤ x2)
                  (k_nm (v6_19 + (1 : Int32)) fun y54 =>
                  g19 ((0 : Int32), y54))
                  (k_nm (v6_19 + (1 : Int32)) fun y54 =>
                  g19 ((1 : Int32), y54))))) 100000 ((1 : Int32), (0 : Int32)))) 100000 ((0 : Int32), (0 : Int32), σ)
set_option maxHeartbeats 4000000 in
set_option maxRecDepth 100000 in
theorem e_X12_layWords {l : Launch} {w : k_WC} {d : Nat} (hd : 3 ≤ d) {x1 : Int32} {x2 : Int32}  {σ σ' : k_St} {r : Int32} (h : f_X12_layWords x1 x2 σ = some (r, σ')) : k_EI l (k_PM w) yX12_layWords cX12_layWords 7 (some .int) d [.ref (w.2.1 0), .int x1, .int x2] σ r σ' := by
  refine k_of (own := RX12) rfl (by decide) (Nat.le_of_ble_eq_true rfl) (fun X hX C hr => ?_)
  show k_K (k_PM w) X (k_MQ X (k_Qi (k_PM w) r σ') (k_PM w).2.2.1) 0 [(0, .ref (w.2.1 0)), (1, .int x1), (2, .int x2)] [] σ
  unfold f_X12_layWords at h
  refine k_iconst C dX12_layWords_0 (v := 0) rfl ?_
  refine k_istore_n C dX12_layWords_1 (by decide) [1, 2, 3, 0] (L' := [(0, .ref (w.2.1 0)), (1, .int x1), (2, .int x2), (3, .int (0 : Int32))]) rfl ?_
  refine k_iconst C dX12_layWords_2 (v := 0) rfl ?_
  refine k_istore C dX12_layWords_3 (by decide) [1, 2, 3, 4, 0] (L' := [(0, .ref (w.2.1 0)), (1, .int x1), (2, .int x2), (3, .int (0 : Int32)), (4, .int (0 : Int32))]) rfl ?_
  obtain ⟨b5, eb5, h⟩ := k_lp_e h
  have K5 : ∀ (n : Nat) (v3_5 : Int32) (v4_5 : Int32) (s_5 : k_St), k_loop b5 n (v3_5, v4_5, s_5) = some (r, σ') → k_K (k_PM w) X (k_MQ X (k_Qi (k_PM w) r σ') (k_PM w).2.2.1) 5 [(0, .ref (w.2.1 0)), (1, .int x1), (2, .int x2), (3, .int v3_5), (4, .int v4_5)] [] s_5 := by
    intro n
    induction n with
    | zero => intro v3_5 v4_5 s_5 h; cases h
    | succ n ih5 =>
      intro v3_5 v4_5 s_5 h
      obtain ⟨g5, eg5, h⟩ := k_lp_s h
      rw [← eg5] at ih5
      rw [eb5] at h
      refine k_iload C dX12_layWords_5 4 rfl ?_
      refine k_iconst C dX12_layWords_7 (v := 1) rfl ?_
      refine k_iload_n C dX12_layWords_8 1 rfl ?_
      refine k_ishl C dX12_layWords_9 ?_
      refine k_icmp_ge C dX12_layWords_10 (tgt := 82) (by decide) (fun c10 => ?_) (fun c10 => ?_)
      · replace h := k_if_t h c10
        refine k_iload_n C dX12_layWords_82 3 rfl ?_
        exact k_iret C dX12_layWords_83 hr (Option.some.inj h)
      · replace h := k_if_f h c10
        refine k_iconst C dX12_layWords_13 (v := 1) rfl ?_
        refine k_istore C dX12_layWords_14 (by decide) [1, 2, 3, 4, 5, 0] (L' := [(0, .ref (w.2.1 0)), (1, .int x1), (2, .int x2), (3, .int v3_5), (4, .int v4_5), (5, .int (1 : Int32))]) rfl ?_
        refine k_iconst C dX12_layWords_16 (v := 0) rfl ?_
        refine k_istore C dX12_layWords_17 (by decide) [1, 2, 3, 4, 5, 6, 0] (L' := [(0, .ref (w.2.1 0)), (1, .int x1), (2, .int x2), (3, .int v3_5), (4, .int v4_5), (5, .int (1 : Int32)), (6, .int (0 : Int32))]) rfl ?_
        obtain ⟨b19, eb19, h⟩ := k_lp_e h
        have K19 : ∀ (n : Nat) (v5_19 : Int32) (v6_19 : Int32), k_loop b19 n (v5_19, v6_19) = some (r, σ') → k_K (k_PM w) X (k_MQ X (k_Qi (k_PM w) r σ') (k_PM w).2.2.1) 19 [(0, .ref (w.2.1 0)), (1, .int x1), (2, .int x2), (3, .int v3_5), (4, .int v4_5), (5, .int v5_19), (6, .int v6_19)] [] s_5 := by
          intro n
          induction n with
          | zero => intro v5_19 v6_19 h; cases h
          | succ n ih19 =>
            intro v5_19 v6_19 h
            obtain ⟨g19, eg19, h⟩ := k_lp_s h
            rw [← eg19] at ih19
            rw [eb19] at h
            refine k_iload C dX12_layWords_19 6 rfl ?_
            refine k_iload_n C dX12_layWords_21 3 rfl ?_
            refine k_icmp_ge C dX12_layWords_22 (tgt := 60) (by decide) (fun c22 => ?_) (fun c22 => ?_)
            · replace h := k_if_t h c22
              refine k_iload C dX12_layWords_60 5 rfl ?_
              refine k_if_eq C dX12_layWords_62 (tgt := 76) (by decide) (fun c62 => ?_) (fun c62 => ?_)
              · replace h := k_if_t h c62
                refine k_iinc C dX12_layWords_76 4 rfl (v := 1) rfl (by decide) [1, 2, 3, 4, 0, 5, 6] (L' := fun z9 => [(0, .ref (w.2.1 0)), (1, .int x1), (2, .int x2), (3, .int v3_5), (4, .int z9), (5, .int v5_19), (6, .int v6_19)]) (fun z9 => rfl) (fun y76 ey76 => ?_)
                replace h := k_nm_e h y76 ey76
                refine k_goto C dX12_layWords_79 (tgt := 5) (by decide) ?_
                refine k_sub (L' := [(0, .ref (w.2.1 0)), (1, .int x1), (2, .int x2), (3, .int v3_5), (4, .int y76)]) [0, 1, 2, 3, 4] rfl ?_
                exact ih5 _ _ _ h
              · replace h := k_if_f h c62
                refine k_aload_n C dX12_layWords_65 0 rfl ?_
                refine k_get C dX12_layWords_66 (k_gM0_38 w) k_fX12_74 (Or.inl rfl) ?_
                refine k_iload_n C dX12_layWords_69 3 rfl ?_
                refine k_iload C dX12_layWords_70 4 rfl ?_
                obtain ⟨q72, h⟩ := k_gd_e h
                refine k_iast C dX12_layWords_72 (k_aM21 w) q72 ?_
                refine k_st (fun s72 es72 => ?_)
                replace h := k_nm_e h s72 es72
                refine k_iinc C dX12_layWords_73 3 rfl (v := 1) rfl (by decide) [1, 2, 3, 0, 4, 5, 6] (L' := fun z9 => [(0, .ref (w.2.1 0)), (1, .int x1), (2, .int x2), (3, .int z9), (4, .int v4_5), (5, .int v5_19), (6, .int v6_19)]) (fun z9 => rfl) (fun y73 ey73 => ?_)
                replace h := k_nm_e h y73 ey73
                refine k_iinc C dX12_layWords_76 4 rfl (v := 1) rfl (by decide) [1, 2, 3, 4, 0, 5, 6] (L' := fun z9 => [(0, .ref (w.2.1 0)), (1, .int x1), (2, .int x2), (3, .int y73), (4, .int z9), (5, .int v5_19), (6, .int v6_19)]) (fun z9 => rfl) (fun y76 ey76 => ?_)
                replace h := k_nm_e h y76 ey76
                refine k_goto C dX12_layWords_79 (tgt := 5) (by decide) ?_
                refine k_sub (L' := [(0, .ref (w.2.1 0)), (1, .int x1), (2, .int x2), (3, .int y73), (4, .int y76)]) [0, 1, 2, 3, 4] rfl ?_
                exact ih5 _ _ _ h
            · replace h := k_if_f h c22
              refine k_iload C dX12_layWords_25 5 rfl ?_
              refine k_if_eq C dX12_layWords_27 (tgt := 51) (by decide) (fun c27 => ?_) (fun c27 => ?_)
              · replace h := k_if_t h c27
                refine k_iconst C dX12_layWords_51 (v := 0) rfl ?_
                refine k_istore C dX12_layWords_52 (by decide) [1, 2, 3, 4, 5, 0, 6] (L' := [(0, .ref (w.2.1 0)), (1, .int x1), (2, .int x2), (3, .int v3_5), (4, .int v4_5), (5, .int (0 : Int32)), (6, .int v6_19)]) rfl ?_
                refine k_iinc C dX12_layWords_54 6 rfl (v := 1) rfl (by decide) [1, 2, 3, 4, 5, 6, 0] (L' := fun z9 => [(0, .ref (w.2.1 0)), (1, .int x1), (2, .int x2), (3, .int v3_5), (4, .int v4_5), (5, .int (0 : Int32)), (6, .int z9)]) (fun z9 => rfl) (fun y54 ey54 => ?_)
                replace h := k_nm_e h y54 ey54
                refine k_goto C dX12_layWords_57 (tgt := 19) (by decide) ?_
                exact ih19 _ _ h
              · replace h := k_if_f h c27
                refine k_iload C dX12_layWords_30 4 rfl ?_
                refine k_aload_n C dX12_layWords_32 0 rfl ?_
                refine k_get C dX12_layWords_33 (k_gM0_38 w) k_fX12_74 (Or.inl rfl) ?_
                refine k_iload C dX12_layWords_36 6 rfl ?_
                obtain ⟨q38, h⟩ := k_gd_e h
                refine k_iald C dX12_layWords_38 (k_aM21 w) q38 ?_
                refine k_ixor C dX12_layWords_39 ?_
                obtain ⟨v40, h40, h⟩ := k_bd_e h
                refine k_goI (k_runS C dX12_layWords_40 (e_J6_bitCount_0f7a4_M (d := 2) (Nat.le_refl _) h40) k_lX12_414 k_yJ6_bitCount_0f7a4 (by omega) rfl (Nat.le_of_ble_eq_true rfl)) ?_
                refine k_iload_n C dX12_layWords_43 2 rfl ?_
                refine k_icmp_le C dX12_layWords_44 (tgt := 51) (by decide) (fun c44 => ?_) (fun c44 => ?_)
                · replace h := k_if_t h c44
                  refine k_iconst C dX12_layWords_51 (v := 0) rfl ?_
                  refine k_istore C dX12_layWords_52 (by decide) [1, 2, 3, 4, 5, 0, 6] (L' := [(0, .ref (w.2.1 0)), (1, .int x1), (2, .int x2), (3, .int v3_5), (4, .int v4_5), (5, .int (0 : Int32)), (6, .int v6_19)]) rfl ?_
                  refine k_iinc C dX12_layWords_54 6 rfl (v := 1) rfl (by decide) [1, 2, 3, 4, 5, 6, 0] (L' := fun z9 => [(0, .ref (w.2.1 0)), (1, .int x1), (2, .int x2), (3, .int v3_5), (4, .int v4_5), (5, .int (0 : Int32)), (6, .int z9)]) (fun z9 => rfl) (fun y54 ey54 => ?_)
                  replace h := k_nm_e h y54 ey54
                  refine k_goto C dX12_layWords_57 (tgt := 19) (by decide) ?_
                  exact ih19 _ _ h
                · replace h := k_if_f h c44
                  refine k_iconst C dX12_layWords_47 (v := 1) rfl ?_
                  refine k_goto C dX12_layWords_48 (tgt := 52) (by decide) ?_
                  refine k_istore C dX12_layWords_52 (by decide) [1, 2, 3, 4, 5, 0, 6] (L' := [(0, .ref (w.2.1 0)), (1, .int x1), (2, .int x2), (3, .int v3_5), (4, .int v4_5), (5, .int (1 : Int32)), (6, .int v6_19)]) rfl ?_
                  refine k_iinc C dX12_layWords_54 6 rfl (v := 1) rfl (by decide) [1, 2, 3, 4, 5, 6, 0] (L' := fun z9 => [(0, .ref (w.2.1 0)), (1, .int x1), (2, .int x2), (3, .int v3_5), (4, .int v4_5), (5, .int (1 : Int32)), (6, .int z9)]) (fun z9 => rfl) (fun y54 ey54 => ?_)
                  replace h := k_nm_e h y54 ey54
                  refine k_goto C dX12_layWords_57 (tgt := 19) (by decide) ?_
                  exact ih19 _ _ h
        exact K19 _ _ _ h
  exact K5 _ _ _ _ h
def f_X12_code (x1 : Int32) (x2 : Int32) (x3 : Int32) (σ : k_St) : Option (Int32 × k_St) :=
  k_bd (f_X12_in x1 (1 : Int32) (16 : Int32)) fun v4 =>
  k_if (v4 = (0 : Int32))
    (some ((-1 : Int32), σ))
    (k_bd (f_X12_in x2 (0 : Int32) (3 : Int32)) fun v13 =>
    k_if (v13 = (0 : Int32))
      (some ((-1 : Int32), σ))
      (k_bd (f_X12_in x3 (-1 : Int32) (x1 - (1 : Int32))) fun v24 =>
      k_if (v24 = (0 : Int32))
        (some ((-1 : Int32), σ))
        (k_loop (fun (g35 : Int32 × k_St → Option (Int32 × k_St)) (z35 : Int32 × k_St) => match z35 with
          | (v4_35, s_35) =>
            k_if ((8 : Int32) < v4_35)
              (some ((-1 : Int32), s_35))
              (k_b2 (f_X12_layWords v4_35 x2 s_35) fun v46 s46 =>
              k_if (v46 < x1)
                (k_nm (v4_35 + (1 : Int32)) fun y70 =>
                g35 (y70, s46))
                (k_if (x3 = (-1 : Int32))
                  (some (v4_35, s46))
                  (k_gd (k_ix x3 256 = true) <|
                  some ((k_rd s46 21 x3.toNatClampNeg), s46))))) 100000 ((1 : Int32), σ))))
set_option maxHeartbeats 4000000 in
set_option maxRecDepth 100000 in
theorem e_X12_code {l : Launch} {w : k_WC} {d : Nat} (hd : 4 ≤ d) {x1 : Int32} {x2 : Int32} {x3 : Int32}  {σ σ' : k_St} {r : Int32} (h : f_X12_code x1 x2 x3 σ = some (r, σ')) : k_EI l (k_PM w) yX12_code cX12_code 5 (some .int) d [.ref (w.2.1 0), .int x1, .int x2, .int x3] σ r σ' := by
  refine k_of (own := RX12) rfl (by decide) (Nat.le_of_ble_eq_true rfl) (fun X hX C hr => ?_)
  show k_K (k_PM w) X (k_MQ X (k_Qi (k_PM w) r σ') (k_PM w).2.2.1) 0 [(0, .ref (w.2.1 0)), (1, .int x1), (2, .int x2), (3, .int x3)] [] σ
  unfold f_X12_code at h
  refine k_iload_n C dX12_code_0 1 rfl ?_
  refine k_iconst C dX12_code_1 (v := 1) rfl ?_
  refine k_bipush C dX12_code_2 (v := 16) rfl ?_
  obtain ⟨v4, h4, h⟩ := k_bd_e h
  refine k_goI (k_runS C dX12_code_4 (e_X12_in (d := 2) (Nat.le_refl _) h4) k_lX12_269 k_yX12_in (by omega) rfl (Nat.le_of_ble_eq_true rfl)) ?_
  refine k_if_eq C dX12_code_7 (tgt := 30) (by decide) (fun c7 => ?_) (fun c7 => ?_)
  · replace h := k_if_t h c7
    refine k_iconst C dX12_code_30 (v := -1) rfl ?_
    exact k_iret C dX12_code_31 hr (Option.some.inj h)
  · replace h := k_if_f h c7
    refine k_iload_n C dX12_code_10 2 rfl ?_
    refine k_iconst C dX12_code_11 (v := 0) rfl ?_
    refine k_iconst C dX12_code_12 (v := 3) rfl ?_
    obtain ⟨v13, h13, h⟩ := k_bd_e h
    refine k_goI (k_runS C dX12_code_13 (e_X12_in (d := 2) (Nat.le_refl _) h13) k_lX12_269 k_yX12_in (by omega) rfl (Nat.le_of_ble_eq_true rfl)) ?_
    refine k_if_eq C dX12_code_16 (tgt := 30) (by decide) (fun c16 => ?_) (fun c16 => ?_)
    · replace h := k_if_t h c16
      refine k_iconst C dX12_code_30 (v := -1) rfl ?_
      exact k_iret C dX12_code_31 hr (Option.some.inj h)
    · replace h := k_if_f h c16
      refine k_iload_n C dX12_code_19 3 rfl ?_
      refine k_iconst C dX12_code_20 (v := -1) rfl ?_
      refine k_iload_n C dX12_code_21 1 rfl ?_
      refine k_iconst C dX12_code_22 (v := 1) rfl ?_
      refine k_isub C dX12_code_23 ?_
      obtain ⟨v24, h24, h⟩ := k_bd_e h
      refine k_goI (k_runS C dX12_code_24 (e_X12_in (d := 2) (Nat.le_refl _) h24) k_lX12_269 k_yX12_in (by omega) rfl (Nat.le_of_ble_eq_true rfl)) ?_
      refine k_if_ne C dX12_code_27 (tgt := 32) (by decide) (fun c27 => ?_) (fun c27 => ?_)
      · replace h := k_if_f h c27
        refine k_iconst C dX12_code_32 (v := 1) rfl ?_
        refine k_istore C dX12_code_33 (by decide) [1, 2, 3, 4, 0] (L' := [(0, .ref (w.2.1 0)), (1, .int x1), (2, .int x2), (3, .int x3), (4, .int (1 : Int32))]) rfl ?_
        obtain ⟨b35, eb35, h⟩ := k_lp_e h
        have K35 : ∀ (n : Nat) (v4_35 : Int32) (s_35 : k_St), k_loop b35 n (v4_35, s_35) = some (r, σ') → k_K (k_PM w) X (k_MQ X (k_Qi (k_PM w) r σ') (k_PM w).2.2.1) 35 [(0, .ref (w.2.1 0)), (1, .int x1), (2, .int x2), (3, .int x3), (4, .int v4_35)] [] s_35 := by
          intro n
          induction n with
          | zero => intro v4_35 s_35 h; cases h
          | succ n ih35 =>
            intro v4_35 s_35 h
            obtain ⟨g35, eg35, h⟩ := k_lp_s h
            rw [← eg35] at ih35
            rw [eb35] at h
            refine k_iload C dX12_code_35 4 rfl ?_
            refine k_bipush C dX12_code_37 (v := 8) rfl ?_
            refine k_icmp_gt C dX12_code_39 (tgt := 76) (by decide) (fun c39 => ?_) (fun c39 => ?_)
            · replace h := k_if_t h c39
              refine k_iconst C dX12_code_76 (v := -1) rfl ?_
              exact k_iret C dX12_code_77 hr (Option.some.inj h)
            · replace h := k_if_f h c39
              refine k_aload_n C dX12_code_42 0 rfl ?_
              refine k_iload C dX12_code_43 4 rfl ?_
              refine k_iload_n C dX12_code_45 2 rfl ?_
              obtain ⟨v46, s46, h46, h⟩ := k_b2_e h
              refine k_goI (k_runV C dX12_code_46 (e_X12_layWords (d := 3) (Nat.le_refl _) h46) k_lX12_419 k_yX12_layWords (k_oM0 w) (by omega) rfl (Nat.le_of_ble_eq_true rfl)) ?_
              refine k_iload_n C dX12_code_49 1 rfl ?_
              refine k_icmp_lt C dX12_code_50 (tgt := 70) (by decide) (fun c50 => ?_) (fun c50 => ?_)
              · replace h := k_if_t h c50
                refine k_iinc C dX12_code_70 4 rfl (v := 1) rfl (by decide) [1, 2, 3, 4, 0] (L' := fun z9 => [(0, .ref (w.2.1 0)), (1, .int x1), (2, .int x2), (3, .int x3), (4, .int z9)]) (fun z9 => rfl) (fun y70 ey70 => ?_)
                replace h := k_nm_e h y70 ey70
                refine k_goto C dX12_code_73 (tgt := 35) (by decide) ?_
                exact ih35 _ _ h
              · replace h := k_if_f h c50
                refine k_iload_n C dX12_code_53 3 rfl ?_
                refine k_iconst C dX12_code_54 (v := -1) rfl ?_
                refine k_icmp_ne C dX12_code_55 (tgt := 63) (by decide) (fun c55 => ?_) (fun c55 => ?_)
                · replace h := k_if_f h c55
                  refine k_aload_n C dX12_code_63 0 rfl ?_
                  refine k_get C dX12_code_64 (k_gM0_38 w) k_fX12_74 (Or.inl rfl) ?_
                  refine k_iload_n C dX12_code_67 3 rfl ?_
                  obtain ⟨q68, h⟩ := k_gd_e h
                  refine k_iald C dX12_code_68 (k_aM21 w) q68 ?_
                  exact k_iret C dX12_code_69 hr (Option.some.inj h)
                · replace h := k_if_t h c55
                  refine k_iload C dX12_code_58 4 rfl ?_
                  refine k_goto C dX12_code_60 (tgt := 69) (by decide) ?_
                  exact k_iret C dX12_code_69 hr (Option.some.inj h)
        exact K35 _ _ _ h
      · replace h := k_if_t h c27
        refine k_iconst C dX12_code_30 (v := -1) rfl ?_
        exact k_iret C dX12_code_31 hr (Option.some.inj h)
def f_X12_shelve (x1 : Int32) (x2 : Int32) (σ : k_St) : Option (Int32 × k_St) :=
  k_if ((k_rd σ 0 21) = (0 : Int32))
    (some ((0 : Int32), σ))
    (k_bd (f_X12_in x2 (0 : Int32) (3 : Int32)) fun v10 =>
    k_if (v10 = (0 : Int32))
      (some ((0 : Int32), σ))
      (k_if (x1 = (0 : Int32))
        (k_bd (f_X12_packed 14 σ) fun v72 =>
        k_gd (k_ix x2 4 = true) <|
        k_nm (k_wr σ 22 x2.toNatClampNeg v72) fun s75 =>
        some ((1 : Int32), s75))
        (k_gd (k_ix x2 4 = true) <|
        k_nm (k_wr σ 24 x2.toNatClampNeg (1 : Int32)) fun s28 =>
        k_loop (fun (g31 : Int32 × k_St → Option (Int32 × k_St)) (z31 : Int32 × k_St) => match z31 with
          | (v3_31, s_31) =>
            k_if ((16 : Int32) ≤ v3_31)
              (some ((1 : Int32), s_31))
              (k_gd (k_ix v3_31 16 = true) <|
              k_gd (k_ix (((16 : Int32) * x2) + v3_31) 64 = true) <|
              k_nm (k_wr s_31 23 (((16 : Int32) * x2) + v3_31).toNatClampNeg (k_rd s_31 15 v3_31.toNatClampNeg)) fun s53 =>
              k_nm (v3_31 + (1 : Int32)) fun y54 =>
              g31 (y54, s53))) 100000 ((0 : Int32), s28))))
set_option maxHeartbeats 4000000 in
set_option maxRecDepth 100000 in
theorem e_X12_shelve {l : Launch} {w : k_WC} {d : Nat} (hd : 3 ≤ d) {x1 : Int32} {x2 : Int32}  {σ σ' : k_St} {r : Int32} (h : f_X12_shelve x1 x2 σ = some (r, σ')) : k_EI l (k_PM w) yX12_shelve cX12_shelve 4 (some .boolean) d [.ref (w.2.1 0), .int x1, .int x2] σ r σ' := by
  refine k_of (own := RX12) rfl (by decide) (Nat.le_of_ble_eq_true rfl) (fun X hX C hr => ?_)
  show k_K (k_PM w) X (k_MQ X (k_Qi (k_PM w) r σ') (k_PM w).2.2.1) 0 [(0, .ref (w.2.1 0)), (1, .int x1), (2, .int x2)] [] σ
  unfold f_X12_shelve at h
  refine k_aload_n C dX12_shelve_0 0 rfl ?_
  refine k_get C dX12_shelve_1 (k_gM0_21 w) k_fX12_306 (Or.inl rfl) ?_
  refine k_if_eq C dX12_shelve_4 (tgt := 16) (by decide) (fun c4 => ?_) (fun c4 => ?_)
  · replace h := k_if_t h c4
    refine k_iconst C dX12_shelve_16 (v := 0) rfl ?_
    exact k_zret C dX12_shelve_17 hr rfl (Option.some.inj h)
  · replace h := k_if_f h c4
    refine k_iload_n C dX12_shelve_7 2 rfl ?_
    refine k_iconst C dX12_shelve_8 (v := 0) rfl ?_
    refine k_iconst C dX12_shelve_9 (v := 3) rfl ?_
    obtain ⟨v10, h10, h⟩ := k_bd_e h
    refine k_goI (k_runS C dX12_shelve_10 (e_X12_in (d := 2) (Nat.le_refl _) h10) k_lX12_269 k_yX12_in (by omega) rfl (Nat.le_of_ble_eq_true rfl)) ?_
    refine k_if_ne C dX12_shelve_13 (tgt := 18) (by decide) (fun c13 => ?_) (fun c13 => ?_)
    · replace h := k_if_f h c13
      refine k_iload_n C dX12_shelve_18 1 rfl ?_
      refine k_if_eq C dX12_shelve_19 (tgt := 63) (by decide) (fun c19 => ?_) (fun c19 => ?_)
      · replace h := k_if_t h c19
        refine k_aload_n C dX12_shelve_63 0 rfl ?_
        refine k_get C dX12_shelve_64 (k_gM0_39 w) k_fX12_77 (Or.inl rfl) ?_
        refine k_iload_n C dX12_shelve_67 2 rfl ?_
        refine k_aload_n C dX12_shelve_68 0 rfl ?_
        refine k_get C dX12_shelve_69 (k_gM0_24 w) k_fX12_49 (Or.inl rfl) ?_
        obtain ⟨v72, h72, h⟩ := k_bd_e h
        refine k_goI (k_runS C dX12_shelve_72 (e_X12_packed (d := 2) (Nat.le_refl _) (k_aM14 w) h72) k_lX12_402 k_yX12_packed (by omega) rfl (Nat.le_of_ble_eq_true rfl)) ?_
        obtain ⟨q75, h⟩ := k_gd_e h
        refine k_iast C dX12_shelve_75 (k_aM22 w) q75 ?_
        refine k_st (fun s75 es75 => ?_)
        replace h := k_nm_e h s75 es75
        refine k_iconst C dX12_shelve_76 (v := 1) rfl ?_
        exact k_zret C dX12_shelve_77 hr rfl (Option.some.inj h)
      · replace h := k_if_f h c19
        refine k_aload_n C dX12_shelve_22 0 rfl ?_
        refine k_get C dX12_shelve_23 (k_gM0_41 w) k_fX12_83 (Or.inl rfl) ?_
        refine k_iload_n C dX12_shelve_26 2 rfl ?_
        refine k_iconst C dX12_shelve_27 (v := 1) rfl ?_
        obtain ⟨q28, h⟩ := k_gd_e h
        refine k_zast C dX12_shelve_28 (k_aM24 w) q28 rfl ?_
        refine k_st (fun s28 es28 => ?_)
        replace h := k_nm_e h s28 es28
        refine k_iconst C dX12_shelve_29 (v := 0) rfl ?_
        refine k_istore_n C dX12_shelve_30 (by decide) [1, 2, 3, 0] (L' := [(0, .ref (w.2.1 0)), (1, .int x1), (2, .int x2), (3, .int (0 : Int32))]) rfl ?_
        obtain ⟨b31, eb31, h⟩ := k_lp_e h
        have K31 : ∀ (n : Nat) (v3_31 : Int32) (s_31 : k_St), k_loop b31 n (v3_31, s_31) = some (r, σ') → k_K (k_PM w) X (k_MQ X (k_Qi (k_PM w) r σ') (k_PM w).2.2.1) 31 [(0, .ref (w.2.1 0)), (2, .int x2), (3, .int v3_31)] [] s_31 := by
          intro n
          induction n with
          | zero => intro v3_31 s_31 h; cases h
          | succ n ih31 =>
            intro v3_31 s_31 h
            obtain ⟨g31, eg31, h⟩ := k_lp_s h
            rw [← eg31] at ih31
            rw [eb31] at h
            refine k_iload_n C dX12_shelve_31 2 rfl ?_
            refine k_bipush C dX12_shelve_32 (v := 16) rfl ?_
            refine k_icmp_ge C dX12_shelve_34 (tgt := 60) (by decide) (fun c34 => ?_) (fun c34 => ?_)
            · replace h := k_if_t h c34
              refine k_goto C dX12_shelve_60 (tgt := 76) (by decide) ?_
              refine k_iconst C dX12_shelve_76 (v := 1) rfl ?_
              exact k_zret C dX12_shelve_77 hr rfl (Option.some.inj h)
            · replace h := k_if_f h c34
              refine k_aload_n C dX12_shelve_37 0 rfl ?_
              refine k_get C dX12_shelve_38 (k_gM0_40 w) k_fX12_80 (Or.inl rfl) ?_
              refine k_bipush C dX12_shelve_41 (v := 16) rfl ?_
              refine k_iload_n C dX12_shelve_43 1 rfl ?_
              refine k_imul C dX12_shelve_44 ?_
              refine k_iload_n C dX12_shelve_45 2 rfl ?_
              refine k_iadd C dX12_shelve_46 ?_
              refine k_aload_n C dX12_shelve_47 0 rfl ?_
              refine k_get C dX12_shelve_48 (k_gM0_25 w) k_fX12_52 (Or.inl rfl) ?_
              refine k_iload_n C dX12_shelve_51 2 rfl ?_
              obtain ⟨q52, h⟩ := k_gd_e h
              refine k_iald C dX12_shelve_52 (k_aM15 w) q52 ?_
              obtain ⟨q53, h⟩ := k_gd_e h
              refine k_iast C dX12_shelve_53 (k_aM23 w) q53 ?_
              refine k_st (fun s53 es53 => ?_)
              replace h := k_nm_e h s53 es53
              refine k_iinc C dX12_shelve_54 2 rfl (v := 1) rfl (by decide) [1, 2, 0] (L' := fun z9 => [(0, .ref (w.2.1 0)), (2, .int x2), (3, .int z9)]) (fun z9 => rfl) (fun y54 ey54 => ?_)
              replace h := k_nm_e h y54 ey54
              refine k_goto C dX12_shelve_57 (tgt := 31) (by decide) ?_
              exact ih31 _ _ h
        refine k_sub (L' := [(0, .ref (w.2.1 0)), (2, .int x2), (3, .int (0 : Int32))]) [0, 2, 3] rfl ?_
        exact K31 _ _ _ h
    · replace h := k_if_t h c13
      refine k_iconst C dX12_shelve_16 (v := 0) rfl ?_
      exact k_zret C dX12_shelve_17 hr rfl (Option.some.inj h)
def f_X12_areShelved (x1 : Int32) (x2 : Int32) (σ : k_St) : Option (Int32) :=
  k_bd (f_X12_in x1 (0 : Int32) (3 : Int32)) fun v3 =>
  k_if (v3 = (0 : Int32))
    (some (0 : Int32))
    (k_bd (f_X12_in x2 (0 : Int32) (3 : Int32)) fun v12 =>
    k_if (v12 = (0 : Int32))
      (some (0 : Int32))
      (k_gd (k_ix x1 4 = true) <|
      k_if ((k_rd σ 22 x1.toNatClampNeg) = (-1 : Int32))
        (some (0 : Int32))
        (k_gd (k_ix x2 4 = true) <|
        k_if ((k_rd σ 24 x2.toNatClampNeg) = (0 : Int32))
          (some (0 : Int32))
          (some (1 : Int32)))))
set_option maxHeartbeats 4000000 in
set_option maxRecDepth 100000 in
theorem e_X12_areShelved {l : Launch} {w : k_WC} {d : Nat} (hd : 3 ≤ d) {x1 : Int32} {x2 : Int32}  {σ : k_St} {r : Int32} (h : f_X12_areShelved x1 x2 σ = some r) : k_EI l (k_PM w) yX12_areShelved cX12_areShelved 3 (some .boolean) d [.ref (w.2.1 0), .int x1, .int x2] σ r σ := by
  refine k_of (own := RX12) rfl (by decide) (Nat.le_of_ble_eq_true rfl) (fun X hX C hr => ?_)
  show k_K (k_PM w) X (k_MQ X (k_Qi (k_PM w) r σ) (k_PM w).2.2.1) 0 [(0, .ref (w.2.1 0)), (1, .int x1), (2, .int x2)] [] σ
  unfold f_X12_areShelved at h
  refine k_iload_n C dX12_areShelved_0 1 rfl ?_
  refine k_iconst C dX12_areShelved_1 (v := 0) rfl ?_
  refine k_iconst C dX12_areShelved_2 (v := 3) rfl ?_
  obtain ⟨v3, h3, h⟩ := k_bd_e h
  refine k_goI (k_runS C dX12_areShelved_3 (e_X12_in (d := 2) (Nat.le_refl _) h3) k_lX12_269 k_yX12_in (by omega) rfl (Nat.le_of_ble_eq_true rfl)) ?_
  refine k_if_eq C dX12_areShelved_6 (tgt := 41) (by decide) (fun c6 => ?_) (fun c6 => ?_)
  · replace h := k_if_t h c6
    refine k_iconst C dX12_areShelved_41 (v := 0) rfl ?_
    exact k_zret C dX12_areShelved_42 hr rfl (k_p1 h)
  · replace h := k_if_f h c6
    refine k_iload_n C dX12_areShelved_9 2 rfl ?_
    refine k_iconst C dX12_areShelved_10 (v := 0) rfl ?_
    refine k_iconst C dX12_areShelved_11 (v := 3) rfl ?_
    obtain ⟨v12, h12, h⟩ := k_bd_e h
    refine k_goI (k_runS C dX12_areShelved_12 (e_X12_in (d := 2) (Nat.le_refl _) h12) k_lX12_269 k_yX12_in (by omega) rfl (Nat.le_of_ble_eq_true rfl)) ?_
    refine k_if_eq C dX12_areShelved_15 (tgt := 41) (by decide) (fun c15 => ?_) (fun c15 => ?_)
    · replace h := k_if_t h c15
      refine k_iconst C dX12_areShelved_41 (v := 0) rfl ?_
      exact k_zret C dX12_areShelved_42 hr rfl (k_p1 h)
    · replace h := k_if_f h c15
      refine k_aload_n C dX12_areShelved_18 0 rfl ?_
      refine k_get C dX12_areShelved_19 (k_gM0_39 w) k_fX12_77 (Or.inl rfl) ?_
      refine k_iload_n C dX12_areShelved_22 1 rfl ?_
      obtain ⟨q23, h⟩ := k_gd_e h
      refine k_iald C dX12_areShelved_23 (k_aM22 w) q23 ?_
      refine k_iconst C dX12_areShelved_24 (v := -1) rfl ?_
      refine k_icmp_eq C dX12_areShelved_25 (tgt := 41) (by decide) (fun c25 => ?_) (fun c25 => ?_)
      · replace h := k_if_t h c25
        refine k_iconst C dX12_areShelved_41 (v := 0) rfl ?_
        exact k_zret C dX12_areShelved_42 hr rfl (k_p1 h)
      · replace h := k_if_f h c25
        refine k_aload_n C dX12_areShelved_28 0 rfl ?_
        refine k_get C dX12_areShelved_29 (k_gM0_41 w) k_fX12_83 (Or.inl rfl) ?_
        refine k_iload_n C dX12_areShelved_32 2 rfl ?_
        obtain ⟨q33, h⟩ := k_gd_e h
        refine k_zald C dX12_areShelved_33 (k_aM24 w) q33 ?_
        refine k_if_eq C dX12_areShelved_34 (tgt := 41) (by decide) (fun c34 => ?_) (fun c34 => ?_)
        · replace h := k_if_t h c34
          refine k_iconst C dX12_areShelved_41 (v := 0) rfl ?_
          exact k_zret C dX12_areShelved_42 hr rfl (k_p1 h)
        · replace h := k_if_f h c34
          refine k_iconst C dX12_areShelved_37 (v := 1) rfl ?_
          refine k_goto C dX12_areShelved_38 (tgt := 42) (by decide) ?_
          exact k_zret C dX12_areShelved_42 hr rfl (k_p1 h)
def f_X12_fitOf (x1 : Int32) (x2 : Int32) (σ : k_St) : Option (Int32 × k_St) :=
  k_gd (k_ix x1 4 = true) <|
  k_b2 (f_X12_spreadOut (k_rd σ 22 x1.toNatClampNeg) (4 : Int32) 20 σ) fun v11 s11 =>
  k_bd (f_X12_layBrings 20 s11) fun s20 =>
  k_loop (fun (g25 : Int32 × k_St → Option (Int32 × k_St)) (z25 : Int32 × k_St) => match z25 with
    | (v3_25, s_25) =>
      k_if ((16 : Int32) ≤ v3_25)
        (k_bd (f_X12_sumBy 19 s_25) fun v59 =>
        some (v59, s_25))
        (k_gd (k_ix (((16 : Int32) * x2) + v3_25) 64 = true) <|
        k_gd (k_ix v3_25 16 = true) <|
        k_nm (k_wr s_25 19 v3_25.toNatClampNeg (k_rd s_25 23 (((16 : Int32) * x2) + v3_25).toNatClampNeg)) fun s47 =>
        k_nm (v3_25 + (1 : Int32)) fun y48 =>
        g25 (y48, s47))) 100000 ((0 : Int32), s20)
set_option maxHeartbeats 4000000 in
set_option maxRecDepth 100000 in
theorem e_X12_fitOf {l : Launch} {w : k_WC} {d : Nat} (hd : 9 ≤ d) {x1 : Int32} {x2 : Int32}  {σ σ' : k_St} {r : Int32} (h : f_X12_fitOf x1 x2 σ = some (r, σ')) : k_EI l (k_PM w) yX12_fitOf cX12_fitOf 4 (some .int) d [.ref (w.2.1 0), .int x1, .int x2] σ r σ' := by
  refine k_of (own := RX12) rfl (by decide) (Nat.le_of_ble_eq_true rfl) (fun X hX C hr => ?_)
  show k_K (k_PM w) X (k_MQ X (k_Qi (k_PM w) r σ') (k_PM w).2.2.1) 0 [(0, .ref (w.2.1 0)), (1, .int x1), (2, .int x2)] [] σ
  unfold f_X12_fitOf at h
  refine k_aload_n C dX12_fitOf_0 0 rfl ?_
  refine k_get C dX12_fitOf_1 (k_gM0_39 w) k_fX12_77 (Or.inl rfl) ?_
  refine k_iload_n C dX12_fitOf_4 1 rfl ?_
  obtain ⟨q5, h⟩ := k_gd_e h
  refine k_iald C dX12_fitOf_5 (k_aM22 w) q5 ?_
  refine k_iconst C dX12_fitOf_6 (v := 4) rfl ?_
  refine k_aload_n C dX12_fitOf_7 0 rfl ?_
  refine k_get C dX12_fitOf_8 (k_gM0_37 w) k_fX12_71 (Or.inl rfl) ?_
  obtain ⟨v11, s11, h11, h⟩ := k_b2_e h
  refine k_goI (k_runS C dX12_fitOf_11 (e_X12_spreadOut (d := 3) (Nat.le_refl _) (k_aM20 w) h11) k_lX12_359 k_yX12_spreadOut (by omega) rfl (Nat.le_of_ble_eq_true rfl)) ?_
  refine k_pop C dX12_fitOf_14 rfl ?_
  refine k_aload_n C dX12_fitOf_15 0 rfl ?_
  refine k_aload_n C dX12_fitOf_16 0 rfl ?_
  refine k_get C dX12_fitOf_17 (k_gM0_37 w) k_fX12_71 (Or.inl rfl) ?_
  obtain ⟨s20, h20, h⟩ := k_bd_e h
  refine k_goV (k_runV C dX12_fitOf_20 (e_X12_layBrings (d := 8) (Nat.le_refl _) (k_aM20 w) h20) k_lX12_378 k_yX12_layBrings (k_oM0 w) (by omega) rfl (Nat.le_of_ble_eq_true rfl)) ?_
  refine k_iconst C dX12_fitOf_23 (v := 0) rfl ?_
  refine k_istore_n C dX12_fitOf_24 (by decide) [1, 2, 3, 0] (L' := [(0, .ref (w.2.1 0)), (1, .int x1), (2, .int x2), (3, .int (0 : Int32))]) rfl ?_
  obtain ⟨b25, eb25, h⟩ := k_lp_e h
  have K25 : ∀ (n : Nat) (v3_25 : Int32) (s_25 : k_St), k_loop b25 n (v3_25, s_25) = some (r, σ') → k_K (k_PM w) X (k_MQ X (k_Qi (k_PM w) r σ') (k_PM w).2.2.1) 25 [(0, .ref (w.2.1 0)), (2, .int x2), (3, .int v3_25)] [] s_25 := by
    intro n
    induction n with
    | zero => intro v3_25 s_25 h; cases h
    | succ n ih25 =>
      intro v3_25 s_25 h
      obtain ⟨g25, eg25, h⟩ := k_lp_s h
      rw [← eg25] at ih25
      rw [eb25] at h
      refine k_iload_n C dX12_fitOf_25 2 rfl ?_
      refine k_bipush C dX12_fitOf_26 (v := 16) rfl ?_
      refine k_icmp_ge C dX12_fitOf_28 (tgt := 54) (by decide) (fun c28 => ?_) (fun c28 => ?_)
      · replace h := k_if_t h c28
        refine k_aload_n C dX12_fitOf_54 0 rfl ?_
        refine k_aload_n C dX12_fitOf_55 0 rfl ?_
        refine k_get C dX12_fitOf_56 (k_gM0_36 w) k_fX12_68 (Or.inl rfl) ?_
        obtain ⟨v59, h59, h⟩ := k_bd_e h
        refine k_goI (k_runV C dX12_fitOf_59 (e_X12_sumBy (d := 2) (Nat.le_refl _) (k_aM19 w) h59) k_lX12_382 k_yX12_sumBy (k_oM0 w) (by omega) rfl (Nat.le_of_ble_eq_true rfl)) ?_
        exact k_iret C dX12_fitOf_62 hr (Option.some.inj h)
      · replace h := k_if_f h c28
        refine k_aload_n C dX12_fitOf_31 0 rfl ?_
        refine k_get C dX12_fitOf_32 (k_gM0_36 w) k_fX12_68 (Or.inl rfl) ?_
        refine k_iload_n C dX12_fitOf_35 2 rfl ?_
        refine k_aload_n C dX12_fitOf_36 0 rfl ?_
        refine k_get C dX12_fitOf_37 (k_gM0_40 w) k_fX12_80 (Or.inl rfl) ?_
        refine k_bipush C dX12_fitOf_40 (v := 16) rfl ?_
        refine k_iload_n C dX12_fitOf_42 1 rfl ?_
        refine k_imul C dX12_fitOf_43 ?_
        refine k_iload_n C dX12_fitOf_44 2 rfl ?_
        refine k_iadd C dX12_fitOf_45 ?_
        obtain ⟨q46, h⟩ := k_gd_e h
        refine k_iald C dX12_fitOf_46 (k_aM23 w) q46 ?_
        obtain ⟨q47, h⟩ := k_gd_e h
        refine k_iast C dX12_fitOf_47 (k_aM19 w) q47 ?_
        refine k_st (fun s47 es47 => ?_)
        replace h := k_nm_e h s47 es47
        refine k_iinc C dX12_fitOf_48 2 rfl (v := 1) rfl (by decide) [1, 2, 0] (L' := fun z9 => [(0, .ref (w.2.1 0)), (2, .int x2), (3, .int z9)]) (fun z9 => rfl) (fun y48 ey48 => ?_)
        replace h := k_nm_e h y48 ey48
        refine k_goto C dX12_fitOf_51 (tgt := 25) (by decide) ?_
        exact ih25 _ _ h
  refine k_sub (L' := [(0, .ref (w.2.1 0)), (2, .int x2), (3, .int (0 : Int32))]) [0, 2, 3] rfl ?_
  exact K25 _ _ _ h
def f_X12_fit (x1 : Int32) (x2 : Int32) (x3 : Int32) (σ : k_St) : Option (Int32 × k_St) :=
  k_if ((k_rd σ 0 21) ≤ (0 : Int32))
    (some ((-1 : Int32), σ))
    (k_bd (f_X12_areShelved x1 x2 σ) fun v10 =>
    k_if (v10 = (0 : Int32))
      (some ((-1 : Int32), σ))
      (k_bd (f_X12_in x3 (0 : Int32) (1 : Int32)) fun v19 =>
      k_if (v19 = (0 : Int32))
        (some ((-1 : Int32), σ))
        (k_b2 (f_X12_fitOf x1 x2 σ) fun v29 s29 =>
        k_bd (f_X12_plain v29 x3 s29) fun v33 =>
        some (v33, s29))))
set_option maxHeartbeats 4000000 in
set_option maxRecDepth 100000 in
theorem e_X12_fit {l : Launch} {w : k_WC} {d : Nat} (hd : 205 ≤ d) {x1 : Int32} {x2 : Int32} {x3 : Int32}  {σ σ' : k_St} {r : Int32} (h : f_X12_fit x1 x2 x3 σ = some (r, σ')) : k_EI l (k_PM w) yX12_fit cX12_fit 4 (some .int) d [.ref (w.2.1 0), .int x1, .int x2, .int x3] σ r σ' := by
  refine k_of (own := RX12) rfl (by decide) (Nat.le_of_ble_eq_true rfl) (fun X hX C hr => ?_)
  show k_K (k_PM w) X (k_MQ X (k_Qi (k_PM w) r σ') (k_PM w).2.2.1) 0 [(0, .ref (w.2.1 0)), (1, .int x1), (2, .int x2), (3, .int x3)] [] σ
  unfold f_X12_fit at h
  refine k_aload_n C dX12_fit_0 0 rfl ?_
  refine k_get C dX12_fit_1 (k_gM0_21 w) k_fX12_306 (Or.inl rfl) ?_
  refine k_if_le C dX12_fit_4 (tgt := 39) (by decide) (fun c4 => ?_) (fun c4 => ?_)
  · replace h := k_if_t h c4
    refine k_iconst C dX12_fit_39 (v := -1) rfl ?_
    exact k_iret C dX12_fit_40 hr (Option.some.inj h)
  · replace h := k_if_f h c4
    refine k_aload_n C dX12_fit_7 0 rfl ?_
    refine k_iload_n C dX12_fit_8 1 rfl ?_
    refine k_iload_n C dX12_fit_9 2 rfl ?_
    obtain ⟨v10, h10, h⟩ := k_bd_e h
    refine k_goI (k_runV C dX12_fit_10 (e_X12_areShelved (d := 3) (Nat.le_refl _) h10) k_lX12_422 k_yX12_areShelved (k_oM0 w) (by omega) rfl (Nat.le_of_ble_eq_true rfl)) ?_
    refine k_if_eq C dX12_fit_13 (tgt := 39) (by decide) (fun c13 => ?_) (fun c13 => ?_)
    · replace h := k_if_t h c13
      refine k_iconst C dX12_fit_39 (v := -1) rfl ?_
      exact k_iret C dX12_fit_40 hr (Option.some.inj h)
    · replace h := k_if_f h c13
      refine k_iload_n C dX12_fit_16 3 rfl ?_
      refine k_iconst C dX12_fit_17 (v := 0) rfl ?_
      refine k_iconst C dX12_fit_18 (v := 1) rfl ?_
      obtain ⟨v19, h19, h⟩ := k_bd_e h
      refine k_goI (k_runS C dX12_fit_19 (e_X12_in (d := 2) (Nat.le_refl _) h19) k_lX12_269 k_yX12_in (by omega) rfl (Nat.le_of_ble_eq_true rfl)) ?_
      refine k_if_eq C dX12_fit_22 (tgt := 39) (by decide) (fun c22 => ?_) (fun c22 => ?_)
      · replace h := k_if_t h c22
        refine k_iconst C dX12_fit_39 (v := -1) rfl ?_
        exact k_iret C dX12_fit_40 hr (Option.some.inj h)
      · replace h := k_if_f h c22
        refine k_aload_n C dX12_fit_25 0 rfl ?_
        refine k_aload_n C dX12_fit_26 0 rfl ?_
        refine k_iload_n C dX12_fit_27 1 rfl ?_
        refine k_iload_n C dX12_fit_28 2 rfl ?_
        obtain ⟨v29, s29, h29, h⟩ := k_b2_e h
        refine k_goI (k_runV C dX12_fit_29 (e_X12_fitOf (d := 9) (Nat.le_refl _) h29) k_lX12_425 k_yX12_fitOf (k_oM0 w) (by omega) rfl (Nat.le_of_ble_eq_true rfl)) ?_
        refine k_iload_n C dX12_fit_32 3 rfl ?_
        obtain ⟨v33, h33, h⟩ := k_bd_e h
        refine k_goI (k_runV C dX12_fit_33 (e_X12_plain (d := 204) (Nat.le_refl _) h33) k_lX12_386 k_yX12_plain (k_oM0 w) (by omega) rfl (Nat.le_of_ble_eq_true rfl)) ?_
        refine k_goto C dX12_fit_36 (tgt := 40) (by decide) ?_
        exact k_iret C dX12_fit_40 hr (Option.some.inj h)
def f_X12_layPairs  (σ : k_St) : Option (k_St) :=
  k_loop (fun (g4 : Int32 × k_St → Option (k_St)) (z4 : Int32 × k_St) => match z4 with
    | (v2_4, s_4) =>
      k_if ((4 : Int32) ≤ v2_4)
        (k_loop (fun (g24 : Int32 × Int32 × k_St → Option (k_St)) (z24 : Int32 × Int32 × k_St) => match z24 with
          | (v1_24, v2_24, s_24) =>
            k_if (v2_24 = (0 : Int32))
              (some s_24)
              (k_loop (fun (g36 : Int32 × Int32 × Int32 × k_St → Option (k_St)) (z36 : Int32 × Int32 × Int32 × k_St) => match z36 with
                | (v3_36, v4_36, v5_36, s_36) =>
                  k_if ((4 : Int32) ≤ v5_36)
                    (k_jn (fun (t0_140 : Int32) =>
                      k_if (t0_140 = (0 : Int32))
                        (g24 (v1_24, t0_140, s_36))
                        (k_gd (k_ix (v3_36 / (4 : Int32)) 4 = true) <|
                        k_nm (k_wr s_36 25 (v3_36 / (4 : Int32)).toNatClampNeg (o_rem v3_36 (4 : Int32))) fun s155 =>
                        k_nm ((v1_24 ||| (o_shl (1 : Int32) (o_rem v3_36 (4 : Int32))))) fun y163 =>
                        g24 (y163, t0_140, s155))) fun j140 =>
                    k_if (v3_36 = (-1 : Int32))
                      (j140 (0 : Int32))
                      (j140 (1 : Int32)))
                    (k_loop (fun (g45 : Int32 × Int32 × Int32 × k_St → Option (k_St)) (z45 : Int32 × Int32 × Int32 × k_St) => match z45 with
                      | (v3_45, v4_45, v6_45, s_45) =>
                        k_if ((4 : Int32) ≤ v6_45)
                          (k_nm (v5_36 + (1 : Int32)) fun y124 =>
                          g36 (v3_45, v4_45, y124, s_45))
                          (k_bd (f_X12_areShelved v5_36 v6_45 s_45) fun v56 =>
                          k_if (v56 = (0 : Int32))
                            (k_nm (v6_45 + (1 : Int32)) fun y118 =>
                            g45 (v3_45, v4_45, y118, s_45))
                            (k_gd (k_ix v5_36 4 = true) <|
                            k_if ((k_rd s_45 25 v5_36.toNatClampNeg) = (-1 : Int32))
                              (k_bd (f_X12_has v1_24 v6_45) fun v76 =>
                              k_if (v76 = (0 : Int32))
                                (k_jn (fun (s_100 : k_St) =>
                                  k_nm ((((4 : Int32) * v5_36) + v6_45)) fun y107 =>
                                  k_b2 (f_X12_fitOf v5_36 v6_45 s_100) fun v113 s113 =>
                                  k_nm (v6_45 + (1 : Int32)) fun y118 =>
                                  g45 (y107, v113, y118, s113)) fun j100 =>
                                k_if (v3_45 = (-1 : Int32))
                                  (j100 s_45)
                                  (k_b2 (f_X12_fitOf v5_36 v6_45 s_45) fun v92 s92 =>
                                  k_if (v92 ≤ v4_45)
                                    (k_nm (v6_45 + (1 : Int32)) fun y118 =>
                                    g45 (v3_45, v4_45, y118, s92))
                                    (j100 s92)))
                                (k_nm (v6_45 + (1 : Int32)) fun y118 =>
                                g45 (v3_45, v4_45, y118, s_45)))
                              (k_nm (v6_45 + (1 : Int32)) fun y118 =>
                              g45 (v3_45, v4_45, y118, s_45))))) 100000 (v3_36, v4_36, (0 : Int32), s_36))) 100000 ((-1 : Int32), (0 : Int32), (0 : Int32), s_24))) 100000 ((0 : Int32), (1 : Int32), s_4))
        (k_gd (k_ix v2_4 4 = true) <|
        k_nm (k_wr s_4 25 v2_4.toNatClampNeg (-1 : Int32)) fun s15 =>
        k_nm (v2_4 + (1 : Int32)) fun y16 =>
        g4 (y16, s15))) 100000 ((0 : Int32), σ)
set_option maxHeartbeats 4000000 in
set_option maxRecDepth 100000 in
theorem e_X12_layPairs {l : Launch} {w : k_WC} {d : Nat} (hd : 10 ≤ d)   {σ σ' : k_St} (h : f_X12_layPairs σ = some σ') : k_EV l (k_PM w) yX12_layPairs cX12_layPairs 7 d [.ref (w.2.1 0)] σ σ' := by
  refine k_of (own := RX12) rfl (by decide) (Nat.le_of_ble_eq_true rfl) (fun X hX C hr => ?_)
  show k_K (k_PM w) X (k_MQ X (k_Qv (k_PM w) σ') (k_PM w).2.2.1) 0 [(0, .ref (w.2.1 0))] [] σ
  unfold f_X12_layPairs at h
  refine k_iconst C dX12_layPairs_0 (v := 0) rfl ?_
  refine k_istore_n C dX12_layPairs_1 (by decide) [1, 0] (L' := [(0, .ref (w.2.1 0)), (1, .int (0 : Int32))]) rfl ?_
  refine k_iconst C dX12_layPairs_2 (v := 0) rfl ?_
  refine k_istore_n C dX12_layPairs_3 (by decide) [1, 2, 0] (L' := [(0, .ref (w.2.1 0)), (1, .int (0 : Int32)), (2, .int (0 : Int32))]) rfl ?_
  obtain ⟨b4, eb4, h⟩ := k_lp_e h
  have K4 : ∀ (n : Nat) (v2_4 : Int32) (s_4 : k_St), k_loop b4 n (v2_4, s_4) = some σ' → k_K (k_PM w) X (k_MQ X (k_Qv (k_PM w) σ') (k_PM w).2.2.1) 4 [(0, .ref (w.2.1 0)), (1, .int (0 : Int32)), (2, .int v2_4)] [] s_4 := by
    intro n
    induction n with
    | zero => intro v2_4 s_4 h; cases h
    | succ n ih4 =>
      intro v2_4 s_4 h
      obtain ⟨g4, eg4, h⟩ := k_lp_s h
      rw [← eg4] at ih4
      rw [eb4] at h
      refine k_iload_n C dX12_layPairs_4 2 rfl ?_
      refine k_iconst C dX12_layPairs_5 (v := 4) rfl ?_
      refine k_icmp_ge C dX12_layPairs_6 (tgt := 22) (by decide) (fun c6 => ?_) (fun c6 => ?_)
      · replace h := k_if_t h c6
        refine k_iconst C dX12_layPairs_22 (v := 1) rfl ?_
        refine k_istore_n C dX12_layPairs_23 (by decide) [1, 2, 0] (L' := [(0, .ref (w.2.1 0)), (1, .int (0 : Int32)), (2, .int (1 : Int32))]) rfl ?_
        obtain ⟨b24, eb24, h⟩ := k_lp_e h
        have K24 : ∀ (n : Nat) (v1_24 : Int32) (v2_24 : Int32) (s_24 : k_St), k_loop b24 n (v1_24, v2_24, s_24) = some σ' → k_K (k_PM w) X (k_MQ X (k_Qv (k_PM w) σ') (k_PM w).2.2.1) 24 [(0, .ref (w.2.1 0)), (1, .int v1_24), (2, .int v2_24)] [] s_24 := by
          intro n
          induction n with
          | zero => intro v1_24 v2_24 s_24 h; cases h
          | succ n ih24 =>
            intro v1_24 v2_24 s_24 h
            obtain ⟨g24, eg24, h⟩ := k_lp_s h
            rw [← eg24] at ih24
            rw [eb24] at h
            refine k_iload_n C dX12_layPairs_24 2 rfl ?_
            refine k_if_eq C dX12_layPairs_25 (tgt := 167) (by decide) (fun c25 => ?_) (fun c25 => ?_)
            · replace h := k_if_t h c25
              exact k_vret C dX12_layPairs_167 hr (Option.some.inj h)
            · replace h := k_if_f h c25
              refine k_iconst C dX12_layPairs_28 (v := -1) rfl ?_
              refine k_istore_n C dX12_layPairs_29 (by decide) [1, 2, 3, 0] (L' := [(0, .ref (w.2.1 0)), (1, .int v1_24), (2, .int v2_24), (3, .int (-1 : Int32))]) rfl ?_
              refine k_iconst C dX12_layPairs_30 (v := 0) rfl ?_
              refine k_istore C dX12_layPairs_31 (by decide) [1, 2, 3, 4, 0] (L' := [(0, .ref (w.2.1 0)), (1, .int v1_24), (2, .int v2_24), (3, .int (-1 : Int32)), (4, .int (0 : Int32))]) rfl ?_
              refine k_iconst C dX12_layPairs_33 (v := 0) rfl ?_
              refine k_istore C dX12_layPairs_34 (by decide) [1, 2, 3, 4, 5, 0] (L' := [(0, .ref (w.2.1 0)), (1, .int v1_24), (2, .int v2_24), (3, .int (-1 : Int32)), (4, .int (0 : Int32)), (5, .int (0 : Int32))]) rfl ?_
              obtain ⟨b36, eb36, h⟩ := k_lp_e h
              have K36 : ∀ (n : Nat) (v3_36 : Int32) (v4_36 : Int32) (v5_36 : Int32) (s_36 : k_St), k_loop b36 n (v3_36, v4_36, v5_36, s_36) = some σ' → k_K (k_PM w) X (k_MQ X (k_Qv (k_PM w) σ') (k_PM w).2.2.1) 36 [(0, .ref (w.2.1 0)), (1, .int v1_24), (3, .int v3_36), (4, .int v4_36), (5, .int v5_36)] [] s_36 := by
                intro n
                induction n with
                | zero => intro v3_36 v4_36 v5_36 s_36 h; cases h
                | succ n ih36 =>
                  intro v3_36 v4_36 v5_36 s_36 h
                  obtain ⟨g36, eg36, h⟩ := k_lp_s h
                  rw [← eg36] at ih36
                  rw [eb36] at h
                  refine k_iload C dX12_layPairs_36 4 rfl ?_
                  refine k_iconst C dX12_layPairs_38 (v := 4) rfl ?_
                  refine k_icmp_ge C dX12_layPairs_39 (tgt := 130) (by decide) (fun c39 => ?_) (fun c39 => ?_)
                  · replace h := k_if_t h c39
                    refine k_iload_n C dX12_layPairs_130 2 rfl ?_
                    refine k_iconst C dX12_layPairs_131 (v := -1) rfl ?_
                    obtain ⟨j140, ej140, h⟩ := k_jn_e h
                    have Jj140 : ∀ (t0_140 : Int32), j140 t0_140 = some σ' → k_K (k_PM w) X (k_MQ X (k_Qv (k_PM w) σ') (k_PM w).2.2.1) 140 [(0, .ref (w.2.1 0)), (1, .int v1_24), (3, .int v3_36)] [.int t0_140] s_36 := by
                      intro t0_140 h
                      rw [ej140] at h
                      refine k_istore_n C dX12_layPairs_140 (by decide) [1, 2, 0, 3] (L' := [(0, .ref (w.2.1 0)), (1, .int v1_24), (2, .int t0_140), (3, .int v3_36)]) rfl ?_
                      refine k_iload_n C dX12_layPairs_141 2 rfl ?_
                      refine k_if_eq C dX12_layPairs_142 (tgt := 164) (by decide) (fun c142 => ?_) (fun c142 => ?_)
                      · replace h := k_if_t h c142
                        refine k_goto C dX12_layPairs_164 (tgt := 24) (by decide) ?_
                        refine k_sub (L' := [(0, .ref (w.2.1 0)), (1, .int v1_24), (2, .int t0_140)]) [0, 1, 2] rfl ?_
                        exact ih24 _ _ _ h
                      · replace h := k_if_f h c142
                        refine k_aload_n C dX12_layPairs_145 0 rfl ?_
                        refine k_get C dX12_layPairs_146 (k_gM0_42 w) k_fX12_87 (Or.inl rfl) ?_
                        refine k_iload_n C dX12_layPairs_149 3 rfl ?_
                        refine k_iconst C dX12_layPairs_150 (v := 4) rfl ?_
                        refine k_idiv C dX12_layPairs_151 (by decide) ?_
                        refine k_iload_n C dX12_layPairs_152 3 rfl ?_
                        refine k_iconst C dX12_layPairs_153 (v := 4) rfl ?_
                        refine k_irem C dX12_layPairs_154 (by decide) ?_
                        obtain ⟨q155, h⟩ := k_gd_e h
                        refine k_iast C dX12_layPairs_155 (k_aM25 w) q155 ?_
                        refine k_st (fun s155 es155 => ?_)
                        replace h := k_nm_e h s155 es155
                        refine k_iload_n C dX12_layPairs_156 1 rfl ?_
                        refine k_iconst C dX12_layPairs_157 (v := 1) rfl ?_
                        refine k_iload_n C dX12_layPairs_158 3 rfl ?_
                        refine k_iconst C dX12_layPairs_159 (v := 4) rfl ?_
                        refine k_irem C dX12_layPairs_160 (by decide) ?_
                        refine k_ishl C dX12_layPairs_161 ?_
                        refine k_ior C dX12_layPairs_162 ?_
                        refine k_topi (fun y163 ey163 => ?_)
                        replace h := k_nm_e h y163 ey163
                        refine k_istore_n C dX12_layPairs_163 (by decide) [1, 0, 2, 3] (L' := [(0, .ref (w.2.1 0)), (1, .int y163), (2, .int t0_140), (3, .int v3_36)]) rfl ?_
                        refine k_goto C dX12_layPairs_164 (tgt := 24) (by decide) ?_
                        refine k_sub (L' := [(0, .ref (w.2.1 0)), (1, .int y163), (2, .int t0_140)]) [0, 1, 2] rfl ?_
                        exact ih24 _ _ _ h
                    refine k_icmp_eq C dX12_layPairs_132 (tgt := 139) (by decide) (fun c132 => ?_) (fun c132 => ?_)
                    · replace h := k_if_t h c132
                      refine k_iconst C dX12_layPairs_139 (v := 0) rfl ?_
                      refine k_sub (L' := [(0, .ref (w.2.1 0)), (1, .int v1_24), (3, .int v3_36)]) [0, 1, 2] rfl ?_
                      exact Jj140 _ h
                    · replace h := k_if_f h c132
                      refine k_iconst C dX12_layPairs_135 (v := 1) rfl ?_
                      refine k_goto C dX12_layPairs_136 (tgt := 140) (by decide) ?_
                      refine k_sub (L' := [(0, .ref (w.2.1 0)), (1, .int v1_24), (3, .int v3_36)]) [0, 1, 2] rfl ?_
                      exact Jj140 _ h
                  · replace h := k_if_f h c39
                    refine k_iconst C dX12_layPairs_42 (v := 0) rfl ?_
                    refine k_istore C dX12_layPairs_43 (by decide) [1, 2, 3, 4, 5, 0] (L' := [(0, .ref (w.2.1 0)), (1, .int v1_24), (3, .int v3_36), (4, .int v4_36), (5, .int v5_36), (6, .int (0 : Int32))]) rfl ?_
                    obtain ⟨b45, eb45, h⟩ := k_lp_e h
                    have K45 : ∀ (n : Nat) (v3_45 : Int32) (v4_45 : Int32) (v6_45 : Int32) (s_45 : k_St), k_loop b45 n (v3_45, v4_45, v6_45, s_45) = some σ' → k_K (k_PM w) X (k_MQ X (k_Qv (k_PM w) σ') (k_PM w).2.2.1) 45 [(0, .ref (w.2.1 0)), (1, .int v1_24), (3, .int v3_45), (4, .int v4_45), (5, .int v5_36), (6, .int v6_45)] [] s_45 := by
                      intro n
                      induction n with
                      | zero => intro v3_45 v4_45 v6_45 s_45 h; cases h
                      | succ n ih45 =>
                        intro v3_45 v4_45 v6_45 s_45 h
                        obtain ⟨g45, eg45, h⟩ := k_lp_s h
                        rw [← eg45] at ih45
                        rw [eb45] at h
                        refine k_iload C dX12_layPairs_45 5 rfl ?_
                        refine k_iconst C dX12_layPairs_47 (v := 4) rfl ?_
                        refine k_icmp_ge C dX12_layPairs_48 (tgt := 124) (by decide) (fun c48 => ?_) (fun c48 => ?_)
                        · replace h := k_if_t h c48
                          refine k_iinc C dX12_layPairs_124 4 rfl (v := 1) rfl (by decide) [1, 2, 3, 4, 0, 5] (L' := fun z9 => [(0, .ref (w.2.1 0)), (1, .int v1_24), (3, .int v3_45), (4, .int v4_45), (5, .int z9), (6, .int v6_45)]) (fun z9 => rfl) (fun y124 ey124 => ?_)
                          replace h := k_nm_e h y124 ey124
                          refine k_goto C dX12_layPairs_127 (tgt := 36) (by decide) ?_
                          refine k_sub (L' := [(0, .ref (w.2.1 0)), (1, .int v1_24), (3, .int v3_45), (4, .int v4_45), (5, .int y124)]) [0, 1, 2, 3, 4] rfl ?_
                          exact ih36 _ _ _ _ h
                        · replace h := k_if_f h c48
                          refine k_aload_n C dX12_layPairs_51 0 rfl ?_
                          refine k_iload C dX12_layPairs_52 4 rfl ?_
                          refine k_iload C dX12_layPairs_54 5 rfl ?_
                          obtain ⟨v56, h56, h⟩ := k_bd_e h
                          refine k_goI (k_runV C dX12_layPairs_56 (e_X12_areShelved (d := 3) (Nat.le_refl _) h56) k_lX12_422 k_yX12_areShelved (k_oM0 w) (by omega) rfl (Nat.le_of_ble_eq_true rfl)) ?_
                          refine k_if_eq C dX12_layPairs_59 (tgt := 118) (by decide) (fun c59 => ?_) (fun c59 => ?_)
                          · replace h := k_if_t h c59
                            refine k_iinc C dX12_layPairs_118 5 rfl (v := 1) rfl (by decide) [1, 2, 3, 4, 5, 0] (L' := fun z9 => [(0, .ref (w.2.1 0)), (1, .int v1_24), (3, .int v3_45), (4, .int v4_45), (5, .int v5_36), (6, .int z9)]) (fun z9 => rfl) (fun y118 ey118 => ?_)
                            replace h := k_nm_e h y118 ey118
                            refine k_goto C dX12_layPairs_121 (tgt := 45) (by decide) ?_
                            exact ih45 _ _ _ _ h
                          · replace h := k_if_f h c59
                            refine k_aload_n C dX12_layPairs_62 0 rfl ?_
                            refine k_get C dX12_layPairs_63 (k_gM0_42 w) k_fX12_87 (Or.inl rfl) ?_
                            refine k_iload C dX12_layPairs_66 4 rfl ?_
                            obtain ⟨q68, h⟩ := k_gd_e h
                            refine k_iald C dX12_layPairs_68 (k_aM25 w) q68 ?_
                            refine k_iconst C dX12_layPairs_69 (v := -1) rfl ?_
                            refine k_icmp_ne C dX12_layPairs_70 (tgt := 118) (by decide) (fun c70 => ?_) (fun c70 => ?_)
                            · replace h := k_if_f h c70
                              refine k_iinc C dX12_layPairs_118 5 rfl (v := 1) rfl (by decide) [1, 2, 3, 4, 5, 0] (L' := fun z9 => [(0, .ref (w.2.1 0)), (1, .int v1_24), (3, .int v3_45), (4, .int v4_45), (5, .int v5_36), (6, .int z9)]) (fun z9 => rfl) (fun y118 ey118 => ?_)
                              replace h := k_nm_e h y118 ey118
                              refine k_goto C dX12_layPairs_121 (tgt := 45) (by decide) ?_
                              exact ih45 _ _ _ _ h
                            · replace h := k_if_t h c70
                              refine k_iload_n C dX12_layPairs_73 1 rfl ?_
                              refine k_iload C dX12_layPairs_74 5 rfl ?_
                              obtain ⟨v76, h76, h⟩ := k_bd_e h
                              refine k_goI (k_runS C dX12_layPairs_76 (e_X12_has (d := 2) (Nat.le_refl _) h76) k_lX12_280 k_yX12_has (by omega) rfl (Nat.le_of_ble_eq_true rfl)) ?_
                              refine k_if_ne C dX12_layPairs_79 (tgt := 118) (by decide) (fun c79 => ?_) (fun c79 => ?_)
                              · replace h := k_if_f h c79
                                refine k_iinc C dX12_layPairs_118 5 rfl (v := 1) rfl (by decide) [1, 2, 3, 4, 5, 0] (L' := fun z9 => [(0, .ref (w.2.1 0)), (1, .int v1_24), (3, .int v3_45), (4, .int v4_45), (5, .int v5_36), (6, .int z9)]) (fun z9 => rfl) (fun y118 ey118 => ?_)
                                replace h := k_nm_e h y118 ey118
                                refine k_goto C dX12_layPairs_121 (tgt := 45) (by decide) ?_
                                exact ih45 _ _ _ _ h
                              · replace h := k_if_t h c79
                                refine k_iload_n C dX12_layPairs_82 2 rfl ?_
                                refine k_iconst C dX12_layPairs_83 (v := -1) rfl ?_
                                obtain ⟨j100, ej100, h⟩ := k_jn_e h
                                have Jj100 : ∀ (s_100 : k_St), j100 s_100 = some σ' → k_K (k_PM w) X (k_MQ X (k_Qv (k_PM w) σ') (k_PM w).2.2.1) 100 [(0, .ref (w.2.1 0)), (1, .int v1_24), (5, .int v5_36), (6, .int v6_45)] [] s_100 := by
                                  intro s_100 h
                                  rw [ej100] at h
                                  refine k_iconst C dX12_layPairs_100 (v := 4) rfl ?_
                                  refine k_iload C dX12_layPairs_101 2 rfl ?_
                                  refine k_imul C dX12_layPairs_103 ?_
                                  refine k_iload C dX12_layPairs_104 3 rfl ?_
                                  refine k_iadd C dX12_layPairs_106 ?_
                                  refine k_topi (fun y107 ey107 => ?_)
                                  replace h := k_nm_e h y107 ey107
                                  refine k_istore_n C dX12_layPairs_107 (by decide) [1, 2, 0, 3, 4] (L' := [(0, .ref (w.2.1 0)), (1, .int v1_24), (3, .int y107), (5, .int v5_36), (6, .int v6_45)]) rfl ?_
                                  refine k_aload_n C dX12_layPairs_108 0 rfl ?_
                                  refine k_iload C dX12_layPairs_109 3 rfl ?_
                                  refine k_iload C dX12_layPairs_111 4 rfl ?_
                                  obtain ⟨v113, s113, h113, h⟩ := k_b2_e h
                                  refine k_goI (k_runV C dX12_layPairs_113 (e_X12_fitOf (d := 9) (Nat.le_refl _) h113) k_lX12_425 k_yX12_fitOf (k_oM0 w) (by omega) rfl (Nat.le_of_ble_eq_true rfl)) ?_
                                  refine k_istore C dX12_layPairs_116 (by decide) [1, 2, 3, 0, 4, 5] (L' := [(0, .ref (w.2.1 0)), (1, .int v1_24), (3, .int y107), (4, .int v113), (5, .int v5_36), (6, .int v6_45)]) rfl ?_
                                  refine k_iinc C dX12_layPairs_118 5 rfl (v := 1) rfl (by decide) [1, 2, 3, 4, 5, 0] (L' := fun z9 => [(0, .ref (w.2.1 0)), (1, .int v1_24), (3, .int y107), (4, .int v113), (5, .int v5_36), (6, .int z9)]) (fun z9 => rfl) (fun y118 ey118 => ?_)
                                  replace h := k_nm_e h y118 ey118
                                  refine k_goto C dX12_layPairs_121 (tgt := 45) (by decide) ?_
                                  exact ih45 _ _ _ _ h
                                refine k_icmp_eq C dX12_layPairs_84 (tgt := 100) (by decide) (fun c84 => ?_) (fun c84 => ?_)
                                · replace h := k_if_t h c84
                                  refine k_sub (L' := [(0, .ref (w.2.1 0)), (1, .int v1_24), (5, .int v5_36), (6, .int v6_45)]) [0, 1, 4, 5] rfl ?_
                                  exact Jj100 _ h
                                · replace h := k_if_f h c84
                                  refine k_aload_n C dX12_layPairs_87 0 rfl ?_
                                  refine k_iload C dX12_layPairs_88 4 rfl ?_
                                  refine k_iload C dX12_layPairs_90 5 rfl ?_
                                  obtain ⟨v92, s92, h92, h⟩ := k_b2_e h
                                  refine k_goI (k_runV C dX12_layPairs_92 (e_X12_fitOf (d := 9) (Nat.le_refl _) h92) k_lX12_425 k_yX12_fitOf (k_oM0 w) (by omega) rfl (Nat.le_of_ble_eq_true rfl)) ?_
                                  refine k_iload C dX12_layPairs_95 3 rfl ?_
                                  refine k_icmp_le C dX12_layPairs_97 (tgt := 118) (by decide) (fun c97 => ?_) (fun c97 => ?_)
                                  · replace h := k_if_t h c97
                                    refine k_iinc C dX12_layPairs_118 5 rfl (v := 1) rfl (by decide) [1, 2, 3, 4, 5, 0] (L' := fun z9 => [(0, .ref (w.2.1 0)), (1, .int v1_24), (3, .int v3_45), (4, .int v4_45), (5, .int v5_36), (6, .int z9)]) (fun z9 => rfl) (fun y118 ey118 => ?_)
                                    replace h := k_nm_e h y118 ey118
                                    refine k_goto C dX12_layPairs_121 (tgt := 45) (by decide) ?_
                                    exact ih45 _ _ _ _ h
                                  · replace h := k_if_f h c97
                                    refine k_sub (L' := [(0, .ref (w.2.1 0)), (1, .int v1_24), (5, .int v5_36), (6, .int v6_45)]) [0, 1, 4, 5] rfl ?_
                                    exact Jj100 _ h
                    exact K45 _ _ _ _ _ h
              refine k_sub (L' := [(0, .ref (w.2.1 0)), (1, .int v1_24), (3, .int (-1 : Int32)), (4, .int (0 : Int32)), (5, .int (0 : Int32))]) [0, 1, 3, 4, 5] rfl ?_
              exact K36 _ _ _ _ _ h
        exact K24 _ _ _ _ h
      · replace h := k_if_f h c6
        refine k_aload_n C dX12_layPairs_9 0 rfl ?_
        refine k_get C dX12_layPairs_10 (k_gM0_42 w) k_fX12_87 (Or.inl rfl) ?_
        refine k_iload_n C dX12_layPairs_13 2 rfl ?_
        refine k_iconst C dX12_layPairs_14 (v := -1) rfl ?_
        obtain ⟨q15, h⟩ := k_gd_e h
        refine k_iast C dX12_layPairs_15 (k_aM25 w) q15 ?_
        refine k_st (fun s15 es15 => ?_)
        replace h := k_nm_e h s15 es15
        refine k_iinc C dX12_layPairs_16 2 rfl (v := 1) rfl (by decide) [1, 2, 0] (L' := fun z9 => [(0, .ref (w.2.1 0)), (1, .int (0 : Int32)), (2, .int z9)]) (fun z9 => rfl) (fun y16 ey16 => ?_)
        replace h := k_nm_e h y16 ey16
        refine k_goto C dX12_layPairs_19 (tgt := 4) (by decide) ?_
        exact ih4 _ _ h
  exact K4 _ _ _ h
def f_X12_pair (x1 : Int32) (σ : k_St) : Option (Int32 × k_St) :=
  k_if ((k_rd σ 0 21) = (0 : Int32))
    (some ((-1 : Int32), σ))
    (k_bd (f_X12_in x1 (0 : Int32) (3 : Int32)) fun v10 =>
    k_if (v10 = (0 : Int32))
      (some ((-1 : Int32), σ))
      (k_bd (f_X12_layPairs σ) fun s19 =>
      k_gd (k_ix x1 4 = true) <|
      some ((k_rd s19 25 x1.toNatClampNeg), s19)))
set_option maxHeartbeats 4000000 in
set_option maxRecDepth 100000 in
theorem e_X12_pair {l : Launch} {w : k_WC} {d : Nat} (hd : 11 ≤ d) {x1 : Int32}  {σ σ' : k_St} {r : Int32} (h : f_X12_pair x1 σ = some (r, σ')) : k_EI l (k_PM w) yX12_pair cX12_pair 2 (some .int) d [.ref (w.2.1 0), .int x1] σ r σ' := by
  refine k_of (own := RX12) rfl (by decide) (Nat.le_of_ble_eq_true rfl) (fun X hX C hr => ?_)
  show k_K (k_PM w) X (k_MQ X (k_Qi (k_PM w) r σ') (k_PM w).2.2.1) 0 [(0, .ref (w.2.1 0)), (1, .int x1)] [] σ
  unfold f_X12_pair at h
  refine k_aload_n C dX12_pair_0 0 rfl ?_
  refine k_get C dX12_pair_1 (k_gM0_21 w) k_fX12_306 (Or.inl rfl) ?_
  refine k_if_eq C dX12_pair_4 (tgt := 16) (by decide) (fun c4 => ?_) (fun c4 => ?_)
  · replace h := k_if_t h c4
    refine k_iconst C dX12_pair_16 (v := -1) rfl ?_
    exact k_iret C dX12_pair_17 hr (Option.some.inj h)
  · replace h := k_if_f h c4
    refine k_iload_n C dX12_pair_7 1 rfl ?_
    refine k_iconst C dX12_pair_8 (v := 0) rfl ?_
    refine k_iconst C dX12_pair_9 (v := 3) rfl ?_
    obtain ⟨v10, h10, h⟩ := k_bd_e h
    refine k_goI (k_runS C dX12_pair_10 (e_X12_in (d := 2) (Nat.le_refl _) h10) k_lX12_269 k_yX12_in (by omega) rfl (Nat.le_of_ble_eq_true rfl)) ?_
    refine k_if_ne C dX12_pair_13 (tgt := 18) (by decide) (fun c13 => ?_) (fun c13 => ?_)
    · replace h := k_if_f h c13
      refine k_aload_n C dX12_pair_18 0 rfl ?_
      obtain ⟨s19, h19, h⟩ := k_bd_e h
      refine k_goV (k_runV C dX12_pair_19 (e_X12_layPairs (d := 10) (Nat.le_refl _) h19) k_lX12_428 k_yX12_layPairs (k_oM0 w) (by omega) rfl (Nat.le_of_ble_eq_true rfl)) ?_
      refine k_aload_n C dX12_pair_22 0 rfl ?_
      refine k_get C dX12_pair_23 (k_gM0_42 w) k_fX12_87 (Or.inl rfl) ?_
      refine k_iload_n C dX12_pair_26 1 rfl ?_
      obtain ⟨q27, h⟩ := k_gd_e h
      refine k_iald C dX12_pair_27 (k_aM25 w) q27 ?_
      exact k_iret C dX12_pair_28 hr (Option.some.inj h)
    · replace h := k_if_t h c13
      refine k_iconst C dX12_pair_16 (v := -1) rfl ?_
      exact k_iret C dX12_pair_17 hr (Option.some.inj h)
def f_X12_known (x0 : Int32) (x1 : Int32) (x2 : Int32) : Option (Int32) :=
  k_if (x0 = (0 : Int32))
    (some x1)
    (k_if (x0 = (1 : Int32))
      (some x2)
      (some (((4 : Int32) * x1) + x2)))
set_option maxHeartbeats 4000000 in
set_option maxRecDepth 100000 in
theorem e_X12_known {l : Launch} {w : k_WC} {d : Nat} (hd : 2 ≤ d) {x0 : Int32} {x1 : Int32} {x2 : Int32}  {σ : k_St} {r : Int32} (h : f_X12_known x0 x1 x2 = some r) : k_EI l (k_PM w) yX12_known cX12_known 3 (some .int) d [.int x0, .int x1, .int x2] σ r σ := by
  refine k_of (own := RX12) rfl (by decide) (Nat.le_of_ble_eq_true rfl) (fun X hX C hr => ?_)
  show k_K (k_PM w) X (k_MQ X (k_Qi (k_PM w) r σ) (k_PM w).2.2.1) 0 [(0, .int x0), (1, .int x1), (2, .int x2)] [] σ
  unfold f_X12_known at h
  refine k_iload_n C dX12_known_0 0 rfl ?_
  refine k_if_ne C dX12_known_1 (tgt := 8) (by decide) (fun c1 => ?_) (fun c1 => ?_)
  · replace h := k_if_f h c1
    refine k_iload_n C dX12_known_8 0 rfl ?_
    refine k_iconst C dX12_known_9 (v := 1) rfl ?_
    refine k_icmp_ne C dX12_known_10 (tgt := 17) (by decide) (fun c10 => ?_) (fun c10 => ?_)
    · replace h := k_if_f h c10
      refine k_iconst C dX12_known_17 (v := 4) rfl ?_
      refine k_iload_n C dX12_known_18 1 rfl ?_
      refine k_imul C dX12_known_19 ?_
      refine k_iload_n C dX12_known_20 2 rfl ?_
      refine k_iadd C dX12_known_21 ?_
      exact k_iret C dX12_known_22 hr (k_p1 h)
    · replace h := k_if_t h c10
      refine k_iload_n C dX12_known_13 2 rfl ?_
      refine k_goto C dX12_known_14 (tgt := 22) (by decide) ?_
      exact k_iret C dX12_known_22 hr (k_p1 h)
  · replace h := k_if_t h c1
    refine k_iload_n C dX12_known_4 1 rfl ?_
    refine k_goto C dX12_known_5 (tgt := 22) (by decide) ?_
    exact k_iret C dX12_known_22 hr (k_p1 h)
def f_X12_layLone (x1 : Int32) (σ : k_St) : Option (k_St) :=
  k_loop (fun (g2 : Int32 × k_St → Option (k_St)) (z2 : Int32 × k_St) => match z2 with
    | (v2_2, s_2) =>
      k_if ((96 : Int32) ≤ v2_2)
        (k_loop (fun (g23 : Int32 × k_St → Option (k_St)) (z23 : Int32 × k_St) => match z23 with
          | (v2_23, s_23) =>
            k_if ((k_rd s_23 0 21) ≤ v2_23)
              (some s_23)
              (k_bd (f_X12_heard v2_23 s_23) fun v40 =>
              k_bd (f_X12_seenAt v2_23 s_23) fun v45 =>
              k_bd (f_X12_known x1 v40 v45) fun v48 =>
              k_nm ((((6 : Int32) * v48) + v2_23)) fun y54 =>
              k_gd (k_ix y54 96 = true) <|
              k_bd (f_X12_of v2_23 (0 : Int32) s_23) fun v59 =>
              k_b2 (f_X12_worthAt v2_23 s_23) fun v64 s64 =>
              k_gd (k_ix y54 96 = true) <|
              k_nm (k_wr s64 26 y54.toNatClampNeg ((k_rd s_23 26 y54.toNatClampNeg) + (v59 * v64))) fun s69 =>
              k_nm (v2_23 + (1 : Int32)) fun y70 =>
              g23 (y70, s69))) 100000 ((0 : Int32), s_2))
        (k_gd (k_ix v2_2 96 = true) <|
        k_nm (k_wr s_2 26 v2_2.toNatClampNeg (0 : Int32)) fun s14 =>
        k_nm (v2_2 + (1 : Int32)) fun y15 =>
        g2 (y15, s14))) 100000 ((0 : Int32), σ)
set_option maxHeartbeats 4000000 in
set_option maxRecDepth 100000 in
theorem e_X12_layLone {l : Launch} {w : k_WC} {d : Nat} (hd : 8 ≤ d) {x1 : Int32}  {σ σ' : k_St} (h : f_X12_layLone x1 σ = some σ') : k_EV l (k_PM w) yX12_layLone cX12_layLone 3 d [.ref (w.2.1 0), .int x1] σ σ' := by
  refine k_of (own := RX12) rfl (by decide) (Nat.le_of_ble_eq_true rfl) (fun X hX C hr => ?_)
  show k_K (k_PM w) X (k_MQ X (k_Qv (k_PM w) σ') (k_PM w).2.2.1) 0 [(0, .ref (w.2.1 0)), (1, .int x1)] [] σ
  unfold f_X12_layLone at h
  refine k_iconst C dX12_layLone_0 (v := 0) rfl ?_
  refine k_istore_n C dX12_layLone_1 (by decide) [1, 2, 0] (L' := [(0, .ref (w.2.1 0)), (1, .int x1), (2, .int (0 : Int32))]) rfl ?_
  obtain ⟨b2, eb2, h⟩ := k_lp_e h
  have K2 : ∀ (n : Nat) (v2_2 : Int32) (s_2 : k_St), k_loop b2 n (v2_2, s_2) = some σ' → k_K (k_PM w) X (k_MQ X (k_Qv (k_PM w) σ') (k_PM w).2.2.1) 2 [(0, .ref (w.2.1 0)), (1, .int x1), (2, .int v2_2)] [] s_2 := by
    intro n
    induction n with
    | zero => intro v2_2 s_2 h; cases h
    | succ n ih2 =>
      intro v2_2 s_2 h
      obtain ⟨g2, eg2, h⟩ := k_lp_s h
      rw [← eg2] at ih2
      rw [eb2] at h
      refine k_iload_n C dX12_layLone_2 2 rfl ?_
      refine k_bipush C dX12_layLone_3 (v := 96) rfl ?_
      refine k_icmp_ge C dX12_layLone_5 (tgt := 21) (by decide) (fun c5 => ?_) (fun c5 => ?_)
      · replace h := k_if_t h c5
        refine k_iconst C dX12_layLone_21 (v := 0) rfl ?_
        refine k_istore_n C dX12_layLone_22 (by decide) [1, 2, 0] (L' := [(0, .ref (w.2.1 0)), (1, .int x1), (2, .int (0 : Int32))]) rfl ?_
        obtain ⟨b23, eb23, h⟩ := k_lp_e h
        have K23 : ∀ (n : Nat) (v2_23 : Int32) (s_23 : k_St), k_loop b23 n (v2_23, s_23) = some σ' → k_K (k_PM w) X (k_MQ X (k_Qv (k_PM w) σ') (k_PM w).2.2.1) 23 [(0, .ref (w.2.1 0)), (1, .int x1), (2, .int v2_23)] [] s_23 := by
          intro n
          induction n with
          | zero => intro v2_23 s_23 h; cases h
          | succ n ih23 =>
            intro v2_23 s_23 h
            obtain ⟨g23, eg23, h⟩ := k_lp_s h
            rw [← eg23] at ih23
            rw [eb23] at h
            refine k_iload_n C dX12_layLone_23 2 rfl ?_
            refine k_aload_n C dX12_layLone_24 0 rfl ?_
            refine k_get C dX12_layLone_25 (k_gM0_21 w) k_fX12_306 (Or.inl rfl) ?_
            refine k_icmp_ge C dX12_layLone_28 (tgt := 76) (by decide) (fun c28 => ?_) (fun c28 => ?_)
            · replace h := k_if_t h c28
              exact k_vret C dX12_layLone_76 hr (Option.some.inj h)
            · replace h := k_if_f h c28
              refine k_aload_n C dX12_layLone_31 0 rfl ?_
              refine k_get C dX12_layLone_32 (k_gM0_43 w) k_fX12_90 (Or.inl rfl) ?_
              refine k_bipush C dX12_layLone_35 (v := 6) rfl ?_
              refine k_iload_n C dX12_layLone_37 1 rfl ?_
              refine k_aload_n C dX12_layLone_38 0 rfl ?_
              refine k_iload_n C dX12_layLone_39 2 rfl ?_
              obtain ⟨v40, h40, h⟩ := k_bd_e h
              refine k_goI (k_runV C dX12_layLone_40 (e_X12_heard (d := 3) (Nat.le_refl _) h40) k_lX12_366 k_yX12_heard (k_oM0 w) (by omega) rfl (Nat.le_of_ble_eq_true rfl)) ?_
              refine k_aload_n C dX12_layLone_43 0 rfl ?_
              refine k_iload_n C dX12_layLone_44 2 rfl ?_
              obtain ⟨v45, h45, h⟩ := k_bd_e h
              refine k_goI (k_runV C dX12_layLone_45 (e_X12_seenAt (d := 3) (Nat.le_refl _) h45) k_lX12_369 k_yX12_seenAt (k_oM0 w) (by omega) rfl (Nat.le_of_ble_eq_true rfl)) ?_
              obtain ⟨v48, h48, h⟩ := k_bd_e h
              refine k_goI (k_runS C dX12_layLone_48 (e_X12_known (d := 2) (Nat.le_refl _) h48) k_lX12_431 k_yX12_known (by omega) rfl (Nat.le_of_ble_eq_true rfl)) ?_
              refine k_imul C dX12_layLone_51 ?_
              refine k_iload_n C dX12_layLone_52 2 rfl ?_
              refine k_iadd C dX12_layLone_53 ?_
              refine k_topi (fun y54 ey54 => ?_)
              replace h := k_nm_e h y54 ey54
              refine k_dup2 C dX12_layLone_54 rfl rfl ?_
              obtain ⟨q55, h⟩ := k_gd_e h
              refine k_iald C dX12_layLone_55 (k_aM26 w) q55 ?_
              refine k_aload_n C dX12_layLone_56 0 rfl ?_
              refine k_iload_n C dX12_layLone_57 2 rfl ?_
              refine k_iconst C dX12_layLone_58 (v := 0) rfl ?_
              obtain ⟨v59, h59, h⟩ := k_bd_e h
              refine k_goI (k_runV C dX12_layLone_59 (e_X12_of (d := 2) (Nat.le_refl _) h59) k_lX12_343 k_yX12_of (k_oM0 w) (by omega) rfl (Nat.le_of_ble_eq_true rfl)) ?_
              refine k_aload_n C dX12_layLone_62 0 rfl ?_
              refine k_iload_n C dX12_layLone_63 2 rfl ?_
              obtain ⟨v64, s64, h64, h⟩ := k_b2_e h
              refine k_goI (k_runV C dX12_layLone_64 (e_X12_worthAt (d := 7) (Nat.le_refl _) h64) k_lX12_356 k_yX12_worthAt (k_oM0 w) (by omega) rfl (Nat.le_of_ble_eq_true rfl)) ?_
              refine k_imul C dX12_layLone_67 ?_
              refine k_iadd C dX12_layLone_68 ?_
              obtain ⟨q69, h⟩ := k_gd_e h
              refine k_iast C dX12_layLone_69 (k_aM26 w) q69 ?_
              refine k_st (fun s69 es69 => ?_)
              replace h := k_nm_e h s69 es69
              refine k_iinc C dX12_layLone_70 2 rfl (v := 1) rfl (by decide) [1, 2, 0] (L' := fun z9 => [(0, .ref (w.2.1 0)), (1, .int x1), (2, .int z9)]) (fun z9 => rfl) (fun y70 ey70 => ?_)
              replace h := k_nm_e h y70 ey70
              refine k_goto C dX12_layLone_73 (tgt := 23) (by decide) ?_
              exact ih23 _ _ h
        exact K23 _ _ _ h
      · replace h := k_if_f h c5
        refine k_aload_n C dX12_layLone_8 0 rfl ?_
        refine k_get C dX12_layLone_9 (k_gM0_43 w) k_fX12_90 (Or.inl rfl) ?_
        refine k_iload_n C dX12_layLone_12 2 rfl ?_
        refine k_iconst C dX12_layLone_13 (v := 0) rfl ?_
        obtain ⟨q14, h⟩ := k_gd_e h
        refine k_iast C dX12_layLone_14 (k_aM26 w) q14 ?_
        refine k_st (fun s14 es14 => ?_)
        replace h := k_nm_e h s14 es14
        refine k_iinc C dX12_layLone_15 2 rfl (v := 1) rfl (by decide) [1, 2, 0] (L' := fun z9 => [(0, .ref (w.2.1 0)), (1, .int x1), (2, .int z9)]) (fun z9 => rfl) (fun y15 ey15 => ?_)
        replace h := k_nm_e h y15 ey15
        refine k_goto C dX12_layLone_18 (tgt := 2) (by decide) ?_
        exact ih2 _ _ h
  exact K2 _ _ _ h
def f_X12_loneBest (x1 : Int32) (σ : k_St) : Option (Int32) :=
  k_loop (fun (g4 : Int32 × Int32 → Option (Int32)) (z4 : Int32 × Int32) => match z4 with
    | (v2_4, v3_4) =>
      k_if ((k_rd σ 0 21) ≤ v3_4)
        (some v2_4)
        (k_gd (k_ix (((6 : Int32) * x1) + v3_4) 96 = true) <|
        k_gd (k_ix (((6 : Int32) * x1) + v2_4) 96 = true) <|
        k_if ((k_rd σ 26 (((6 : Int32) * x1) + v3_4).toNatClampNeg) ≤ (k_rd σ 26 (((6 : Int32) * x1) + v2_4).toNatClampNeg))
          (k_nm (v3_4 + (1 : Int32)) fun y43 =>
          g4 (v2_4, y43))
          (k_nm (v3_4 + (1 : Int32)) fun y43 =>
          g4 (v3_4, y43)))) 100000 ((0 : Int32), (1 : Int32))
set_option maxHeartbeats 4000000 in
set_option maxRecDepth 100000 in
theorem e_X12_loneBest {l : Launch} {w : k_WC} {d : Nat} (hd : 2 ≤ d) {x1 : Int32}  {σ : k_St} {r : Int32} (h : f_X12_loneBest x1 σ = some r) : k_EI l (k_PM w) yX12_loneBest cX12_loneBest 4 (some .int) d [.ref (w.2.1 0), .int x1] σ r σ := by
  refine k_of (own := RX12) rfl (by decide) (Nat.le_of_ble_eq_true rfl) (fun X hX C hr => ?_)
  show k_K (k_PM w) X (k_MQ X (k_Qi (k_PM w) r σ) (k_PM w).2.2.1) 0 [(0, .ref (w.2.1 0)), (1, .int x1)] [] σ
  unfold f_X12_loneBest at h
  refine k_iconst C dX12_loneBest_0 (v := 0) rfl ?_
  refine k_istore_n C dX12_loneBest_1 (by decide) [1, 2, 0] (L' := [(0, .ref (w.2.1 0)), (1, .int x1), (2, .int (0 : Int32))]) rfl ?_
  refine k_iconst C dX12_loneBest_2 (v := 1) rfl ?_
  refine k_istore_n C dX12_loneBest_3 (by decide) [1, 2, 3, 0] (L' := [(0, .ref (w.2.1 0)), (1, .int x1), (2, .int (0 : Int32)), (3, .int (1 : Int32))]) rfl ?_
  obtain ⟨b4, eb4, h⟩ := k_lp_e h
  have K4 : ∀ (n : Nat) (v2_4 : Int32) (v3_4 : Int32), k_loop b4 n (v2_4, v3_4) = some r → k_K (k_PM w) X (k_MQ X (k_Qi (k_PM w) r σ) (k_PM w).2.2.1) 4 [(0, .ref (w.2.1 0)), (1, .int x1), (2, .int v2_4), (3, .int v3_4)] [] σ := by
    intro n
    induction n with
    | zero => intro v2_4 v3_4 h; cases h
    | succ n ih4 =>
      intro v2_4 v3_4 h
      obtain ⟨g4, eg4, h⟩ := k_lp_s h
      rw [← eg4] at ih4
      rw [eb4] at h
      refine k_iload_n C dX12_loneBest_4 3 rfl ?_
      refine k_aload_n C dX12_loneBest_5 0 rfl ?_
      refine k_get C dX12_loneBest_6 (k_gM0_21 w) k_fX12_306 (Or.inl rfl) ?_
      refine k_icmp_ge C dX12_loneBest_9 (tgt := 49) (by decide) (fun c9 => ?_) (fun c9 => ?_)
      · replace h := k_if_t h c9
        refine k_iload_n C dX12_loneBest_49 2 rfl ?_
        exact k_iret C dX12_loneBest_50 hr (k_p1 h)
      · replace h := k_if_f h c9
        refine k_aload_n C dX12_loneBest_12 0 rfl ?_
        refine k_get C dX12_loneBest_13 (k_gM0_43 w) k_fX12_90 (Or.inl rfl) ?_
        refine k_bipush C dX12_loneBest_16 (v := 6) rfl ?_
        refine k_iload_n C dX12_loneBest_18 1 rfl ?_
        refine k_imul C dX12_loneBest_19 ?_
        refine k_iload_n C dX12_loneBest_20 3 rfl ?_
        refine k_iadd C dX12_loneBest_21 ?_
        obtain ⟨q22, h⟩ := k_gd_e h
        refine k_iald C dX12_loneBest_22 (k_aM26 w) q22 ?_
        refine k_aload_n C dX12_loneBest_23 0 rfl ?_
        refine k_get C dX12_loneBest_24 (k_gM0_43 w) k_fX12_90 (Or.inl rfl) ?_
        refine k_bipush C dX12_loneBest_27 (v := 6) rfl ?_
        refine k_iload_n C dX12_loneBest_29 1 rfl ?_
        refine k_imul C dX12_loneBest_30 ?_
        refine k_iload_n C dX12_loneBest_31 2 rfl ?_
        refine k_iadd C dX12_loneBest_32 ?_
        obtain ⟨q33, h⟩ := k_gd_e h
        refine k_iald C dX12_loneBest_33 (k_aM26 w) q33 ?_
        refine k_icmp_le C dX12_loneBest_34 (tgt := 41) (by decide) (fun c34 => ?_) (fun c34 => ?_)
        · replace h := k_if_t h c34
          refine k_iload_n C dX12_loneBest_41 2 rfl ?_
          refine k_istore_n C dX12_loneBest_42 (by decide) [1, 2, 0, 3] (L' := [(0, .ref (w.2.1 0)), (1, .int x1), (2, .int v2_4), (3, .int v3_4)]) rfl ?_
          refine k_iinc C dX12_loneBest_43 3 rfl (v := 1) rfl (by decide) [1, 2, 3, 0] (L' := fun z9 => [(0, .ref (w.2.1 0)), (1, .int x1), (2, .int v2_4), (3, .int z9)]) (fun z9 => rfl) (fun y43 ey43 => ?_)
          replace h := k_nm_e h y43 ey43
          refine k_goto C dX12_loneBest_46 (tgt := 4) (by decide) ?_
          exact ih4 _ _ h
        · replace h := k_if_f h c34
          refine k_iload_n C dX12_loneBest_37 3 rfl ?_
          refine k_goto C dX12_loneBest_38 (tgt := 42) (by decide) ?_
          refine k_istore_n C dX12_loneBest_42 (by decide) [1, 2, 0, 3] (L' := [(0, .ref (w.2.1 0)), (1, .int x1), (2, .int v3_4), (3, .int v3_4)]) rfl ?_
          refine k_iinc C dX12_loneBest_43 3 rfl (v := 1) rfl (by decide) [1, 2, 3, 0] (L' := fun z9 => [(0, .ref (w.2.1 0)), (1, .int x1), (2, .int v3_4), (3, .int z9)]) (fun z9 => rfl) (fun y43 ey43 => ?_)
          replace h := k_nm_e h y43 ey43
          refine k_goto C dX12_loneBest_46 (tgt := 4) (by decide) ?_
          exact ih4 _ _ h
  exact K4 _ _ _ h
def f_X12_lone (x1 : Int32) (x2 : Int32) (σ : k_St) : Option (Int32 × k_St) :=
  k_if ((k_rd σ 0 21) = (0 : Int32))
    (some ((-1 : Int32), σ))
    (k_bd (f_X12_in x1 (0 : Int32) (2 : Int32)) fun v10 =>
    k_if (v10 = (0 : Int32))
      (some ((-1 : Int32), σ))
      (k_bd (f_X12_in x2 (0 : Int32) (1 : Int32)) fun v19 =>
      k_if (v19 = (0 : Int32))
        (some ((-1 : Int32), σ))
        (k_bd (f_X12_layLone x1 σ) fun s29 =>
        k_loop (fun (g37 : Int32 × Int32 → Option (Int32 × k_St)) (z37 : Int32 × Int32) => match z37 with
          | (v3_37, v4_37) =>
            k_if ((16 : Int32) ≤ v4_37)
              (k_bd (f_X12_plain ((100 : Int32) * v3_37) x2 s29) fun v76 =>
              some (v76, s29))
              (k_bd (f_X12_loneBest v4_37 s29) fun v57 =>
              k_gd (k_ix (((6 : Int32) * v4_37) + v57) 96 = true) <|
              k_nm ((v3_37 + (k_rd s29 26 (((6 : Int32) * v4_37) + v57).toNatClampNeg))) fun y63 =>
              k_nm (v4_37 + (1 : Int32)) fun y64 =>
              g37 (y63, y64))) 100000 ((0 : Int32), (0 : Int32)))))
set_option maxHeartbeats 4000000 in
set_option maxRecDepth 100000 in
theorem e_X12_lone {l : Launch} {w : k_WC} {d : Nat} (hd : 205 ≤ d) {x1 : Int32} {x2 : Int32}  {σ σ' : k_St} {r : Int32} (h : f_X12_lone x1 x2 σ = some (r, σ')) : k_EI l (k_PM w) yX12_lone cX12_lone 5 (some .int) d [.ref (w.2.1 0), .int x1, .int x2] σ r σ' := by
  refine k_of (own := RX12) rfl (by decide) (Nat.le_of_ble_eq_true rfl) (fun X hX C hr => ?_)
  show k_K (k_PM w) X (k_MQ X (k_Qi (k_PM w) r σ') (k_PM w).2.2.1) 0 [(0, .ref (w.2.1 0)), (1, .int x1), (2, .int x2)] [] σ
  unfold f_X12_lone at h
  refine k_aload_n C dX12_lone_0 0 rfl ?_
  refine k_get C dX12_lone_1 (k_gM0_21 w) k_fX12_306 (Or.inl rfl) ?_
  refine k_if_eq C dX12_lone_4 (tgt := 25) (by decide) (fun c4 => ?_) (fun c4 => ?_)
  · replace h := k_if_t h c4
    refine k_iconst C dX12_lone_25 (v := -1) rfl ?_
    exact k_iret C dX12_lone_26 hr (Option.some.inj h)
  · replace h := k_if_f h c4
    refine k_iload_n C dX12_lone_7 1 rfl ?_
    refine k_iconst C dX12_lone_8 (v := 0) rfl ?_
    refine k_iconst C dX12_lone_9 (v := 2) rfl ?_
    obtain ⟨v10, h10, h⟩ := k_bd_e h
    refine k_goI (k_runS C dX12_lone_10 (e_X12_in (d := 2) (Nat.le_refl _) h10) k_lX12_269 k_yX12_in (by omega) rfl (Nat.le_of_ble_eq_true rfl)) ?_
    refine k_if_eq C dX12_lone_13 (tgt := 25) (by decide) (fun c13 => ?_) (fun c13 => ?_)
    · replace h := k_if_t h c13
      refine k_iconst C dX12_lone_25 (v := -1) rfl ?_
      exact k_iret C dX12_lone_26 hr (Option.some.inj h)
    · replace h := k_if_f h c13
      refine k_iload_n C dX12_lone_16 2 rfl ?_
      refine k_iconst C dX12_lone_17 (v := 0) rfl ?_
      refine k_iconst C dX12_lone_18 (v := 1) rfl ?_
      obtain ⟨v19, h19, h⟩ := k_bd_e h
      refine k_goI (k_runS C dX12_lone_19 (e_X12_in (d := 2) (Nat.le_refl _) h19) k_lX12_269 k_yX12_in (by omega) rfl (Nat.le_of_ble_eq_true rfl)) ?_
      refine k_if_ne C dX12_lone_22 (tgt := 27) (by decide) (fun c22 => ?_) (fun c22 => ?_)
      · replace h := k_if_f h c22
        refine k_aload_n C dX12_lone_27 0 rfl ?_
        refine k_iload_n C dX12_lone_28 1 rfl ?_
        obtain ⟨s29, h29, h⟩ := k_bd_e h
        refine k_goV (k_runV C dX12_lone_29 (e_X12_layLone (d := 8) (Nat.le_refl _) h29) k_lX12_434 k_yX12_layLone (k_oM0 w) (by omega) rfl (Nat.le_of_ble_eq_true rfl)) ?_
        refine k_iconst C dX12_lone_32 (v := 0) rfl ?_
        refine k_istore_n C dX12_lone_33 (by decide) [1, 2, 3, 0] (L' := [(0, .ref (w.2.1 0)), (1, .int x1), (2, .int x2), (3, .int (0 : Int32))]) rfl ?_
        refine k_iconst C dX12_lone_34 (v := 0) rfl ?_
        refine k_istore C dX12_lone_35 (by decide) [1, 2, 3, 4, 0] (L' := [(0, .ref (w.2.1 0)), (1, .int x1), (2, .int x2), (3, .int (0 : Int32)), (4, .int (0 : Int32))]) rfl ?_
        obtain ⟨b37, eb37, h⟩ := k_lp_e h
        have K37 : ∀ (n : Nat) (v3_37 : Int32) (v4_37 : Int32), k_loop b37 n (v3_37, v4_37) = some (r, σ') → k_K (k_PM w) X (k_MQ X (k_Qi (k_PM w) r σ') (k_PM w).2.2.1) 37 [(0, .ref (w.2.1 0)), (2, .int x2), (3, .int v3_37), (4, .int v4_37)] [] s29 := by
          intro n
          induction n with
          | zero => intro v3_37 v4_37 h; cases h
          | succ n ih37 =>
            intro v3_37 v4_37 h
            obtain ⟨g37, eg37, h⟩ := k_lp_s h
            rw [← eg37] at ih37
            rw [eb37] at h
            refine k_iload C dX12_lone_37 3 rfl ?_
            refine k_bipush C dX12_lone_39 (v := 16) rfl ?_
            refine k_icmp_ge C dX12_lone_41 (tgt := 70) (by decide) (fun c41 => ?_) (fun c41 => ?_)
            · replace h := k_if_t h c41
              refine k_aload_n C dX12_lone_70 0 rfl ?_
              refine k_bipush C dX12_lone_71 (v := 100) rfl ?_
              refine k_iload_n C dX12_lone_73 2 rfl ?_
              refine k_imul C dX12_lone_74 ?_
              refine k_iload_n C dX12_lone_75 1 rfl ?_
              obtain ⟨v76, h76, h⟩ := k_bd_e h
              refine k_goI (k_runV C dX12_lone_76 (e_X12_plain (d := 204) (Nat.le_refl _) h76) k_lX12_386 k_yX12_plain (k_oM0 w) (by omega) rfl (Nat.le_of_ble_eq_true rfl)) ?_
              exact k_iret C dX12_lone_79 hr (Option.some.inj h)
            · replace h := k_if_f h c41
              refine k_iload_n C dX12_lone_44 2 rfl ?_
              refine k_aload_n C dX12_lone_45 0 rfl ?_
              refine k_get C dX12_lone_46 (k_gM0_43 w) k_fX12_90 (Or.inl rfl) ?_
              refine k_bipush C dX12_lone_49 (v := 6) rfl ?_
              refine k_iload C dX12_lone_51 3 rfl ?_
              refine k_imul C dX12_lone_53 ?_
              refine k_aload_n C dX12_lone_54 0 rfl ?_
              refine k_iload C dX12_lone_55 3 rfl ?_
              obtain ⟨v57, h57, h⟩ := k_bd_e h
              refine k_goI (k_runV C dX12_lone_57 (e_X12_loneBest (d := 2) (Nat.le_refl _) h57) k_lX12_437 k_yX12_loneBest (k_oM0 w) (by omega) rfl (Nat.le_of_ble_eq_true rfl)) ?_
              refine k_iadd C dX12_lone_60 ?_
              obtain ⟨q61, h⟩ := k_gd_e h
              refine k_iald C dX12_lone_61 (k_aM26 w) q61 ?_
              refine k_iadd C dX12_lone_62 ?_
              refine k_topi (fun y63 ey63 => ?_)
              replace h := k_nm_e h y63 ey63
              refine k_istore_n C dX12_lone_63 (by decide) [1, 2, 0, 3] (L' := [(0, .ref (w.2.1 0)), (2, .int x2), (3, .int y63), (4, .int v4_37)]) rfl ?_
              refine k_iinc C dX12_lone_64 3 rfl (v := 1) rfl (by decide) [1, 2, 3, 0] (L' := fun z9 => [(0, .ref (w.2.1 0)), (2, .int x2), (3, .int y63), (4, .int z9)]) (fun z9 => rfl) (fun y64 ey64 => ?_)
              replace h := k_nm_e h y64 ey64
              refine k_goto C dX12_lone_67 (tgt := 37) (by decide) ?_
              exact ih37 _ _ h
        refine k_sub (L' := [(0, .ref (w.2.1 0)), (2, .int x2), (3, .int (0 : Int32)), (4, .int (0 : Int32))]) [0, 2, 3, 4] rfl ?_
        exact K37 _ _ _ h
      · replace h := k_if_t h c22
        refine k_iconst C dX12_lone_25 (v := -1) rfl ?_
        exact k_iret C dX12_lone_26 hr (Option.some.inj h)
def f_X12_alone (x1 : Int32) (x2 : Int32) (x3 : Int32) (σ : k_St) : Option (Int32 × k_St) :=
  k_if ((k_rd σ 0 21) = (0 : Int32))
    (some ((-1 : Int32), σ))
    (k_bd (f_X12_in x1 (0 : Int32) (2 : Int32)) fun v10 =>
    k_if (v10 = (0 : Int32))
      (some ((-1 : Int32), σ))
      (k_bd (f_X12_in x2 (0 : Int32) (3 : Int32)) fun v19 =>
      k_if (v19 = (0 : Int32))
        (some ((-1 : Int32), σ))
        (k_bd (f_X12_in x3 (0 : Int32) (3 : Int32)) fun v28 =>
        k_if (v28 = (0 : Int32))
          (some ((-1 : Int32), σ))
          (k_bd (f_X12_layLone x1 σ) fun s38 =>
          k_bd (f_X12_known x1 x2 x3) fun v45 =>
          k_bd (f_X12_loneBest v45 s38) fun v48 =>
          some (v48, s38)))))
set_option maxHeartbeats 4000000 in
set_option maxRecDepth 100000 in
theorem e_X12_alone {l : Launch} {w : k_WC} {d : Nat} (hd : 9 ≤ d) {x1 : Int32} {x2 : Int32} {x3 : Int32}  {σ σ' : k_St} {r : Int32} (h : f_X12_alone x1 x2 x3 σ = some (r, σ')) : k_EI l (k_PM w) yX12_alone cX12_alone 4 (some .int) d [.ref (w.2.1 0), .int x1, .int x2, .int x3] σ r σ' := by
  refine k_of (own := RX12) rfl (by decide) (Nat.le_of_ble_eq_true rfl) (fun X hX C hr => ?_)
  show k_K (k_PM w) X (k_MQ X (k_Qi (k_PM w) r σ') (k_PM w).2.2.1) 0 [(0, .ref (w.2.1 0)), (1, .int x1), (2, .int x2), (3, .int x3)] [] σ
  unfold f_X12_alone at h
  refine k_aload_n C dX12_alone_0 0 rfl ?_
  refine k_get C dX12_alone_1 (k_gM0_21 w) k_fX12_306 (Or.inl rfl) ?_
  refine k_if_eq C dX12_alone_4 (tgt := 34) (by decide) (fun c4 => ?_) (fun c4 => ?_)
  · replace h := k_if_t h c4
    refine k_iconst C dX12_alone_34 (v := -1) rfl ?_
    exact k_iret C dX12_alone_35 hr (Option.some.inj h)
  · replace h := k_if_f h c4
    refine k_iload_n C dX12_alone_7 1 rfl ?_
    refine k_iconst C dX12_alone_8 (v := 0) rfl ?_
    refine k_iconst C dX12_alone_9 (v := 2) rfl ?_
    obtain ⟨v10, h10, h⟩ := k_bd_e h
    refine k_goI (k_runS C dX12_alone_10 (e_X12_in (d := 2) (Nat.le_refl _) h10) k_lX12_269 k_yX12_in (by omega) rfl (Nat.le_of_ble_eq_true rfl)) ?_
    refine k_if_eq C dX12_alone_13 (tgt := 34) (by decide) (fun c13 => ?_) (fun c13 => ?_)
    · replace h := k_if_t h c13
      refine k_iconst C dX12_alone_34 (v := -1) rfl ?_
      exact k_iret C dX12_alone_35 hr (Option.some.inj h)
    · replace h := k_if_f h c13
      refine k_iload_n C dX12_alone_16 2 rfl ?_
      refine k_iconst C dX12_alone_17 (v := 0) rfl ?_
      refine k_iconst C dX12_alone_18 (v := 3) rfl ?_
      obtain ⟨v19, h19, h⟩ := k_bd_e h
      refine k_goI (k_runS C dX12_alone_19 (e_X12_in (d := 2) (Nat.le_refl _) h19) k_lX12_269 k_yX12_in (by omega) rfl (Nat.le_of_ble_eq_true rfl)) ?_
      refine k_if_eq C dX12_alone_22 (tgt := 34) (by decide) (fun c22 => ?_) (fun c22 => ?_)
      · replace h := k_if_t h c22
        refine k_iconst C dX12_alone_34 (v := -1) rfl ?_
        exact k_iret C dX12_alone_35 hr (Option.some.inj h)
      · replace h := k_if_f h c22
        refine k_iload_n C dX12_alone_25 3 rfl ?_
        refine k_iconst C dX12_alone_26 (v := 0) rfl ?_
        refine k_iconst C dX12_alone_27 (v := 3) rfl ?_
        obtain ⟨v28, h28, h⟩ := k_bd_e h
        refine k_goI (k_runS C dX12_alone_28 (e_X12_in (d := 2) (Nat.le_refl _) h28) k_lX12_269 k_yX12_in (by omega) rfl (Nat.le_of_ble_eq_true rfl)) ?_
        refine k_if_ne C dX12_alone_31 (tgt := 36) (by decide) (fun c31 => ?_) (fun c31 => ?_)
        · replace h := k_if_f h c31
          refine k_aload_n C dX12_alone_36 0 rfl ?_
          refine k_iload_n C dX12_alone_37 1 rfl ?_
          obtain ⟨s38, h38, h⟩ := k_bd_e h
          refine k_goV (k_runV C dX12_alone_38 (e_X12_layLone (d := 8) (Nat.le_refl _) h38) k_lX12_434 k_yX12_layLone (k_oM0 w) (by omega) rfl (Nat.le_of_ble_eq_true rfl)) ?_
          refine k_aload_n C dX12_alone_41 0 rfl ?_
          refine k_iload_n C dX12_alone_42 1 rfl ?_
          refine k_iload_n C dX12_alone_43 2 rfl ?_
          refine k_iload_n C dX12_alone_44 3 rfl ?_
          obtain ⟨v45, h45, h⟩ := k_bd_e h
          refine k_goI (k_runS C dX12_alone_45 (e_X12_known (d := 2) (Nat.le_refl _) h45) k_lX12_431 k_yX12_known (by omega) rfl (Nat.le_of_ble_eq_true rfl)) ?_
          obtain ⟨v48, h48, h⟩ := k_bd_e h
          refine k_goI (k_runV C dX12_alone_48 (e_X12_loneBest (d := 2) (Nat.le_refl _) h48) k_lX12_437 k_yX12_loneBest (k_oM0 w) (by omega) rfl (Nat.le_of_ble_eq_true rfl)) ?_
          exact k_iret C dX12_alone_51 hr (Option.some.inj h)
        · replace h := k_if_t h c31
          refine k_iconst C dX12_alone_34 (v := -1) rfl ?_
          exact k_iret C dX12_alone_35 hr (Option.some.inj h)
def f_X12_comesAs (x1 : Int32) (x2 : Int32) (x3 : Int32) (σ : k_St) : Option (Int64) :=
  k_loop (fun (g6 : Int64 × Int32 → Option (Int64)) (z6 : Int64 × Int32) => match z6 with
    | (v4_6, v6_6) =>
      k_if (x1 ≤ v6_6)
        (some v4_6)
        (k_bd (f_X12_has x2 v6_6) fun v17 =>
        k_if (v17 = (0 : Int32))
          (k_bd (f_X12_has x3 v6_6) fun v54 =>
          k_if (v54 = (0 : Int32))
            (k_nm ((v4_6 * (100 : Int64))) fun y68 =>
            k_nm (v6_6 + (1 : Int32)) fun y70 =>
            g6 (y68, y70))
            (k_nm ((v4_6 * (0 : Int64))) fun y68 =>
            k_nm (v6_6 + (1 : Int32)) fun y70 =>
            g6 (y68, y70)))
          (k_bd (f_X12_has x3 v6_6) fun v26 =>
          k_if (v26 = (0 : Int32))
            (k_nm ((v4_6 * (k_rd σ 0 23).toInt64)) fun y68 =>
            k_nm (v6_6 + (1 : Int32)) fun y70 =>
            g6 (y68, y70))
            (k_nm ((v4_6 * ((100 : Int32) - (k_rd σ 0 23)).toInt64)) fun y68 =>
            k_nm (v6_6 + (1 : Int32)) fun y70 =>
            g6 (y68, y70))))) 100000 ((1 : Int64), (0 : Int32))
set_option maxHeartbeats 4000000 in
set_option maxRecDepth 100000 in
theorem e_X12_comesAs {l : Launch} {w : k_WC} {d : Nat} (hd : 3 ≤ d) {x1 : Int32} {x2 : Int32} {x3 : Int32}  {σ : k_St} {r : Int64} (h : f_X12_comesAs x1 x2 x3 σ = some r) : k_EL l (k_PM w) yX12_comesAs cX12_comesAs 7 d [.ref (w.2.1 0), .int x1, .int x2, .int x3] σ r σ := by
  refine k_of (own := RX12) rfl (by decide) (Nat.le_of_ble_eq_true rfl) (fun X hX C hr => ?_)
  show k_K (k_PM w) X (k_MQ X (k_Ql (k_PM w) r σ) (k_PM w).2.2.1) 0 [(0, .ref (w.2.1 0)), (1, .int x1), (2, .int x2), (3, .int x3)] [] σ
  unfold f_X12_comesAs at h
  refine k_lconst C dX12_comesAs_0 (v := 1) rfl ?_
  refine k_lstore C dX12_comesAs_1 (by decide) [1, 2, 3, 4, 0] (L' := [(0, .ref (w.2.1 0)), (1, .int x1), (2, .int x2), (3, .int x3), (4, .long (1 : Int64))]) rfl ?_
  refine k_iconst C dX12_comesAs_3 (v := 0) rfl ?_
  refine k_istore C dX12_comesAs_4 (by decide) [1, 2, 3, 4, 5, 0] (L' := [(0, .ref (w.2.1 0)), (1, .int x1), (2, .int x2), (3, .int x3), (4, .long (1 : Int64)), (6, .int (0 : Int32))]) rfl ?_
  obtain ⟨b6, eb6, h⟩ := k_lp_e h
  have K6 : ∀ (n : Nat) (v4_6 : Int64) (v6_6 : Int32), k_loop b6 n (v4_6, v6_6) = some r → k_K (k_PM w) X (k_MQ X (k_Ql (k_PM w) r σ) (k_PM w).2.2.1) 6 [(0, .ref (w.2.1 0)), (1, .int x1), (2, .int x2), (3, .int x3), (4, .long v4_6), (6, .int v6_6)] [] σ := by
    intro n
    induction n with
    | zero => intro v4_6 v6_6 h; cases h
    | succ n ih6 =>
      intro v4_6 v6_6 h
      obtain ⟨g6, eg6, h⟩ := k_lp_s h
      rw [← eg6] at ih6
      rw [eb6] at h
      refine k_iload C dX12_comesAs_6 5 rfl ?_
      refine k_iload_n C dX12_comesAs_8 1 rfl ?_
      refine k_icmp_ge C dX12_comesAs_9 (tgt := 76) (by decide) (fun c9 => ?_) (fun c9 => ?_)
      · replace h := k_if_t h c9
        refine k_lload C dX12_comesAs_76 4 rfl ?_
        exact k_lret C dX12_comesAs_78 hr (k_p1 h)
      · replace h := k_if_f h c9
        refine k_lload C dX12_comesAs_12 4 rfl ?_
        refine k_iload_n C dX12_comesAs_14 2 rfl ?_
        refine k_iload C dX12_comesAs_15 5 rfl ?_
        obtain ⟨v17, h17, h⟩ := k_bd_e h
        refine k_goI (k_runS C dX12_comesAs_17 (e_X12_has (d := 2) (Nat.le_refl _) h17) k_lX12_280 k_yX12_has (by omega) rfl (Nat.le_of_ble_eq_true rfl)) ?_
        refine k_if_eq C dX12_comesAs_20 (tgt := 51) (by decide) (fun c20 => ?_) (fun c20 => ?_)
        · replace h := k_if_t h c20
          refine k_iload_n C dX12_comesAs_51 3 rfl ?_
          refine k_iload C dX12_comesAs_52 5 rfl ?_
          obtain ⟨v54, h54, h⟩ := k_bd_e h
          refine k_goI (k_runS C dX12_comesAs_54 (e_X12_has (d := 2) (Nat.le_refl _) h54) k_lX12_280 k_yX12_has (by omega) rfl (Nat.le_of_ble_eq_true rfl)) ?_
          refine k_if_eq C dX12_comesAs_57 (tgt := 64) (by decide) (fun c57 => ?_) (fun c57 => ?_)
          · replace h := k_if_t h c57
            refine k_ldc2 C dX12_comesAs_64 k_cX12_440 ?_
            refine k_lmul C dX12_comesAs_67 ?_
            refine k_topl (fun y68 ey68 => ?_)
            replace h := k_nm_e h y68 ey68
            refine k_lstore C dX12_comesAs_68 (by decide) [1, 2, 3, 4, 0, 5] (L' := [(0, .ref (w.2.1 0)), (1, .int x1), (2, .int x2), (3, .int x3), (4, .long y68), (6, .int v6_6)]) rfl ?_
            refine k_iinc C dX12_comesAs_70 5 rfl (v := 1) rfl (by decide) [1, 2, 3, 4, 5, 0] (L' := fun z9 => [(0, .ref (w.2.1 0)), (1, .int x1), (2, .int x2), (3, .int x3), (4, .long y68), (6, .int z9)]) (fun z9 => rfl) (fun y70 ey70 => ?_)
            replace h := k_nm_e h y70 ey70
            refine k_goto C dX12_comesAs_73 (tgt := 6) (by decide) ?_
            exact ih6 _ _ h
          · replace h := k_if_f h c57
            refine k_lconst C dX12_comesAs_60 (v := 0) rfl ?_
            refine k_goto C dX12_comesAs_61 (tgt := 67) (by decide) ?_
            refine k_lmul C dX12_comesAs_67 ?_
            refine k_topl (fun y68 ey68 => ?_)
            replace h := k_nm_e h y68 ey68
            refine k_lstore C dX12_comesAs_68 (by decide) [1, 2, 3, 4, 0, 5] (L' := [(0, .ref (w.2.1 0)), (1, .int x1), (2, .int x2), (3, .int x3), (4, .long y68), (6, .int v6_6)]) rfl ?_
            refine k_iinc C dX12_comesAs_70 5 rfl (v := 1) rfl (by decide) [1, 2, 3, 4, 5, 0] (L' := fun z9 => [(0, .ref (w.2.1 0)), (1, .int x1), (2, .int x2), (3, .int x3), (4, .long y68), (6, .int z9)]) (fun z9 => rfl) (fun y70 ey70 => ?_)
            replace h := k_nm_e h y70 ey70
            refine k_goto C dX12_comesAs_73 (tgt := 6) (by decide) ?_
            exact ih6 _ _ h
        · replace h := k_if_f h c20
          refine k_iload_n C dX12_comesAs_23 3 rfl ?_
          refine k_iload C dX12_comesAs_24 5 rfl ?_
          obtain ⟨v26, h26, h⟩ := k_bd_e h
          refine k_goI (k_runS C dX12_comesAs_26 (e_X12_has (d := 2) (Nat.le_refl _) h26) k_lX12_280 k_yX12_has (by omega) rfl (Nat.le_of_ble_eq_true rfl)) ?_
          refine k_if_eq C dX12_comesAs_29 (tgt := 43) (by decide) (fun c29 => ?_) (fun c29 => ?_)
          · replace h := k_if_t h c29
            refine k_aload_n C dX12_comesAs_43 0 rfl ?_
            refine k_get C dX12_comesAs_44 (k_gM0_23 w) k_fX12_312 (Or.inl rfl) ?_
            refine k_i2l C dX12_comesAs_47 ?_
            refine k_goto C dX12_comesAs_48 (tgt := 67) (by decide) ?_
            refine k_lmul C dX12_comesAs_67 ?_
            refine k_topl (fun y68 ey68 => ?_)
            replace h := k_nm_e h y68 ey68
            refine k_lstore C dX12_comesAs_68 (by decide) [1, 2, 3, 4, 0, 5] (L' := [(0, .ref (w.2.1 0)), (1, .int x1), (2, .int x2), (3, .int x3), (4, .long y68), (6, .int v6_6)]) rfl ?_
            refine k_iinc C dX12_comesAs_70 5 rfl (v := 1) rfl (by decide) [1, 2, 3, 4, 5, 0] (L' := fun z9 => [(0, .ref (w.2.1 0)), (1, .int x1), (2, .int x2), (3, .int x3), (4, .long y68), (6, .int z9)]) (fun z9 => rfl) (fun y70 ey70 => ?_)
            replace h := k_nm_e h y70 ey70
            refine k_goto C dX12_comesAs_73 (tgt := 6) (by decide) ?_
            exact ih6 _ _ h
          · replace h := k_if_f h c29
            refine k_bipush C dX12_comesAs_32 (v := 100) rfl ?_
            refine k_aload_n C dX12_comesAs_34 0 rfl ?_
            refine k_get C dX12_comesAs_35 (k_gM0_23 w) k_fX12_312 (Or.inl rfl) ?_
            refine k_isub C dX12_comesAs_38 ?_
            refine k_i2l C dX12_comesAs_39 ?_
            refine k_goto C dX12_comesAs_40 (tgt := 67) (by decide) ?_
            refine k_lmul C dX12_comesAs_67 ?_
            refine k_topl (fun y68 ey68 => ?_)
            replace h := k_nm_e h y68 ey68
            refine k_lstore C dX12_comesAs_68 (by decide) [1, 2, 3, 4, 0, 5] (L' := [(0, .ref (w.2.1 0)), (1, .int x1), (2, .int x2), (3, .int x3), (4, .long y68), (6, .int v6_6)]) rfl ?_
            refine k_iinc C dX12_comesAs_70 5 rfl (v := 1) rfl (by decide) [1, 2, 3, 4, 5, 0] (L' := fun z9 => [(0, .ref (w.2.1 0)), (1, .int x1), (2, .int x2), (3, .int x3), (4, .long y68), (6, .int z9)]) (fun z9 => rfl) (fun y70 ey70 => ?_)
            replace h := k_nm_e h y70 ey70
            refine k_goto C dX12_comesAs_73 (tgt := 6) (by decide) ?_
            exact ih6 _ _ h
  exact K6 _ _ _ h
def f_X12_knotSum (x1 : Int32) (a2 : Nat) (σ : k_St) : Option (Int64 × k_St) :=
  k_loop (fun (g2 : Int32 × k_St → Option (Int64 × k_St)) (z2 : Int32 × k_St) => match z2 with
    | (v3_2, s_2) =>
      k_if ((192 : Int32) ≤ v3_2)
        (k_loop (fun (g24 : Int32 × k_St → Option (Int64 × k_St)) (z24 : Int32 × k_St) => match z24 with
          | (v3_24, s_24) =>
            k_if ((k_rd s_24 0 21) ≤ v3_24)
              (k_loop (fun (g113 : Int64 × Int32 → Option (Int64 × k_St)) (z113 : Int64 × Int32) => match z113 with
                | (v3_113, v5_113) =>
                  k_if ((32 : Int32) ≤ v5_113)
                    (some (v3_113, s_24))
                    (k_loop (fun (g126 : Int64 × Int32 → Option (Int64 × k_St)) (z126 : Int64 × Int32) => match z126 with
                      | (v6_126, v8_126) =>
                        k_if ((k_rd s_24 0 21) ≤ v8_126)
                          (k_nm ((v3_113 + v6_126)) fun y165 =>
                          k_nm (v5_113 + (1 : Int32)) fun y166 =>
                          g113 (y165, y166))
                          (k_gd (k_ix (((6 : Int32) * v5_113) + v8_126) 192 = true) <|
                          k_nm ((o_lmax v6_126 (k_rl s_24 27 (((6 : Int32) * v5_113) + v8_126).toNatClampNeg))) fun y153 =>
                          k_nm (v8_126 + (1 : Int32)) fun y155 =>
                          g126 (y153, y155))) 100000 ((0 : Int64), (0 : Int32)))) 100000 ((0 : Int64), (0 : Int32)))
              (k_loop (fun (g35 : Int32 × k_St → Option (Int64 × k_St)) (z35 : Int32 × k_St) => match z35 with
                | (v4_35, s_35) =>
                  k_if ((o_shl (1 : Int32) x1) ≤ v4_35)
                    (k_nm (v3_24 + (1 : Int32)) fun y102 =>
                    g24 (y102, s_35))
                    (k_bd (f_X12_seenAt v3_24 s_35) fun v53 =>
                    k_nm ((((6 : Int32) * (((8 : Int32) * v53) + v4_35)) + v3_24)) fun y63 =>
                    k_gd (k_ix y63 192 = true) <|
                    k_bd (f_X12_heard v3_24 s_35) fun v70 =>
                    k_gd (k_ix v70 (k_nM a2) = true) <|
                    k_bd (f_X12_comesAs x1 (k_rd s_35 a2 v70.toNatClampNeg) v4_35 s_35) fun v76 =>
                    k_bd (f_X12_of v3_24 (0 : Int32) s_35) fun v82 =>
                    k_b2 (f_X12_worthAt v3_24 s_35) fun v89 s89 =>
                    k_gd (k_ix y63 192 = true) <|
                    k_nm (k_wl s89 27 y63.toNatClampNeg ((k_rl s_35 27 y63.toNatClampNeg) + ((v76 * v82.toInt64) * v89.toInt64))) fun s95 =>
                    k_nm (v4_35 + (1 : Int32)) fun y96 =>
                    g35 (y96, s95))) 100000 ((0 : Int32), s_24))) 100000 ((0 : Int32), s_2))
        (k_gd (k_ix v3_2 192 = true) <|
        k_nm (k_wl s_2 27 v3_2.toNatClampNeg (0 : Int64)) fun s15 =>
        k_nm (v3_2 + (1 : Int32)) fun y16 =>
        g2 (y16, s15))) 100000 ((0 : Int32), σ)
set_option maxHeartbeats 4000000 in
set_option maxRecDepth 100000 in
theorem e_X12_knotSum {l : Launch} {w : k_WC} {d : Nat} (hd : 8 ≤ d) {x1 : Int32} {a2 : Nat} (ha2 : k_AI (k_PM w) .int a2 (w.2.1 a2) (k_nM a2)) {σ σ' : k_St} {r : Int64} (h : f_X12_knotSum x1 a2 σ = some (r, σ')) : k_EL l (k_PM w) yX12_knotSum cX12_knotSum 9 d [.ref (w.2.1 0), .int x1, .ref (w.2.1 a2)] σ r σ' := by
  refine k_of (own := RX12) rfl (by decide) (Nat.le_of_ble_eq_true rfl) (fun X hX C hr => ?_)
  show k_K (k_PM w) X (k_MQ X (k_Ql (k_PM w) r σ') (k_PM w).2.2.1) 0 [(0, .ref (w.2.1 0)), (1, .int x1), (2, .ref (w.2.1 a2))] [] σ
  unfold f_X12_knotSum at h
  refine k_iconst C dX12_knotSum_0 (v := 0) rfl ?_
  refine k_istore_n C dX12_knotSum_1 (by decide) [1, 2, 3, 0] (L' := [(0, .ref (w.2.1 0)), (1, .int x1), (2, .ref (w.2.1 a2)), (3, .int (0 : Int32))]) rfl ?_
  obtain ⟨b2, eb2, h⟩ := k_lp_e h
  have K2 : ∀ (n : Nat) (v3_2 : Int32) (s_2 : k_St), k_loop b2 n (v3_2, s_2) = some (r, σ') → k_K (k_PM w) X (k_MQ X (k_Ql (k_PM w) r σ') (k_PM w).2.2.1) 2 [(0, .ref (w.2.1 0)), (1, .int x1), (2, .ref (w.2.1 a2)), (3, .int v3_2)] [] s_2 := by
    intro n
    induction n with
    | zero => intro v3_2 s_2 h; cases h
    | succ n ih2 =>
      intro v3_2 s_2 h
      obtain ⟨g2, eg2, h⟩ := k_lp_s h
      rw [← eg2] at ih2
      rw [eb2] at h
      refine k_iload_n C dX12_knotSum_2 3 rfl ?_
      refine k_sipush C dX12_knotSum_3 (v := 192) rfl ?_
      refine k_icmp_ge C dX12_knotSum_6 (tgt := 22) (by decide) (fun c6 => ?_) (fun c6 => ?_)
      · replace h := k_if_t h c6
        refine k_iconst C dX12_knotSum_22 (v := 0) rfl ?_
        refine k_istore_n C dX12_knotSum_23 (by decide) [1, 2, 3, 0] (L' := [(0, .ref (w.2.1 0)), (1, .int x1), (2, .ref (w.2.1 a2)), (3, .int (0 : Int32))]) rfl ?_
        obtain ⟨b24, eb24, h⟩ := k_lp_e h
        have K24 : ∀ (n : Nat) (v3_24 : Int32) (s_24 : k_St), k_loop b24 n (v3_24, s_24) = some (r, σ') → k_K (k_PM w) X (k_MQ X (k_Ql (k_PM w) r σ') (k_PM w).2.2.1) 24 [(0, .ref (w.2.1 0)), (1, .int x1), (2, .ref (w.2.1 a2)), (3, .int v3_24)] [] s_24 := by
          intro n
          induction n with
          | zero => intro v3_24 s_24 h; cases h
          | succ n ih24 =>
            intro v3_24 s_24 h
            obtain ⟨g24, eg24, h⟩ := k_lp_s h
            rw [← eg24] at ih24
            rw [eb24] at h
            refine k_iload_n C dX12_knotSum_24 3 rfl ?_
            refine k_aload_n C dX12_knotSum_25 0 rfl ?_
            refine k_get C dX12_knotSum_26 (k_gM0_21 w) k_fX12_306 (Or.inl rfl) ?_
            refine k_icmp_ge C dX12_knotSum_29 (tgt := 108) (by decide) (fun c29 => ?_) (fun c29 => ?_)
            · replace h := k_if_t h c29
              refine k_lconst C dX12_knotSum_108 (v := 0) rfl ?_
              refine k_lstore_n C dX12_knotSum_109 (by decide) [1, 2, 3, 0] (L' := [(0, .ref (w.2.1 0)), (1, .int x1), (2, .ref (w.2.1 a2)), (3, .long (0 : Int64))]) rfl ?_
              refine k_iconst C dX12_knotSum_110 (v := 0) rfl ?_
              refine k_istore C dX12_knotSum_111 (by decide) [1, 2, 3, 4, 0] (L' := [(0, .ref (w.2.1 0)), (1, .int x1), (2, .ref (w.2.1 a2)), (3, .long (0 : Int64)), (5, .int (0 : Int32))]) rfl ?_
              obtain ⟨b113, eb113, h⟩ := k_lp_e h
              have K113 : ∀ (n : Nat) (v3_113 : Int64) (v5_113 : Int32), k_loop b113 n (v3_113, v5_113) = some (r, σ') → k_K (k_PM w) X (k_MQ X (k_Ql (k_PM w) r σ') (k_PM w).2.2.1) 113 [(0, .ref (w.2.1 0)), (3, .long v3_113), (5, .int v5_113)] [] s_24 := by
                intro n
                induction n with
                | zero => intro v3_113 v5_113 h; cases h
                | succ n ih113 =>
                  intro v3_113 v5_113 h
                  obtain ⟨g113, eg113, h⟩ := k_lp_s h
                  rw [← eg113] at ih113
                  rw [eb113] at h
                  refine k_iload C dX12_knotSum_113 2 rfl ?_
                  refine k_bipush C dX12_knotSum_115 (v := 32) rfl ?_
                  refine k_icmp_ge C dX12_knotSum_117 (tgt := 172) (by decide) (fun c117 => ?_) (fun c117 => ?_)
                  · replace h := k_if_t h c117
                    refine k_lload_n C dX12_knotSum_172 1 rfl ?_
                    exact k_lret C dX12_knotSum_173 hr (Option.some.inj h)
                  · replace h := k_if_f h c117
                    refine k_lconst C dX12_knotSum_120 (v := 0) rfl ?_
                    refine k_lstore C dX12_knotSum_121 (by decide) [1, 2, 3, 0] (L' := [(0, .ref (w.2.1 0)), (3, .long v3_113), (5, .int v5_113), (6, .long (0 : Int64))]) rfl ?_
                    refine k_iconst C dX12_knotSum_123 (v := 0) rfl ?_
                    refine k_istore C dX12_knotSum_124 (by decide) [1, 2, 3, 4, 0] (L' := [(0, .ref (w.2.1 0)), (3, .long v3_113), (5, .int v5_113), (6, .long (0 : Int64)), (8, .int (0 : Int32))]) rfl ?_
                    obtain ⟨b126, eb126, h⟩ := k_lp_e h
                    have K126 : ∀ (n : Nat) (v6_126 : Int64) (v8_126 : Int32), k_loop b126 n (v6_126, v8_126) = some (r, σ') → k_K (k_PM w) X (k_MQ X (k_Ql (k_PM w) r σ') (k_PM w).2.2.1) 126 [(0, .ref (w.2.1 0)), (3, .long v3_113), (5, .int v5_113), (6, .long v6_126), (8, .int v8_126)] [] s_24 := by
                      intro n
                      induction n with
                      | zero => intro v6_126 v8_126 h; cases h
                      | succ n ih126 =>
                        intro v6_126 v8_126 h
                        obtain ⟨g126, eg126, h⟩ := k_lp_s h
                        rw [← eg126] at ih126
                        rw [eb126] at h
                        refine k_iload C dX12_knotSum_126 4 rfl ?_
                        refine k_aload_n C dX12_knotSum_128 0 rfl ?_
                        refine k_get C dX12_knotSum_129 (k_gM0_21 w) k_fX12_306 (Or.inl rfl) ?_
                        refine k_icmp_ge C dX12_knotSum_132 (tgt := 161) (by decide) (fun c132 => ?_) (fun c132 => ?_)
                        · replace h := k_if_t h c132
                          refine k_lload_n C dX12_knotSum_161 1 rfl ?_
                          refine k_lload C dX12_knotSum_162 3 rfl ?_
                          refine k_ladd C dX12_knotSum_164 ?_
                          refine k_topl (fun y165 ey165 => ?_)
                          replace h := k_nm_e h y165 ey165
                          refine k_lstore_n C dX12_knotSum_165 (by decide) [1, 0, 2, 3, 4] (L' := [(0, .ref (w.2.1 0)), (3, .long y165), (5, .int v5_113), (6, .long v6_126), (8, .int v8_126)]) rfl ?_
                          refine k_iinc C dX12_knotSum_166 2 rfl (v := 1) rfl (by decide) [1, 2, 0, 3, 4] (L' := fun z9 => [(0, .ref (w.2.1 0)), (3, .long y165), (5, .int z9), (6, .long v6_126), (8, .int v8_126)]) (fun z9 => rfl) (fun y166 ey166 => ?_)
                          replace h := k_nm_e h y166 ey166
                          refine k_goto C dX12_knotSum_169 (tgt := 113) (by decide) ?_
                          refine k_sub (L' := [(0, .ref (w.2.1 0)), (3, .long y165), (5, .int y166)]) [0, 1, 2] rfl ?_
                          exact ih113 _ _ h
                        · replace h := k_if_f h c132
                          refine k_lload C dX12_knotSum_135 3 rfl ?_
                          refine k_aload_n C dX12_knotSum_137 0 rfl ?_
                          refine k_get C dX12_knotSum_138 (k_gM0_44 w) k_fX12_93 (Or.inl rfl) ?_
                          refine k_bipush C dX12_knotSum_141 (v := 6) rfl ?_
                          refine k_iload C dX12_knotSum_143 2 rfl ?_
                          refine k_imul C dX12_knotSum_145 ?_
                          refine k_iload C dX12_knotSum_146 4 rfl ?_
                          refine k_iadd C dX12_knotSum_148 ?_
                          obtain ⟨q149, h⟩ := k_gd_e h
                          refine k_lald C dX12_knotSum_149 (k_aM27 w) q149 ?_
                          refine k_mmax_long C dX12_knotSum_150 k_lX12_254 k_ym_lmax (by omega) (Nat.le_of_ble_eq_true rfl) ?_
                          refine k_topl (fun y153 ey153 => ?_)
                          replace h := k_nm_e h y153 ey153
                          refine k_lstore C dX12_knotSum_153 (by decide) [1, 2, 3, 0, 4] (L' := [(0, .ref (w.2.1 0)), (3, .long v3_113), (5, .int v5_113), (6, .long y153), (8, .int v8_126)]) rfl ?_
                          refine k_iinc C dX12_knotSum_155 4 rfl (v := 1) rfl (by decide) [1, 2, 3, 4, 0] (L' := fun z9 => [(0, .ref (w.2.1 0)), (3, .long v3_113), (5, .int v5_113), (6, .long y153), (8, .int z9)]) (fun z9 => rfl) (fun y155 ey155 => ?_)
                          replace h := k_nm_e h y155 ey155
                          refine k_goto C dX12_knotSum_158 (tgt := 126) (by decide) ?_
                          exact ih126 _ _ h
                    exact K126 _ _ _ h
              refine k_sub (L' := [(0, .ref (w.2.1 0)), (3, .long (0 : Int64)), (5, .int (0 : Int32))]) [0, 3, 4] rfl ?_
              exact K113 _ _ _ h
            · replace h := k_if_f h c29
              refine k_iconst C dX12_knotSum_32 (v := 0) rfl ?_
              refine k_istore C dX12_knotSum_33 (by decide) [1, 2, 3, 4, 0] (L' := [(0, .ref (w.2.1 0)), (1, .int x1), (2, .ref (w.2.1 a2)), (3, .int v3_24), (4, .int (0 : Int32))]) rfl ?_
              obtain ⟨b35, eb35, h⟩ := k_lp_e h
              have K35 : ∀ (n : Nat) (v4_35 : Int32) (s_35 : k_St), k_loop b35 n (v4_35, s_35) = some (r, σ') → k_K (k_PM w) X (k_MQ X (k_Ql (k_PM w) r σ') (k_PM w).2.2.1) 35 [(0, .ref (w.2.1 0)), (1, .int x1), (2, .ref (w.2.1 a2)), (3, .int v3_24), (4, .int v4_35)] [] s_35 := by
                intro n
                induction n with
                | zero => intro v4_35 s_35 h; cases h
                | succ n ih35 =>
                  intro v4_35 s_35 h
                  obtain ⟨g35, eg35, h⟩ := k_lp_s h
                  rw [← eg35] at ih35
                  rw [eb35] at h
                  refine k_iload C dX12_knotSum_35 4 rfl ?_
                  refine k_iconst C dX12_knotSum_37 (v := 1) rfl ?_
                  refine k_iload_n C dX12_knotSum_38 1 rfl ?_
                  refine k_ishl C dX12_knotSum_39 ?_
                  refine k_icmp_ge C dX12_knotSum_40 (tgt := 102) (by decide) (fun c40 => ?_) (fun c40 => ?_)
                  · replace h := k_if_t h c40
                    refine k_iinc C dX12_knotSum_102 3 rfl (v := 1) rfl (by decide) [1, 2, 3, 0, 4] (L' := fun z9 => [(0, .ref (w.2.1 0)), (1, .int x1), (2, .ref (w.2.1 a2)), (3, .int z9), (4, .int v4_35)]) (fun z9 => rfl) (fun y102 ey102 => ?_)
                    replace h := k_nm_e h y102 ey102
                    refine k_goto C dX12_knotSum_105 (tgt := 24) (by decide) ?_
                    refine k_sub (L' := [(0, .ref (w.2.1 0)), (1, .int x1), (2, .ref (w.2.1 a2)), (3, .int y102)]) [0, 1, 2, 3] rfl ?_
                    exact ih24 _ _ h
                  · replace h := k_if_f h c40
                    refine k_aload_n C dX12_knotSum_43 0 rfl ?_
                    refine k_get C dX12_knotSum_44 (k_gM0_44 w) k_fX12_93 (Or.inl rfl) ?_
                    refine k_bipush C dX12_knotSum_47 (v := 6) rfl ?_
                    refine k_bipush C dX12_knotSum_49 (v := 8) rfl ?_
                    refine k_aload_n C dX12_knotSum_51 0 rfl ?_
                    refine k_iload_n C dX12_knotSum_52 3 rfl ?_
                    obtain ⟨v53, h53, h⟩ := k_bd_e h
                    refine k_goI (k_runV C dX12_knotSum_53 (e_X12_seenAt (d := 3) (Nat.le_refl _) h53) k_lX12_369 k_yX12_seenAt (k_oM0 w) (by omega) rfl (Nat.le_of_ble_eq_true rfl)) ?_
                    refine k_imul C dX12_knotSum_56 ?_
                    refine k_iload C dX12_knotSum_57 4 rfl ?_
                    refine k_iadd C dX12_knotSum_59 ?_
                    refine k_imul C dX12_knotSum_60 ?_
                    refine k_iload_n C dX12_knotSum_61 3 rfl ?_
                    refine k_iadd C dX12_knotSum_62 ?_
                    refine k_topi (fun y63 ey63 => ?_)
                    replace h := k_nm_e h y63 ey63
                    refine k_dup2 C dX12_knotSum_63 rfl rfl ?_
                    obtain ⟨q64, h⟩ := k_gd_e h
                    refine k_lald C dX12_knotSum_64 (k_aM27 w) q64 ?_
                    refine k_aload_n C dX12_knotSum_65 0 rfl ?_
                    refine k_iload_n C dX12_knotSum_66 1 rfl ?_
                    refine k_aload_n C dX12_knotSum_67 2 rfl ?_
                    refine k_aload_n C dX12_knotSum_68 0 rfl ?_
                    refine k_iload_n C dX12_knotSum_69 3 rfl ?_
                    obtain ⟨v70, h70, h⟩ := k_bd_e h
                    refine k_goI (k_runV C dX12_knotSum_70 (e_X12_heard (d := 3) (Nat.le_refl _) h70) k_lX12_366 k_yX12_heard (k_oM0 w) (by omega) rfl (Nat.le_of_ble_eq_true rfl)) ?_
                    obtain ⟨q73, h⟩ := k_gd_e h
                    refine k_iald C dX12_knotSum_73 ha2 q73 ?_
                    refine k_iload C dX12_knotSum_74 4 rfl ?_
                    obtain ⟨v76, h76, h⟩ := k_bd_e h
                    refine k_goL (k_runV C dX12_knotSum_76 (e_X12_comesAs (d := 3) (Nat.le_refl _) h76) k_lX12_442 k_yX12_comesAs (k_oM0 w) (by omega) rfl (Nat.le_of_ble_eq_true rfl)) ?_
                    refine k_aload_n C dX12_knotSum_79 0 rfl ?_
                    refine k_iload_n C dX12_knotSum_80 3 rfl ?_
                    refine k_iconst C dX12_knotSum_81 (v := 0) rfl ?_
                    obtain ⟨v82, h82, h⟩ := k_bd_e h
                    refine k_goI (k_runV C dX12_knotSum_82 (e_X12_of (d := 2) (Nat.le_refl _) h82) k_lX12_343 k_yX12_of (k_oM0 w) (by omega) rfl (Nat.le_of_ble_eq_true rfl)) ?_
                    refine k_i2l C dX12_knotSum_85 ?_
                    refine k_lmul C dX12_knotSum_86 ?_
                    refine k_aload_n C dX12_knotSum_87 0 rfl ?_
                    refine k_iload_n C dX12_knotSum_88 3 rfl ?_
                    obtain ⟨v89, s89, h89, h⟩ := k_b2_e h
                    refine k_goI (k_runV C dX12_knotSum_89 (e_X12_worthAt (d := 7) (Nat.le_refl _) h89) k_lX12_356 k_yX12_worthAt (k_oM0 w) (by omega) rfl (Nat.le_of_ble_eq_true rfl)) ?_
                    refine k_i2l C dX12_knotSum_92 ?_
                    refine k_lmul C dX12_knotSum_93 ?_
                    refine k_ladd C dX12_knotSum_94 ?_
                    obtain ⟨q95, h⟩ := k_gd_e h
                    refine k_last C dX12_knotSum_95 (k_aM27 w) q95 ?_
                    refine k_st (fun s95 es95 => ?_)
                    replace h := k_nm_e h s95 es95
                    refine k_iinc C dX12_knotSum_96 4 rfl (v := 1) rfl (by decide) [1, 2, 3, 4, 0] (L' := fun z9 => [(0, .ref (w.2.1 0)), (1, .int x1), (2, .ref (w.2.1 a2)), (3, .int v3_24), (4, .int z9)]) (fun z9 => rfl) (fun y96 ey96 => ?_)
                    replace h := k_nm_e h y96 ey96
                    refine k_goto C dX12_knotSum_99 (tgt := 35) (by decide) ?_
                    exact ih35 _ _ h
              exact K35 _ _ _ h
        exact K24 _ _ _ h
      · replace h := k_if_f h c6
        refine k_aload_n C dX12_knotSum_9 0 rfl ?_
        refine k_get C dX12_knotSum_10 (k_gM0_44 w) k_fX12_93 (Or.inl rfl) ?_
        refine k_iload_n C dX12_knotSum_13 3 rfl ?_
        refine k_lconst C dX12_knotSum_14 (v := 0) rfl ?_
        obtain ⟨q15, h⟩ := k_gd_e h
        refine k_last C dX12_knotSum_15 (k_aM27 w) q15 ?_
        refine k_st (fun s15 es15 => ?_)
        replace h := k_nm_e h s15 es15
        refine k_iinc C dX12_knotSum_16 3 rfl (v := 1) rfl (by decide) [1, 2, 3, 0] (L' := fun z9 => [(0, .ref (w.2.1 0)), (1, .int x1), (2, .ref (w.2.1 a2)), (3, .int z9)]) (fun z9 => rfl) (fun y16 ey16 => ?_)
        replace h := k_nm_e h y16 ey16
        refine k_goto C dX12_knotSum_19 (tgt := 2) (by decide) ?_
        exact ih2 _ _ h
  exact K2 _ _ _ h
def b_X12_divisorOf (p_divisorOf : Int64 → Int64 → Option (Int64)) (x0 : Int64) (x2 : Int64) : Option (Int64) :=
  k_if ((lg_cmp x2 (0 : Int64)) = (0 : Int32))
    (some x0)
    (k_gd (¬ x2 = 0) <|
    k_bd (p_divisorOf x2 (o_lrem x0 x2)) fun v14 =>
    some v14)
set_option maxHeartbeats 4000000 in
set_option maxRecDepth 100000 in
theorem eb_X12_divisorOf {p_divisorOf : Int64 → Int64 → Option (Int64)} {d0 : Nat} (H_divisorOf : ∀ {l : Launch} {w : k_WC} {d : Nat} (_ : d0 ≤ d) {x0 : Int64} {x2 : Int64} {σ : k_St} {r : Int64} (_ : p_divisorOf x0 x2 = some r), k_EL l (k_PM w) yX12_divisorOf cX12_divisorOf 4 d [.long x0, .long x2] σ r σ) {l : Launch} {w : k_WC} {d : Nat} (hb : 3 ≤ d0) (hd : d0 < d) {x0 : Int64} {x2 : Int64}  {σ : k_St} {r : Int64} (h : b_X12_divisorOf p_divisorOf x0 x2 = some r) : k_EL l (k_PM w) yX12_divisorOf cX12_divisorOf 4 d [.long x0, .long x2] σ r σ := by
  refine k_of (own := RX12) rfl (by decide) (Nat.le_of_ble_eq_true rfl) (fun X hX C hr => ?_)
  show k_K (k_PM w) X (k_MQ X (k_Ql (k_PM w) r σ) (k_PM w).2.2.1) 0 [(0, .long x0), (2, .long x2)] [] σ
  unfold b_X12_divisorOf at h
  refine k_lload_n C dX12_divisorOf_0 1 rfl ?_
  refine k_lconst C dX12_divisorOf_1 (v := 0) rfl ?_
  refine k_lcmp C dX12_divisorOf_2 ?_
  refine k_if_ne C dX12_divisorOf_3 (tgt := 10) (by decide) (fun c3 => ?_) (fun c3 => ?_)
  · replace h := k_if_f h c3
    refine k_lload_n C dX12_divisorOf_10 1 rfl ?_
    refine k_lload_n C dX12_divisorOf_11 0 rfl ?_
    refine k_lload_n C dX12_divisorOf_12 1 rfl ?_
    obtain ⟨q13, h⟩ := k_gd_e h
    refine k_lrem C dX12_divisorOf_13 q13 ?_
    obtain ⟨v14, h14, h⟩ := k_bd_e h
    refine k_goL (k_runS C dX12_divisorOf_14 (H_divisorOf (d := d0) (Nat.le_refl _) h14) k_lX12_446 k_yX12_divisorOf (by omega) rfl (Nat.le_of_ble_eq_true rfl)) ?_
    exact k_lret C dX12_divisorOf_17 hr (k_p1 h)
  · replace h := k_if_t h c3
    refine k_lload_n C dX12_divisorOf_6 0 rfl ?_
    refine k_goto C dX12_divisorOf_7 (tgt := 17) (by decide) ?_
    exact k_lret C dX12_divisorOf_17 hr (k_p1 h)
def f_X12_divisorOf : Nat → Int64 → Int64 → Option (Int64)
  | 0 => fun _ _ => none
  | n + 1 => b_X12_divisorOf (f_X12_divisorOf n)
theorem e_X12_divisorOf_all : ∀ n : Nat, ∀ {l : Launch} {w : k_WC} {d : Nat} (_ : 3 + 1 * n ≤ d) {x0 : Int64} {x2 : Int64} {σ : k_St} {r : Int64} (_ : f_X12_divisorOf n x0 x2 = some r), k_EL l (k_PM w) yX12_divisorOf cX12_divisorOf 4 d [.long x0, .long x2] σ r σ
  | 0 => fun _ => by
    intros; rename_i h; cases h
  | n + 1 => by
    have ih := @e_X12_divisorOf_all n
    exact fun hd => fun h => eb_X12_divisorOf (d0 := 3 + 1 * n + 0) (fun hd => fun h => ih (by omega) h) (by omega) (by omega) h
theorem e_X12_divisorOf : ∀ {l : Launch} {w : k_WC} {d : Nat} (_ : 203 ≤ d) {x0 : Int64} {x2 : Int64} {σ : k_St} {r : Int64} (_ : f_X12_divisorOf 200 x0 x2 = some r), k_EL l (k_PM w) yX12_divisorOf cX12_divisorOf 4 d [.long x0, .long x2] σ r σ := fun hd => fun h => e_X12_divisorOf_all 200 (by omega) h
def f_X12_plainLong (x0 : Int64) (x2 : Int64) (x4 : Int32) : Option (Int64) :=
  k_bd (f_X12_divisorOf 200 x2 x0) fun v2 =>
  k_if (x4 = (0 : Int32))
    (k_gd (¬ v2 = 0) <|
    some (x0 / v2))
    (k_gd (¬ v2 = 0) <|
    some (x2 / v2))
set_option maxHeartbeats 4000000 in
set_option maxRecDepth 100000 in
theorem e_X12_plainLong {l : Launch} {w : k_WC} {d : Nat} (hd : 204 ≤ d) {x0 : Int64} {x2 : Int64} {x4 : Int32}  {σ : k_St} {r : Int64} (h : f_X12_plainLong x0 x2 x4 = some r) : k_EL l (k_PM w) yX12_plainLong cX12_plainLong 7 d [.long x0, .long x2, .int x4] σ r σ := by
  refine k_of (own := RX12) rfl (by decide) (Nat.le_of_ble_eq_true rfl) (fun X hX C hr => ?_)
  show k_K (k_PM w) X (k_MQ X (k_Ql (k_PM w) r σ) (k_PM w).2.2.1) 0 [(0, .long x0), (2, .long x2), (4, .int x4)] [] σ
  unfold f_X12_plainLong at h
  refine k_lload_n C dX12_plainLong_0 1 rfl ?_
  refine k_lload_n C dX12_plainLong_1 0 rfl ?_
  obtain ⟨v2, h2, h⟩ := k_bd_e h
  refine k_goL (k_runS C dX12_plainLong_2 (e_X12_divisorOf (d := 203) (Nat.le_refl _) h2) k_lX12_446 k_yX12_divisorOf (by omega) rfl (Nat.le_of_ble_eq_true rfl)) ?_
  refine k_lstore C dX12_plainLong_5 (by decide) [1, 2, 3, 0] (L' := [(0, .long x0), (2, .long x2), (4, .int x4), (5, .long v2)]) rfl ?_
  refine k_iload C dX12_plainLong_7 2 rfl ?_
  refine k_if_ne C dX12_plainLong_9 (tgt := 19) (by decide) (fun c9 => ?_) (fun c9 => ?_)
  · replace h := k_if_f h c9
    refine k_lload_n C dX12_plainLong_19 1 rfl ?_
    refine k_lload C dX12_plainLong_20 3 rfl ?_
    obtain ⟨q22, h⟩ := k_gd_e h
    refine k_ldiv C dX12_plainLong_22 q22 ?_
    exact k_lret C dX12_plainLong_23 hr (k_p1 h)
  · replace h := k_if_t h c9
    refine k_lload_n C dX12_plainLong_12 0 rfl ?_
    refine k_lload C dX12_plainLong_13 3 rfl ?_
    obtain ⟨q15, h⟩ := k_gd_e h
    refine k_ldiv C dX12_plainLong_15 q15 ?_
    refine k_goto C dX12_plainLong_16 (tgt := 23) (by decide) ?_
    exact k_lret C dX12_plainLong_23 hr (k_p1 h)
def f_X12_belowBy (x1 : Int32) (σ : k_St) : Option (Int64) :=
  k_bd (f_X12_below σ) fun v1 =>
  k_nm ((v1 / (100 : Int32)).toInt64) fun y8 =>
  k_loop (fun (g12 : Int64 × Int32 → Option (Int64)) (z12 : Int64 × Int32) => match z12 with
    | (v2_12, v4_12) =>
      k_if (x1 ≤ v4_12)
        (some v2_12)
        (k_nm ((v2_12 * (100 : Int64))) fun y23 =>
        k_nm (v4_12 + (1 : Int32)) fun y24 =>
        g12 (y23, y24))) 100000 (y8, (0 : Int32))
set_option maxHeartbeats 4000000 in
set_option maxRecDepth 100000 in
theorem e_X12_belowBy {l : Launch} {w : k_WC} {d : Nat} (hd : 4 ≤ d) {x1 : Int32}  {σ : k_St} {r : Int64} (h : f_X12_belowBy x1 σ = some r) : k_EL l (k_PM w) yX12_belowBy cX12_belowBy 5 d [.ref (w.2.1 0), .int x1] σ r σ := by
  refine k_of (own := RX12) rfl (by decide) (Nat.le_of_ble_eq_true rfl) (fun X hX C hr => ?_)
  show k_K (k_PM w) X (k_MQ X (k_Ql (k_PM w) r σ) (k_PM w).2.2.1) 0 [(0, .ref (w.2.1 0)), (1, .int x1)] [] σ
  unfold f_X12_belowBy at h
  refine k_aload_n C dX12_belowBy_0 0 rfl ?_
  obtain ⟨v1, h1, h⟩ := k_bd_e h
  refine k_goI (k_runV C dX12_belowBy_1 (e_X12_below (d := 3) (Nat.le_refl _) h1) k_lX12_375 k_yX12_below (k_oM0 w) (by omega) rfl (Nat.le_of_ble_eq_true rfl)) ?_
  refine k_bipush C dX12_belowBy_4 (v := 100) rfl ?_
  refine k_idiv C dX12_belowBy_6 (by decide) ?_
  refine k_i2l C dX12_belowBy_7 ?_
  refine k_topl (fun y8 ey8 => ?_)
  replace h := k_nm_e h y8 ey8
  refine k_lstore_n C dX12_belowBy_8 (by decide) [1, 2, 0] (L' := [(0, .ref (w.2.1 0)), (1, .int x1), (2, .long y8)]) rfl ?_
  refine k_iconst C dX12_belowBy_9 (v := 0) rfl ?_
  refine k_istore C dX12_belowBy_10 (by decide) [1, 2, 3, 0] (L' := [(0, .ref (w.2.1 0)), (1, .int x1), (2, .long y8), (4, .int (0 : Int32))]) rfl ?_
  obtain ⟨b12, eb12, h⟩ := k_lp_e h
  have K12 : ∀ (n : Nat) (v2_12 : Int64) (v4_12 : Int32), k_loop b12 n (v2_12, v4_12) = some r → k_K (k_PM w) X (k_MQ X (k_Ql (k_PM w) r σ) (k_PM w).2.2.1) 12 [(1, .int x1), (2, .long v2_12), (4, .int v4_12)] [] σ := by
    intro n
    induction n with
    | zero => intro v2_12 v4_12 h; cases h
    | succ n ih12 =>
      intro v2_12 v4_12 h
      obtain ⟨g12, eg12, h⟩ := k_lp_s h
      rw [← eg12] at ih12
      rw [eb12] at h
      refine k_iload C dX12_belowBy_12 2 rfl ?_
      refine k_iload_n C dX12_belowBy_14 0 rfl ?_
      refine k_icmp_ge C dX12_belowBy_15 (tgt := 30) (by decide) (fun c15 => ?_) (fun c15 => ?_)
      · replace h := k_if_t h c15
        refine k_lload_n C dX12_belowBy_30 1 rfl ?_
        exact k_lret C dX12_belowBy_31 hr (k_p1 h)
      · replace h := k_if_f h c15
        refine k_lload_n C dX12_belowBy_18 1 rfl ?_
        refine k_ldc2 C dX12_belowBy_19 k_cX12_440 ?_
        refine k_lmul C dX12_belowBy_22 ?_
        refine k_topl (fun y23 ey23 => ?_)
        replace h := k_nm_e h y23 ey23
        refine k_lstore_n C dX12_belowBy_23 (by decide) [1, 0, 2] (L' := [(1, .int x1), (2, .long y23), (4, .int v4_12)]) rfl ?_
        refine k_iinc C dX12_belowBy_24 2 rfl (v := 1) rfl (by decide) [1, 2, 0] (L' := fun z9 => [(1, .int x1), (2, .long y23), (4, .int z9)]) (fun z9 => rfl) (fun y24 ey24 => ?_)
        replace h := k_nm_e h y24 ey24
        refine k_goto C dX12_belowBy_27 (tgt := 12) (by decide) ?_
        exact ih12 _ _ h
  refine k_sub (L' := [(1, .int x1), (2, .long y8), (4, .int (0 : Int32))]) [1, 2, 3] rfl ?_
  exact K12 _ _ _ h
def f_X12_knots (x1 : Int32) (x2 : Int32) (x3 : Int32) (σ : k_St) : Option (Int64 × k_St) :=
  k_if ((k_rd σ 0 21) = (0 : Int32))
    (some ((-1 : Int64), σ))
    (k_bd (f_X12_in x1 (1 : Int32) (3 : Int32)) fun v10 =>
    k_if (v10 = (0 : Int32))
      (some ((-1 : Int64), σ))
      (k_bd (f_X12_in x3 (0 : Int32) (1 : Int32)) fun v19 =>
      k_if (v19 = (0 : Int32))
        (some ((-1 : Int64), σ))
        (k_b2 (f_X12_spreadOut x2 (o_shl (1 : Int32) x1) 28 σ) fun v33 s33 =>
        k_if (v33 = (0 : Int32))
          (some ((-1 : Int64), s33))
          (k_b2 (f_X12_knotSum x1 28 s33) fun v49 s49 =>
          k_bd (f_X12_belowBy x1 s49) fun v54 =>
          k_bd (f_X12_plainLong v49 v54 x3) fun v58 =>
          some (v58, s49)))))
set_option maxHeartbeats 4000000 in
set_option maxRecDepth 100000 in
theorem e_X12_knots {l : Launch} {w : k_WC} {d : Nat} (hd : 205 ≤ d) {x1 : Int32} {x2 : Int32} {x3 : Int32}  {σ σ' : k_St} {r : Int64} (h : f_X12_knots x1 x2 x3 σ = some (r, σ')) : k_EL l (k_PM w) yX12_knots cX12_knots 4 d [.ref (w.2.1 0), .int x1, .int x2, .int x3] σ r σ' := by
  refine k_of (own := RX12) rfl (by decide) (Nat.le_of_ble_eq_true rfl) (fun X hX C hr => ?_)
  show k_K (k_PM w) X (k_MQ X (k_Ql (k_PM w) r σ') (k_PM w).2.2.1) 0 [(0, .ref (w.2.1 0)), (1, .int x1), (2, .int x2), (3, .int x3)] [] σ
  unfold f_X12_knots at h
  refine k_aload_n C dX12_knots_0 0 rfl ?_
  refine k_get C dX12_knots_1 (k_gM0_21 w) k_fX12_306 (Or.inl rfl) ?_
  refine k_if_eq C dX12_knots_4 (tgt := 39) (by decide) (fun c4 => ?_) (fun c4 => ?_)
  · replace h := k_if_t h c4
    refine k_ldc2 C dX12_knots_39 k_cX12_449 ?_
    exact k_lret C dX12_knots_42 hr (Option.some.inj h)
  · replace h := k_if_f h c4
    refine k_iload_n C dX12_knots_7 1 rfl ?_
    refine k_iconst C dX12_knots_8 (v := 1) rfl ?_
    refine k_iconst C dX12_knots_9 (v := 3) rfl ?_
    obtain ⟨v10, h10, h⟩ := k_bd_e h
    refine k_goI (k_runS C dX12_knots_10 (e_X12_in (d := 2) (Nat.le_refl _) h10) k_lX12_269 k_yX12_in (by omega) rfl (Nat.le_of_ble_eq_true rfl)) ?_
    refine k_if_eq C dX12_knots_13 (tgt := 39) (by decide) (fun c13 => ?_) (fun c13 => ?_)
    · replace h := k_if_t h c13
      refine k_ldc2 C dX12_knots_39 k_cX12_449 ?_
      exact k_lret C dX12_knots_42 hr (Option.some.inj h)
    · replace h := k_if_f h c13
      refine k_iload_n C dX12_knots_16 3 rfl ?_
      refine k_iconst C dX12_knots_17 (v := 0) rfl ?_
      refine k_iconst C dX12_knots_18 (v := 1) rfl ?_
      obtain ⟨v19, h19, h⟩ := k_bd_e h
      refine k_goI (k_runS C dX12_knots_19 (e_X12_in (d := 2) (Nat.le_refl _) h19) k_lX12_269 k_yX12_in (by omega) rfl (Nat.le_of_ble_eq_true rfl)) ?_
      refine k_if_eq C dX12_knots_22 (tgt := 39) (by decide) (fun c22 => ?_) (fun c22 => ?_)
      · replace h := k_if_t h c22
        refine k_ldc2 C dX12_knots_39 k_cX12_449 ?_
        exact k_lret C dX12_knots_42 hr (Option.some.inj h)
      · replace h := k_if_f h c22
        refine k_iload_n C dX12_knots_25 2 rfl ?_
        refine k_iconst C dX12_knots_26 (v := 1) rfl ?_
        refine k_iload_n C dX12_knots_27 1 rfl ?_
        refine k_ishl C dX12_knots_28 ?_
        refine k_aload_n C dX12_knots_29 0 rfl ?_
        refine k_get C dX12_knots_30 (k_gM0_45 w) k_fX12_97 (Or.inl rfl) ?_
        obtain ⟨v33, s33, h33, h⟩ := k_b2_e h
        refine k_goI (k_runS C dX12_knots_33 (e_X12_spreadOut (d := 3) (Nat.le_refl _) (k_aM28 w) h33) k_lX12_359 k_yX12_spreadOut (by omega) rfl (Nat.le_of_ble_eq_true rfl)) ?_
        refine k_if_ne C dX12_knots_36 (tgt := 43) (by decide) (fun c36 => ?_) (fun c36 => ?_)
        · replace h := k_if_f h c36
          refine k_aload_n C dX12_knots_43 0 rfl ?_
          refine k_iload_n C dX12_knots_44 1 rfl ?_
          refine k_aload_n C dX12_knots_45 0 rfl ?_
          refine k_get C dX12_knots_46 (k_gM0_45 w) k_fX12_97 (Or.inl rfl) ?_
          obtain ⟨v49, s49, h49, h⟩ := k_b2_e h
          refine k_goL (k_runV C dX12_knots_49 (e_X12_knotSum (d := 8) (Nat.le_refl _) (k_aM28 w) h49) k_lX12_451 k_yX12_knotSum (k_oM0 w) (by omega) rfl (Nat.le_of_ble_eq_true rfl)) ?_
          refine k_aload_n C dX12_knots_52 0 rfl ?_
          refine k_iload_n C dX12_knots_53 1 rfl ?_
          obtain ⟨v54, h54, h⟩ := k_bd_e h
          refine k_goL (k_runV C dX12_knots_54 (e_X12_belowBy (d := 4) (Nat.le_refl _) h54) k_lX12_455 k_yX12_belowBy (k_oM0 w) (by omega) rfl (Nat.le_of_ble_eq_true rfl)) ?_
          refine k_iload_n C dX12_knots_57 3 rfl ?_
          obtain ⟨v58, h58, h⟩ := k_bd_e h
          refine k_goL (k_runS C dX12_knots_58 (e_X12_plainLong (d := 204) (Nat.le_refl _) h58) k_lX12_459 k_yX12_plainLong (by omega) rfl (Nat.le_of_ble_eq_true rfl)) ?_
          exact k_lret C dX12_knots_61 hr (Option.some.inj h)
        · replace h := k_if_t h c36
          refine k_ldc2 C dX12_knots_39 k_cX12_449 ?_
          exact k_lret C dX12_knots_42 hr (Option.some.inj h)
def f_X12_bestKnots (x1 : Int32) (x2 : Int32) (σ : k_St) : Option (Int64 × k_St) :=
  k_if ((k_rd σ 0 21) = (0 : Int32))
    (some ((-1 : Int64), σ))
    (k_bd (f_X12_in x1 (1 : Int32) (3 : Int32)) fun v10 =>
    k_if (v10 = (0 : Int32))
      (some ((-1 : Int64), σ))
      (k_bd (f_X12_in x2 (0 : Int32) (2 : Int32)) fun v19 =>
      k_if (v19 = (0 : Int32))
        (some ((-1 : Int64), σ))
        (k_nm ((o_shl (1 : Int32) ((4 : Int32) * x1))) fun y41 =>
        k_loop (fun (g46 : Int64 × Int32 × Int32 × k_St → Option (Int64 × k_St)) (z46 : Int64 × Int32 × Int32 × k_St) => match z46 with
          | (v3_46, v5_46, v7_46, s_46) =>
            k_if (y41 ≤ v7_46)
              (k_if (x2 = (0 : Int32))
                (some (v5_46.toInt64, s_46))
                (k_bd (f_X12_belowBy x1 s_46) fun v115 =>
                k_bd (f_X12_plainLong v3_46 v115 (x2 - (1 : Int32))) fun v121 =>
                some (v121, s_46)))
              (k_bd (f_X12_nth v7_46 (o_shl (1 : Int32) x1) 28 s_46) fun s63 =>
              k_b2 (f_X12_knotSum x1 28 s63) fun v72 s72 =>
              k_if ((lg_cmp v72 v3_46) ≤ (0 : Int32))
                (k_nm (v7_46 + (1 : Int32)) fun y96 =>
                g46 (v3_46, v5_46, y96, s72))
                (k_bd (f_X12_packed 28 s72) fun v91 =>
                k_nm (v7_46 + (1 : Int32)) fun y96 =>
                g46 (v72, v91, y96, s72)))) 100000 ((-1 : Int64), (0 : Int32), (0 : Int32), σ))))
set_option maxHeartbeats 4000000 in
set_option maxRecDepth 100000 in
theorem e_X12_bestKnots {l : Launch} {w : k_WC} {d : Nat} (hd : 205 ≤ d) {x1 : Int32} {x2 : Int32}  {σ σ' : k_St} {r : Int64} (h : f_X12_bestKnots x1 x2 σ = some (r, σ')) : k_EL l (k_PM w) yX12_bestKnots cX12_bestKnots 10 d [.ref (w.2.1 0), .int x1, .int x2] σ r σ' := by
  refine k_of (own := RX12) rfl (by decide) (Nat.le_of_ble_eq_true rfl) (fun X hX C hr => ?_)
  show k_K (k_PM w) X (k_MQ X (k_Ql (k_PM w) r σ') (k_PM w).2.2.1) 0 [(0, .ref (w.2.1 0)), (1, .int x1), (2, .int x2)] [] σ
  unfold f_X12_bestKnots at h
  refine k_aload_n C dX12_bestKnots_0 0 rfl ?_
  refine k_get C dX12_bestKnots_1 (k_gM0_21 w) k_fX12_306 (Or.inl rfl) ?_
  refine k_if_eq C dX12_bestKnots_4 (tgt := 25) (by decide) (fun c4 => ?_) (fun c4 => ?_)
  · replace h := k_if_t h c4
    refine k_ldc2 C dX12_bestKnots_25 k_cX12_449 ?_
    exact k_lret C dX12_bestKnots_28 hr (Option.some.inj h)
  · replace h := k_if_f h c4
    refine k_iload_n C dX12_bestKnots_7 1 rfl ?_
    refine k_iconst C dX12_bestKnots_8 (v := 1) rfl ?_
    refine k_iconst C dX12_bestKnots_9 (v := 3) rfl ?_
    obtain ⟨v10, h10, h⟩ := k_bd_e h
    refine k_goI (k_runS C dX12_bestKnots_10 (e_X12_in (d := 2) (Nat.le_refl _) h10) k_lX12_269 k_yX12_in (by omega) rfl (Nat.le_of_ble_eq_true rfl)) ?_
    refine k_if_eq C dX12_bestKnots_13 (tgt := 25) (by decide) (fun c13 => ?_) (fun c13 => ?_)
    · replace h := k_if_t h c13
      refine k_ldc2 C dX12_bestKnots_25 k_cX12_449 ?_
      exact k_lret C dX12_bestKnots_28 hr (Option.some.inj h)
    · replace h := k_if_f h c13
      refine k_iload_n C dX12_bestKnots_16 2 rfl ?_
      refine k_iconst C dX12_bestKnots_17 (v := 0) rfl ?_
      refine k_iconst C dX12_bestKnots_18 (v := 2) rfl ?_
      obtain ⟨v19, h19, h⟩ := k_bd_e h
      refine k_goI (k_runS C dX12_bestKnots_19 (e_X12_in (d := 2) (Nat.le_refl _) h19) k_lX12_269 k_yX12_in (by omega) rfl (Nat.le_of_ble_eq_true rfl)) ?_
      refine k_if_ne C dX12_bestKnots_22 (tgt := 29) (by decide) (fun c22 => ?_) (fun c22 => ?_)
      · replace h := k_if_f h c22
        refine k_ldc2 C dX12_bestKnots_29 k_cX12_449 ?_
        refine k_lstore_n C dX12_bestKnots_32 (by decide) [1, 2, 3, 0] (L' := [(0, .ref (w.2.1 0)), (1, .int x1), (2, .int x2), (3, .long (-1 : Int64))]) rfl ?_
        refine k_iconst C dX12_bestKnots_33 (v := 0) rfl ?_
        refine k_istore C dX12_bestKnots_34 (by decide) [1, 2, 3, 4, 0] (L' := [(0, .ref (w.2.1 0)), (1, .int x1), (2, .int x2), (3, .long (-1 : Int64)), (5, .int (0 : Int32))]) rfl ?_
        refine k_iconst C dX12_bestKnots_36 (v := 1) rfl ?_
        refine k_iconst C dX12_bestKnots_37 (v := 4) rfl ?_
        refine k_iload_n C dX12_bestKnots_38 1 rfl ?_
        refine k_imul C dX12_bestKnots_39 ?_
        refine k_ishl C dX12_bestKnots_40 ?_
        refine k_topi (fun y41 ey41 => ?_)
        replace h := k_nm_e h y41 ey41
        refine k_istore C dX12_bestKnots_41 (by decide) [1, 2, 3, 4, 5, 0] (L' := [(0, .ref (w.2.1 0)), (1, .int x1), (2, .int x2), (3, .long (-1 : Int64)), (5, .int (0 : Int32)), (6, .int y41)]) rfl ?_
        refine k_iconst C dX12_bestKnots_43 (v := 0) rfl ?_
        refine k_istore C dX12_bestKnots_44 (by decide) [1, 2, 3, 4, 5, 6, 0] (L' := [(0, .ref (w.2.1 0)), (1, .int x1), (2, .int x2), (3, .long (-1 : Int64)), (5, .int (0 : Int32)), (6, .int y41), (7, .int (0 : Int32))]) rfl ?_
        obtain ⟨b46, eb46, h⟩ := k_lp_e h
        have K46 : ∀ (n : Nat) (v3_46 : Int64) (v5_46 : Int32) (v7_46 : Int32) (s_46 : k_St), k_loop b46 n (v3_46, v5_46, v7_46, s_46) = some (r, σ') → k_K (k_PM w) X (k_MQ X (k_Ql (k_PM w) r σ') (k_PM w).2.2.1) 46 [(0, .ref (w.2.1 0)), (1, .int x1), (2, .int x2), (3, .long v3_46), (5, .int v5_46), (6, .int y41), (7, .int v7_46)] [] s_46 := by
          intro n
          induction n with
          | zero => intro v3_46 v5_46 v7_46 s_46 h; cases h
          | succ n ih46 =>
            intro v3_46 v5_46 v7_46 s_46 h
            obtain ⟨g46, eg46, h⟩ := k_lp_s h
            rw [← eg46] at ih46
            rw [eb46] at h
            refine k_iload C dX12_bestKnots_46 6 rfl ?_
            refine k_iload C dX12_bestKnots_48 5 rfl ?_
            refine k_icmp_ge C dX12_bestKnots_50 (tgt := 102) (by decide) (fun c50 => ?_) (fun c50 => ?_)
            · replace h := k_if_t h c50
              refine k_iload_n C dX12_bestKnots_102 2 rfl ?_
              refine k_if_ne C dX12_bestKnots_103 (tgt := 112) (by decide) (fun c103 => ?_) (fun c103 => ?_)
              · replace h := k_if_f h c103
                refine k_lload_n C dX12_bestKnots_112 3 rfl ?_
                refine k_aload_n C dX12_bestKnots_113 0 rfl ?_
                refine k_iload_n C dX12_bestKnots_114 1 rfl ?_
                obtain ⟨v115, h115, h⟩ := k_bd_e h
                refine k_goL (k_runV C dX12_bestKnots_115 (e_X12_belowBy (d := 4) (Nat.le_refl _) h115) k_lX12_455 k_yX12_belowBy (k_oM0 w) (by omega) rfl (Nat.le_of_ble_eq_true rfl)) ?_
                refine k_iload_n C dX12_bestKnots_118 2 rfl ?_
                refine k_iconst C dX12_bestKnots_119 (v := 1) rfl ?_
                refine k_isub C dX12_bestKnots_120 ?_
                obtain ⟨v121, h121, h⟩ := k_bd_e h
                refine k_goL (k_runS C dX12_bestKnots_121 (e_X12_plainLong (d := 204) (Nat.le_refl _) h121) k_lX12_459 k_yX12_plainLong (by omega) rfl (Nat.le_of_ble_eq_true rfl)) ?_
                exact k_lret C dX12_bestKnots_124 hr (Option.some.inj h)
              · replace h := k_if_t h c103
                refine k_iload C dX12_bestKnots_106 4 rfl ?_
                refine k_i2l C dX12_bestKnots_108 ?_
                refine k_goto C dX12_bestKnots_109 (tgt := 124) (by decide) ?_
                exact k_lret C dX12_bestKnots_124 hr (Option.some.inj h)
            · replace h := k_if_f h c50
              refine k_aload_n C dX12_bestKnots_53 0 rfl ?_
              refine k_iload C dX12_bestKnots_54 6 rfl ?_
              refine k_iconst C dX12_bestKnots_56 (v := 1) rfl ?_
              refine k_iload_n C dX12_bestKnots_57 1 rfl ?_
              refine k_ishl C dX12_bestKnots_58 ?_
              refine k_aload_n C dX12_bestKnots_59 0 rfl ?_
              refine k_get C dX12_bestKnots_60 (k_gM0_45 w) k_fX12_97 (Or.inl rfl) ?_
              obtain ⟨s63, h63, h⟩ := k_bd_e h
              refine k_goV (k_runV C dX12_bestKnots_63 (e_X12_nth (d := 2) (Nat.le_refl _) (k_aM28 w) h63) k_lX12_395 k_yX12_nth (k_oM0 w) (by omega) rfl (Nat.le_of_ble_eq_true rfl)) ?_
              refine k_aload_n C dX12_bestKnots_66 0 rfl ?_
              refine k_iload_n C dX12_bestKnots_67 1 rfl ?_
              refine k_aload_n C dX12_bestKnots_68 0 rfl ?_
              refine k_get C dX12_bestKnots_69 (k_gM0_45 w) k_fX12_97 (Or.inl rfl) ?_
              obtain ⟨v72, s72, h72, h⟩ := k_b2_e h
              refine k_goL (k_runV C dX12_bestKnots_72 (e_X12_knotSum (d := 8) (Nat.le_refl _) (k_aM28 w) h72) k_lX12_451 k_yX12_knotSum (k_oM0 w) (by omega) rfl (Nat.le_of_ble_eq_true rfl)) ?_
              refine k_lstore C dX12_bestKnots_75 (by decide) [1, 2, 3, 4, 5, 6, 7, 0] (L' := [(0, .ref (w.2.1 0)), (1, .int x1), (2, .int x2), (3, .long v3_46), (5, .int v5_46), (6, .int y41), (7, .int v7_46), (8, .long v72)]) rfl ?_
              refine k_lload C dX12_bestKnots_77 7 rfl ?_
              refine k_lload_n C dX12_bestKnots_79 3 rfl ?_
              refine k_lcmp C dX12_bestKnots_80 ?_
              refine k_if_le C dX12_bestKnots_81 (tgt := 96) (by decide) (fun c81 => ?_) (fun c81 => ?_)
              · replace h := k_if_t h c81
                refine k_iinc C dX12_bestKnots_96 6 rfl (v := 1) rfl (by decide) [1, 2, 3, 4, 5, 6, 0, 7] (L' := fun z9 => [(0, .ref (w.2.1 0)), (1, .int x1), (2, .int x2), (3, .long v3_46), (5, .int v5_46), (6, .int y41), (7, .int z9), (8, .long v72)]) (fun z9 => rfl) (fun y96 ey96 => ?_)
                replace h := k_nm_e h y96 ey96
                refine k_goto C dX12_bestKnots_99 (tgt := 46) (by decide) ?_
                refine k_sub (L' := [(0, .ref (w.2.1 0)), (1, .int x1), (2, .int x2), (3, .long v3_46), (5, .int v5_46), (6, .int y41), (7, .int y96)]) [0, 1, 2, 3, 4, 5, 6] rfl ?_
                exact ih46 _ _ _ _ h
              · replace h := k_if_f h c81
                refine k_lload C dX12_bestKnots_84 7 rfl ?_
                refine k_lstore_n C dX12_bestKnots_86 (by decide) [1, 2, 3, 0, 4, 5, 6, 7] (L' := [(0, .ref (w.2.1 0)), (1, .int x1), (2, .int x2), (3, .long v72), (5, .int v5_46), (6, .int y41), (7, .int v7_46), (8, .long v72)]) rfl ?_
                refine k_aload_n C dX12_bestKnots_87 0 rfl ?_
                refine k_get C dX12_bestKnots_88 (k_gM0_45 w) k_fX12_97 (Or.inl rfl) ?_
                obtain ⟨v91, h91, h⟩ := k_bd_e h
                refine k_goI (k_runS C dX12_bestKnots_91 (e_X12_packed (d := 2) (Nat.le_refl _) (k_aM28 w) h91) k_lX12_402 k_yX12_packed (by omega) rfl (Nat.le_of_ble_eq_true rfl)) ?_
                refine k_istore C dX12_bestKnots_94 (by decide) [1, 2, 3, 4, 0, 5, 6, 7] (L' := [(0, .ref (w.2.1 0)), (1, .int x1), (2, .int x2), (3, .long v72), (5, .int v91), (6, .int y41), (7, .int v7_46), (8, .long v72)]) rfl ?_
                refine k_iinc C dX12_bestKnots_96 6 rfl (v := 1) rfl (by decide) [1, 2, 3, 4, 5, 6, 0, 7] (L' := fun z9 => [(0, .ref (w.2.1 0)), (1, .int x1), (2, .int x2), (3, .long v72), (5, .int v91), (6, .int y41), (7, .int z9), (8, .long v72)]) (fun z9 => rfl) (fun y96 ey96 => ?_)
                replace h := k_nm_e h y96 ey96
                refine k_goto C dX12_bestKnots_99 (tgt := 46) (by decide) ?_
                refine k_sub (L' := [(0, .ref (w.2.1 0)), (1, .int x1), (2, .int x2), (3, .long v72), (5, .int v91), (6, .int y41), (7, .int y96)]) [0, 1, 2, 3, 4, 5, 6] rfl ?_
                exact ih46 _ _ _ _ h
        exact K46 _ _ _ _ _ h
      · replace h := k_if_t h c22
        refine k_ldc2 C dX12_bestKnots_25 k_cX12_449 ?_
        exact k_lret C dX12_bestKnots_28 hr (Option.some.inj h)
