def f_X12_in (x0 : Int32) (x1 : Int32) (x2 : Int32) : Option (Int32) :=
  k_if (x0 < x1)
    (some (0 : Int32))
    (k_if (x2 < x0)
      (some (0 : Int32))
      (some (1 : Int32)))
set_option maxHeartbeats 4000000 in
set_option maxRecDepth 100000 in
theorem e_X12_in {l : Launch} {w : k_WC} {d : Nat} (hd : 2 ≤ d) {x0 : Int32} {x1 : Int32} {x2 : Int32}  {σ : k_St} {r : Int32} (h : f_X12_in x0 x1 x2 = some r) : k_EI l (k_PM w) yX12_in cX12_in 3 (some .boolean) d [.int x0, .int x1, .int x2] σ r σ := by
  refine k_of (own := RX12) rfl (by decide) (Nat.le_of_ble_eq_true rfl) (fun X hX C hr => ?_)
  show k_K (k_PM w) X (k_MQ X (k_Qi (k_PM w) r σ) (k_PM w).2.2.1) 0 [(0, .int x0), (1, .int x1), (2, .int x2)] [] σ
  unfold f_X12_in at h
  refine k_iload_n C dX12_in_0 0 rfl ?_
  refine k_iload_n C dX12_in_1 1 rfl ?_
  refine k_icmp_lt C dX12_in_2 (tgt := 14) (by decide) (fun c2 => ?_) (fun c2 => ?_)
  · replace h := k_if_t h c2
    refine k_iconst C dX12_in_14 (v := 0) rfl ?_
    exact k_zret C dX12_in_15 hr rfl (k_p1 h)
  · replace h := k_if_f h c2
    refine k_iload_n C dX12_in_5 0 rfl ?_
    refine k_iload_n C dX12_in_6 2 rfl ?_
    refine k_icmp_gt C dX12_in_7 (tgt := 14) (by decide) (fun c7 => ?_) (fun c7 => ?_)
    · replace h := k_if_t h c7
      refine k_iconst C dX12_in_14 (v := 0) rfl ?_
      exact k_zret C dX12_in_15 hr rfl (k_p1 h)
    · replace h := k_if_f h c7
      refine k_iconst C dX12_in_10 (v := 1) rfl ?_
      refine k_goto C dX12_in_11 (tgt := 15) (by decide) ?_
      exact k_zret C dX12_in_15 hr rfl (k_p1 h)
def f_X12_has (x0 : Int32) (x1 : Int32) : Option (Int32) :=
  k_if (((o_shr x0 x1) &&& (1 : Int32)) = (1 : Int32))
    (some (1 : Int32))
    (some (0 : Int32))
set_option maxHeartbeats 4000000 in
set_option maxRecDepth 100000 in
theorem e_X12_has {l : Launch} {w : k_WC} {d : Nat} (hd : 2 ≤ d) {x0 : Int32} {x1 : Int32}  {σ : k_St} {r : Int32} (h : f_X12_has x0 x1 = some r) : k_EI l (k_PM w) yX12_has cX12_has 2 (some .boolean) d [.int x0, .int x1] σ r σ := by
  refine k_of (own := RX12) rfl (by decide) (Nat.le_of_ble_eq_true rfl) (fun X hX C hr => ?_)
  show k_K (k_PM w) X (k_MQ X (k_Qi (k_PM w) r σ) (k_PM w).2.2.1) 0 [(0, .int x0), (1, .int x1)] [] σ
  unfold f_X12_has at h
  refine k_iload_n C dX12_has_0 0 rfl ?_
  refine k_iload_n C dX12_has_1 1 rfl ?_
  refine k_ishr C dX12_has_2 ?_
  refine k_iconst C dX12_has_3 (v := 1) rfl ?_
  refine k_iand C dX12_has_4 ?_
  refine k_iconst C dX12_has_5 (v := 1) rfl ?_
  refine k_icmp_ne C dX12_has_6 (tgt := 13) (by decide) (fun c6 => ?_) (fun c6 => ?_)
  · replace h := k_if_f h c6
    refine k_iconst C dX12_has_13 (v := 0) rfl ?_
    exact k_zret C dX12_has_14 hr rfl (k_p1 h)
  · replace h := k_if_t h c6
    refine k_iconst C dX12_has_9 (v := 1) rfl ?_
    refine k_goto C dX12_has_10 (tgt := 14) (by decide) ?_
    exact k_zret C dX12_has_14 hr rfl (k_p1 h)
def f_X12_thrown  (σ : k_St) : Option (Int32) :=
  some (k_rd σ 0 0)
set_option maxHeartbeats 4000000 in
set_option maxRecDepth 100000 in
theorem e_X12_thrown {l : Launch} {w : k_WC} {d : Nat} (hd : 2 ≤ d)   {σ : k_St} {r : Int32} (h : f_X12_thrown σ = some r) : k_EI l (k_PM w) yX12_thrown cX12_thrown 1 (some .int) d [.ref (w.2.1 0)] σ r σ := by
  refine k_of (own := RX12) rfl (by decide) (Nat.le_of_ble_eq_true rfl) (fun X hX C hr => ?_)
  show k_K (k_PM w) X (k_MQ X (k_Qi (k_PM w) r σ) (k_PM w).2.2.1) 0 [(0, .ref (w.2.1 0))] [] σ
  unfold f_X12_thrown at h
  refine k_aload_n C dX12_thrown_0 0 rfl ?_
  refine k_get C dX12_thrown_1 (k_gM0_0 w) k_fX12_154 (Or.inl rfl) ?_
  exact k_iret C dX12_thrown_4 hr (k_p1 h)
def f_X12_byteOf (x0 : Int32) (x1 : Int32) (x2 : Int32) (x3 : Int32) (x4 : Int32) (x5 : Int32) : Option (Int32) :=
  k_jn (fun (t0_45 : Int32) =>
    some ((o_shr t0_45 ((24 : Int32) - ((8 : Int32) * (o_rem x5 (4 : Int32))))) &&& (255 : Int32))) fun j45 =>
  k_if ((4 : Int32) ≤ x5)
    (k_if ((8 : Int32) ≤ x5)
      (k_if ((12 : Int32) ≤ x5)
        (k_if ((16 : Int32) ≤ x5)
          (j45 x4)
          (j45 x3))
        (j45 x2))
      (j45 x1))
    (j45 x0)
set_option maxHeartbeats 4000000 in
set_option maxRecDepth 100000 in
theorem e_X12_byteOf {l : Launch} {w : k_WC} {d : Nat} (hd : 2 ≤ d) {x0 : Int32} {x1 : Int32} {x2 : Int32} {x3 : Int32} {x4 : Int32} {x5 : Int32}  {σ : k_St} {r : Int32} (h : f_X12_byteOf x0 x1 x2 x3 x4 x5 = some r) : k_EI l (k_PM w) yX12_byteOf cX12_byteOf 7 (some .int) d [.int x0, .int x1, .int x2, .int x3, .int x4, .int x5] σ r σ := by
  refine k_of (own := RX12) rfl (by decide) (Nat.le_of_ble_eq_true rfl) (fun X hX C hr => ?_)
  show k_K (k_PM w) X (k_MQ X (k_Qi (k_PM w) r σ) (k_PM w).2.2.1) 0 [(0, .int x0), (1, .int x1), (2, .int x2), (3, .int x3), (4, .int x4), (5, .int x5)] [] σ
  unfold f_X12_byteOf at h
  refine k_iload C dX12_byteOf_0 5 rfl ?_
  refine k_iconst C dX12_byteOf_2 (v := 4) rfl ?_
  obtain ⟨j45, ej45, h⟩ := k_jn_e h
  have Jj45 : ∀ (t0_45 : Int32), j45 t0_45 = some r → k_K (k_PM w) X (k_MQ X (k_Qi (k_PM w) r σ) (k_PM w).2.2.1) 45 [(5, .int x5)] [.int t0_45] σ := by
    intro t0_45 h
    rw [ej45] at h
    refine k_istore C dX12_byteOf_45 (by decide) [1, 0] (L' := [(5, .int x5), (6, .int t0_45)]) rfl ?_
    refine k_iload C dX12_byteOf_47 1 rfl ?_
    refine k_bipush C dX12_byteOf_49 (v := 24) rfl ?_
    refine k_bipush C dX12_byteOf_51 (v := 8) rfl ?_
    refine k_iload C dX12_byteOf_53 0 rfl ?_
    refine k_iconst C dX12_byteOf_55 (v := 4) rfl ?_
    refine k_irem C dX12_byteOf_56 (by decide) ?_
    refine k_imul C dX12_byteOf_57 ?_
    refine k_isub C dX12_byteOf_58 ?_
    refine k_ishr C dX12_byteOf_59 ?_
    refine k_sipush C dX12_byteOf_60 (v := 255) rfl ?_
    refine k_iand C dX12_byteOf_63 ?_
    exact k_iret C dX12_byteOf_64 hr (k_p1 h)
  refine k_icmp_ge C dX12_byteOf_3 (tgt := 10) (by decide) (fun c3 => ?_) (fun c3 => ?_)
  · replace h := k_if_t h c3
    refine k_iload C dX12_byteOf_10 5 rfl ?_
    refine k_bipush C dX12_byteOf_12 (v := 8) rfl ?_
    refine k_icmp_ge C dX12_byteOf_14 (tgt := 21) (by decide) (fun c14 => ?_) (fun c14 => ?_)
    · replace h := k_if_t h c14
      refine k_iload C dX12_byteOf_21 5 rfl ?_
      refine k_bipush C dX12_byteOf_23 (v := 12) rfl ?_
      refine k_icmp_ge C dX12_byteOf_25 (tgt := 32) (by decide) (fun c25 => ?_) (fun c25 => ?_)
      · replace h := k_if_t h c25
        refine k_iload C dX12_byteOf_32 5 rfl ?_
        refine k_bipush C dX12_byteOf_34 (v := 16) rfl ?_
        refine k_icmp_ge C dX12_byteOf_36 (tgt := 43) (by decide) (fun c36 => ?_) (fun c36 => ?_)
        · replace h := k_if_t h c36
          refine k_iload C dX12_byteOf_43 4 rfl ?_
          refine k_sub (L' := [(5, .int x5)]) [5] rfl ?_
          exact Jj45 _ h
        · replace h := k_if_f h c36
          refine k_iload_n C dX12_byteOf_39 3 rfl ?_
          refine k_goto C dX12_byteOf_40 (tgt := 45) (by decide) ?_
          refine k_sub (L' := [(5, .int x5)]) [5] rfl ?_
          exact Jj45 _ h
      · replace h := k_if_f h c25
        refine k_iload_n C dX12_byteOf_28 2 rfl ?_
        refine k_goto C dX12_byteOf_29 (tgt := 45) (by decide) ?_
        refine k_sub (L' := [(5, .int x5)]) [5] rfl ?_
        exact Jj45 _ h
    · replace h := k_if_f h c14
      refine k_iload_n C dX12_byteOf_17 1 rfl ?_
      refine k_goto C dX12_byteOf_18 (tgt := 45) (by decide) ?_
      refine k_sub (L' := [(5, .int x5)]) [5] rfl ?_
      exact Jj45 _ h
  · replace h := k_if_f h c3
    refine k_iload_n C dX12_byteOf_6 0 rfl ?_
    refine k_goto C dX12_byteOf_7 (tgt := 45) (by decide) ?_
    refine k_sub (L' := [(5, .int x5)]) [5] rfl ?_
    exact Jj45 _ h
def f_X12_feed (x1 : Int32) (x2 : Int32) (x3 : Int32) (x4 : Int32) (x5 : Int32) (σ : k_St) : Option (Int32 × k_St) :=
  k_loop (fun (g6 : Int32 × Int32 → Option (Int32 × k_St)) (z6 : Int32 × Int32) => match z6 with
    | (v6_6, v7_6) =>
      k_if ((20 : Int32) ≤ v7_6)
        (k_if (((k_rd σ 0 2) + v6_6) ≤ (160 : Int32))
          (k_loop (fun (g62 : Int32 × k_St → Option (Int32 × k_St)) (z62 : Int32 × k_St) => match z62 with
            | (v7_62, s_62) =>
              k_if ((20 : Int32) ≤ v7_62)
                (some ((k_rd s_62 0 2), s_62))
                (k_bd (f_X12_byteOf x1 x2 x3 x4 x5 v7_62) fun v78 =>
                k_if (v78 = (0 : Int32))
                  (k_nm (v7_62 + (1 : Int32)) fun y109 =>
                  g62 (y109, s_62))
                  (k_gd (k_ix (k_rd s_62 0 2) 160 = true) <|
                  k_nm (k_wr s_62 1 (k_rd s_62 0 2).toNatClampNeg v78) fun s98 =>
                  k_nm (k_wr s98 0 2 ((k_rd s98 0 2) + (1 : Int32))) fun s106 =>
                  k_nm (v7_62 + (1 : Int32)) fun y109 =>
                  g62 (y109, s106)))) 100000 ((0 : Int32), σ))
          (some ((-1 : Int32), σ)))
        (k_bd (f_X12_byteOf x1 x2 x3 x4 x5 v7_6) fun v24 =>
        k_if (v24 = (0 : Int32))
          (k_nm ((v6_6 + (0 : Int32))) fun y36 =>
          k_nm (v7_6 + (1 : Int32)) fun y38 =>
          g6 (y36, y38))
          (k_nm ((v6_6 + (1 : Int32))) fun y36 =>
          k_nm (v7_6 + (1 : Int32)) fun y38 =>
          g6 (y36, y38)))) 100000 ((0 : Int32), (0 : Int32))
set_option maxHeartbeats 4000000 in
set_option maxRecDepth 100000 in
theorem e_X12_feed {l : Launch} {w : k_WC} {d : Nat} (hd : 3 ≤ d) {x1 : Int32} {x2 : Int32} {x3 : Int32} {x4 : Int32} {x5 : Int32}  {σ σ' : k_St} {r : Int32} (h : f_X12_feed x1 x2 x3 x4 x5 σ = some (r, σ')) : k_EI l (k_PM w) yX12_feed cX12_feed 9 (some .int) d [.ref (w.2.1 0), .int x1, .int x2, .int x3, .int x4, .int x5] σ r σ' := by
  refine k_of (own := RX12) rfl (by decide) (Nat.le_of_ble_eq_true rfl) (fun X hX C hr => ?_)
  show k_K (k_PM w) X (k_MQ X (k_Qi (k_PM w) r σ') (k_PM w).2.2.1) 0 [(0, .ref (w.2.1 0)), (1, .int x1), (2, .int x2), (3, .int x3), (4, .int x4), (5, .int x5)] [] σ
  unfold f_X12_feed at h
  refine k_iconst C dX12_feed_0 (v := 0) rfl ?_
  refine k_istore C dX12_feed_1 (by decide) [1, 2, 3, 4, 5, 6, 0] (L' := [(0, .ref (w.2.1 0)), (1, .int x1), (2, .int x2), (3, .int x3), (4, .int x4), (5, .int x5), (6, .int (0 : Int32))]) rfl ?_
  refine k_iconst C dX12_feed_3 (v := 0) rfl ?_
  refine k_istore C dX12_feed_4 (by decide) [1, 2, 3, 4, 5, 6, 7, 0] (L' := [(0, .ref (w.2.1 0)), (1, .int x1), (2, .int x2), (3, .int x3), (4, .int x4), (5, .int x5), (6, .int (0 : Int32)), (7, .int (0 : Int32))]) rfl ?_
  obtain ⟨b6, eb6, h⟩ := k_lp_e h
  have K6 : ∀ (n : Nat) (v6_6 : Int32) (v7_6 : Int32), k_loop b6 n (v6_6, v7_6) = some (r, σ') → k_K (k_PM w) X (k_MQ X (k_Qi (k_PM w) r σ') (k_PM w).2.2.1) 6 [(0, .ref (w.2.1 0)), (1, .int x1), (2, .int x2), (3, .int x3), (4, .int x4), (5, .int x5), (6, .int v6_6), (7, .int v7_6)] [] σ := by
    intro n
    induction n with
    | zero => intro v6_6 v7_6 h; cases h
    | succ n ih6 =>
      intro v6_6 v7_6 h
      obtain ⟨g6, eg6, h⟩ := k_lp_s h
      rw [← eg6] at ih6
      rw [eb6] at h
      refine k_iload C dX12_feed_6 7 rfl ?_
      refine k_bipush C dX12_feed_8 (v := 20) rfl ?_
      refine k_icmp_ge C dX12_feed_10 (tgt := 44) (by decide) (fun c10 => ?_) (fun c10 => ?_)
      · replace h := k_if_t h c10
        refine k_aload_n C dX12_feed_44 0 rfl ?_
        refine k_get C dX12_feed_45 (k_gM0_2 w) k_fX12_161 (Or.inl rfl) ?_
        refine k_iload C dX12_feed_48 6 rfl ?_
        refine k_iadd C dX12_feed_50 ?_
        refine k_sipush C dX12_feed_51 (v := 160) rfl ?_
        refine k_icmp_le C dX12_feed_54 (tgt := 59) (by decide) (fun c54 => ?_) (fun c54 => ?_)
        · replace h := k_if_t h c54
          refine k_iconst C dX12_feed_59 (v := 0) rfl ?_
          refine k_istore C dX12_feed_60 (by decide) [1, 2, 3, 4, 5, 6, 7, 0] (L' := [(0, .ref (w.2.1 0)), (1, .int x1), (2, .int x2), (3, .int x3), (4, .int x4), (5, .int x5), (6, .int v6_6), (7, .int (0 : Int32))]) rfl ?_
          obtain ⟨b62, eb62, h⟩ := k_lp_e h
          have K62 : ∀ (n : Nat) (v7_62 : Int32) (s_62 : k_St), k_loop b62 n (v7_62, s_62) = some (r, σ') → k_K (k_PM w) X (k_MQ X (k_Qi (k_PM w) r σ') (k_PM w).2.2.1) 62 [(0, .ref (w.2.1 0)), (1, .int x1), (2, .int x2), (3, .int x3), (4, .int x4), (5, .int x5), (7, .int v7_62)] [] s_62 := by
            intro n
            induction n with
            | zero => intro v7_62 s_62 h; cases h
            | succ n ih62 =>
              intro v7_62 s_62 h
              obtain ⟨g62, eg62, h⟩ := k_lp_s h
              rw [← eg62] at ih62
              rw [eb62] at h
              refine k_iload C dX12_feed_62 6 rfl ?_
              refine k_bipush C dX12_feed_64 (v := 20) rfl ?_
              refine k_icmp_ge C dX12_feed_66 (tgt := 115) (by decide) (fun c66 => ?_) (fun c66 => ?_)
              · replace h := k_if_t h c66
                refine k_aload_n C dX12_feed_115 0 rfl ?_
                refine k_get C dX12_feed_116 (k_gM0_2 w) k_fX12_161 (Or.inl rfl) ?_
                exact k_iret C dX12_feed_119 hr (Option.some.inj h)
              · replace h := k_if_f h c66
                refine k_iload_n C dX12_feed_69 1 rfl ?_
                refine k_iload_n C dX12_feed_70 2 rfl ?_
                refine k_iload_n C dX12_feed_71 3 rfl ?_
                refine k_iload C dX12_feed_72 4 rfl ?_
                refine k_iload C dX12_feed_74 5 rfl ?_
                refine k_iload C dX12_feed_76 6 rfl ?_
                obtain ⟨v78, h78, h⟩ := k_bd_e h
                refine k_goI (k_runS C dX12_feed_78 (e_X12_byteOf (d := 2) (Nat.le_refl _) h78) k_lX12_157 k_yX12_byteOf (by omega) rfl (Nat.le_of_ble_eq_true rfl)) ?_
                refine k_istore C dX12_feed_81 (by decide) [1, 2, 3, 4, 5, 6, 7, 0] (L' := [(0, .ref (w.2.1 0)), (1, .int x1), (2, .int x2), (3, .int x3), (4, .int x4), (5, .int x5), (7, .int v7_62), (8, .int v78)]) rfl ?_
                refine k_iload C dX12_feed_83 7 rfl ?_
                refine k_if_eq C dX12_feed_85 (tgt := 109) (by decide) (fun c85 => ?_) (fun c85 => ?_)
                · replace h := k_if_t h c85
                  refine k_iinc C dX12_feed_109 6 rfl (v := 1) rfl (by decide) [1, 2, 3, 4, 5, 6, 0, 7] (L' := fun z9 => [(0, .ref (w.2.1 0)), (1, .int x1), (2, .int x2), (3, .int x3), (4, .int x4), (5, .int x5), (7, .int z9), (8, .int v78)]) (fun z9 => rfl) (fun y109 ey109 => ?_)
                  replace h := k_nm_e h y109 ey109
                  refine k_goto C dX12_feed_112 (tgt := 62) (by decide) ?_
                  refine k_sub (L' := [(0, .ref (w.2.1 0)), (1, .int x1), (2, .int x2), (3, .int x3), (4, .int x4), (5, .int x5), (7, .int y109)]) [0, 1, 2, 3, 4, 5, 6] rfl ?_
                  exact ih62 _ _ h
                · replace h := k_if_f h c85
                  refine k_aload_n C dX12_feed_88 0 rfl ?_
                  refine k_get C dX12_feed_89 (k_gM0_1 w) k_fX12_9 (Or.inl rfl) ?_
                  refine k_aload_n C dX12_feed_92 0 rfl ?_
                  refine k_get C dX12_feed_93 (k_gM0_2 w) k_fX12_161 (Or.inl rfl) ?_
                  refine k_iload C dX12_feed_96 7 rfl ?_
                  obtain ⟨q98, h⟩ := k_gd_e h
                  refine k_iast C dX12_feed_98 (k_aM1 w) q98 ?_
                  refine k_st (fun s98 es98 => ?_)
                  replace h := k_nm_e h s98 es98
                  refine k_aload_n C dX12_feed_99 0 rfl ?_
                  refine k_dup C dX12_feed_100 rfl ?_
                  refine k_get C dX12_feed_101 (k_gM0_2 w) k_fX12_161 (Or.inl rfl) ?_
                  refine k_iconst C dX12_feed_104 (v := 1) rfl ?_
                  refine k_iadd C dX12_feed_105 ?_
                  refine k_puti C dX12_feed_106 (k_pM0_2 w) k_fX12_161 (Or.inl rfl) k_xi ?_
                  refine k_st (fun s106 es106 => ?_)
                  replace h := k_nm_e h s106 es106
                  refine k_iinc C dX12_feed_109 6 rfl (v := 1) rfl (by decide) [1, 2, 3, 4, 5, 6, 0, 7] (L' := fun z9 => [(0, .ref (w.2.1 0)), (1, .int x1), (2, .int x2), (3, .int x3), (4, .int x4), (5, .int x5), (7, .int z9), (8, .int v78)]) (fun z9 => rfl) (fun y109 ey109 => ?_)
                  replace h := k_nm_e h y109 ey109
                  refine k_goto C dX12_feed_112 (tgt := 62) (by decide) ?_
                  refine k_sub (L' := [(0, .ref (w.2.1 0)), (1, .int x1), (2, .int x2), (3, .int x3), (4, .int x4), (5, .int x5), (7, .int y109)]) [0, 1, 2, 3, 4, 5, 6] rfl ?_
                  exact ih62 _ _ h
          refine k_sub (L' := [(0, .ref (w.2.1 0)), (1, .int x1), (2, .int x2), (3, .int x3), (4, .int x4), (5, .int x5), (7, .int (0 : Int32))]) [0, 1, 2, 3, 4, 5, 7] rfl ?_
          exact K62 _ _ _ h
        · replace h := k_if_f h c54
          refine k_iconst C dX12_feed_57 (v := -1) rfl ?_
          exact k_iret C dX12_feed_58 hr (Option.some.inj h)
      · replace h := k_if_f h c10
        refine k_iload C dX12_feed_13 6 rfl ?_
        refine k_iload_n C dX12_feed_15 1 rfl ?_
        refine k_iload_n C dX12_feed_16 2 rfl ?_
        refine k_iload_n C dX12_feed_17 3 rfl ?_
        refine k_iload C dX12_feed_18 4 rfl ?_
        refine k_iload C dX12_feed_20 5 rfl ?_
        refine k_iload C dX12_feed_22 7 rfl ?_
        obtain ⟨v24, h24, h⟩ := k_bd_e h
        refine k_goI (k_runS C dX12_feed_24 (e_X12_byteOf (d := 2) (Nat.le_refl _) h24) k_lX12_157 k_yX12_byteOf (by omega) rfl (Nat.le_of_ble_eq_true rfl)) ?_
        refine k_if_eq C dX12_feed_27 (tgt := 34) (by decide) (fun c27 => ?_) (fun c27 => ?_)
        · replace h := k_if_t h c27
          refine k_iconst C dX12_feed_34 (v := 0) rfl ?_
          refine k_iadd C dX12_feed_35 ?_
          refine k_topi (fun y36 ey36 => ?_)
          replace h := k_nm_e h y36 ey36
          refine k_istore C dX12_feed_36 (by decide) [1, 2, 3, 4, 5, 6, 0, 7] (L' := [(0, .ref (w.2.1 0)), (1, .int x1), (2, .int x2), (3, .int x3), (4, .int x4), (5, .int x5), (6, .int y36), (7, .int v7_6)]) rfl ?_
          refine k_iinc C dX12_feed_38 7 rfl (v := 1) rfl (by decide) [1, 2, 3, 4, 5, 6, 7, 0] (L' := fun z9 => [(0, .ref (w.2.1 0)), (1, .int x1), (2, .int x2), (3, .int x3), (4, .int x4), (5, .int x5), (6, .int y36), (7, .int z9)]) (fun z9 => rfl) (fun y38 ey38 => ?_)
          replace h := k_nm_e h y38 ey38
          refine k_goto C dX12_feed_41 (tgt := 6) (by decide) ?_
          exact ih6 _ _ h
        · replace h := k_if_f h c27
          refine k_iconst C dX12_feed_30 (v := 1) rfl ?_
          refine k_goto C dX12_feed_31 (tgt := 35) (by decide) ?_
          refine k_iadd C dX12_feed_35 ?_
          refine k_topi (fun y36 ey36 => ?_)
          replace h := k_nm_e h y36 ey36
          refine k_istore C dX12_feed_36 (by decide) [1, 2, 3, 4, 5, 6, 0, 7] (L' := [(0, .ref (w.2.1 0)), (1, .int x1), (2, .int x2), (3, .int x3), (4, .int x4), (5, .int x5), (6, .int y36), (7, .int v7_6)]) rfl ?_
          refine k_iinc C dX12_feed_38 7 rfl (v := 1) rfl (by decide) [1, 2, 3, 4, 5, 6, 7, 0] (L' := fun z9 => [(0, .ref (w.2.1 0)), (1, .int x1), (2, .int x2), (3, .int x3), (4, .int x4), (5, .int x5), (6, .int y36), (7, .int z9)]) (fun z9 => rfl) (fun y38 ey38 => ?_)
          replace h := k_nm_e h y38 ey38
          refine k_goto C dX12_feed_41 (tgt := 6) (by decide) ?_
          exact ih6 _ _ h
  exact K6 _ _ _ h
def f_X12_end (x1 : Int32) (σ : k_St) : Option (Int32 × k_St) :=
  k_if (x1 < (0 : Int32))
    (some ((0 : Int32), σ))
    (k_if (x1 ≤ (k_rd σ 0 2))
      (k_nm (k_wr σ 0 2 x1) fun s16 =>
      some ((1 : Int32), s16))
      (some ((0 : Int32), σ)))
set_option maxHeartbeats 4000000 in
set_option maxRecDepth 100000 in
theorem e_X12_end {l : Launch} {w : k_WC} {d : Nat} (hd : 2 ≤ d) {x1 : Int32}  {σ σ' : k_St} {r : Int32} (h : f_X12_end x1 σ = some (r, σ')) : k_EI l (k_PM w) yX12_end cX12_end 2 (some .boolean) d [.ref (w.2.1 0), .int x1] σ r σ' := by
  refine k_of (own := RX12) rfl (by decide) (Nat.le_of_ble_eq_true rfl) (fun X hX C hr => ?_)
  show k_K (k_PM w) X (k_MQ X (k_Qi (k_PM w) r σ') (k_PM w).2.2.1) 0 [(0, .ref (w.2.1 0)), (1, .int x1)] [] σ
  unfold f_X12_end at h
  refine k_iload_n C dX12_end_0 1 rfl ?_
  refine k_if_lt C dX12_end_1 (tgt := 12) (by decide) (fun c1 => ?_) (fun c1 => ?_)
  · replace h := k_if_t h c1
    refine k_iconst C dX12_end_12 (v := 0) rfl ?_
    exact k_zret C dX12_end_13 hr rfl (Option.some.inj h)
  · replace h := k_if_f h c1
    refine k_iload_n C dX12_end_4 1 rfl ?_
    refine k_aload_n C dX12_end_5 0 rfl ?_
    refine k_get C dX12_end_6 (k_gM0_2 w) k_fX12_161 (Or.inl rfl) ?_
    refine k_icmp_le C dX12_end_9 (tgt := 14) (by decide) (fun c9 => ?_) (fun c9 => ?_)
    · replace h := k_if_t h c9
      refine k_aload_n C dX12_end_14 0 rfl ?_
      refine k_iload_n C dX12_end_15 1 rfl ?_
      refine k_puti C dX12_end_16 (k_pM0_2 w) k_fX12_161 (Or.inl rfl) k_xi ?_
      refine k_st (fun s16 es16 => ?_)
      replace h := k_nm_e h s16 es16
      refine k_iconst C dX12_end_19 (v := 1) rfl ?_
      exact k_zret C dX12_end_20 hr rfl (Option.some.inj h)
    · replace h := k_if_f h c9
      refine k_iconst C dX12_end_12 (v := 0) rfl ?_
      exact k_zret C dX12_end_13 hr rfl (Option.some.inj h)
def f_X12_here  (σ : k_St) : Option (Int32) :=
  k_if ((k_rd σ 0 2) ≤ (k_rd σ 0 3))
    (some (-1 : Int32))
    (k_gd (k_ix (k_rd σ 0 3) 160 = true) <|
    some (k_rd σ 1 (k_rd σ 0 3).toNatClampNeg))
set_option maxHeartbeats 4000000 in
set_option maxRecDepth 100000 in
theorem e_X12_here {l : Launch} {w : k_WC} {d : Nat} (hd : 2 ≤ d)   {σ : k_St} {r : Int32} (h : f_X12_here σ = some r) : k_EI l (k_PM w) yX12_here cX12_here 1 (some .int) d [.ref (w.2.1 0)] σ r σ := by
  refine k_of (own := RX12) rfl (by decide) (Nat.le_of_ble_eq_true rfl) (fun X hX C hr => ?_)
  show k_K (k_PM w) X (k_MQ X (k_Qi (k_PM w) r σ) (k_PM w).2.2.1) 0 [(0, .ref (w.2.1 0))] [] σ
  unfold f_X12_here at h
  refine k_aload_n C dX12_here_0 0 rfl ?_
  refine k_get C dX12_here_1 (k_gM0_3 w) k_fX12_164 (Or.inl rfl) ?_
  refine k_aload_n C dX12_here_4 0 rfl ?_
  refine k_get C dX12_here_5 (k_gM0_2 w) k_fX12_161 (Or.inl rfl) ?_
  refine k_icmp_ge C dX12_here_8 (tgt := 23) (by decide) (fun c8 => ?_) (fun c8 => ?_)
  · replace h := k_if_t h c8
    refine k_iconst C dX12_here_23 (v := -1) rfl ?_
    exact k_iret C dX12_here_24 hr (k_p1 h)
  · replace h := k_if_f h c8
    refine k_aload_n C dX12_here_11 0 rfl ?_
    refine k_get C dX12_here_12 (k_gM0_1 w) k_fX12_9 (Or.inl rfl) ?_
    refine k_aload_n C dX12_here_15 0 rfl ?_
    refine k_get C dX12_here_16 (k_gM0_3 w) k_fX12_164 (Or.inl rfl) ?_
    obtain ⟨q19, h⟩ := k_gd_e h
    refine k_iald C dX12_here_19 (k_aM1 w) q19 ?_
    refine k_goto C dX12_here_20 (tgt := 24) (by decide) ?_
    exact k_iret C dX12_here_24 hr (k_p1 h)
def f_X12_look  (σ : k_St) : Option (Int32 × k_St) :=
  k_loop (fun (g0 : k_St → Option (Int32 × k_St)) (z0 : k_St) => match z0 with
    | s_0 =>
      k_bd (f_X12_here s_0) fun v1 =>
      k_if (v1 = (32 : Int32))
        (k_nm (k_wr s_0 0 3 ((k_rd s_0 0 3) + (1 : Int32))) fun s16 =>
        g0 s16)
        (k_bd (f_X12_here s_0) fun v23 =>
        some (v23, s_0))) 100000 σ
set_option maxHeartbeats 4000000 in
set_option maxRecDepth 100000 in
theorem e_X12_look {l : Launch} {w : k_WC} {d : Nat} (hd : 3 ≤ d)   {σ σ' : k_St} {r : Int32} (h : f_X12_look σ = some (r, σ')) : k_EI l (k_PM w) yX12_look cX12_look 1 (some .int) d [.ref (w.2.1 0)] σ r σ' := by
  refine k_of (own := RX12) rfl (by decide) (Nat.le_of_ble_eq_true rfl) (fun X hX C hr => ?_)
  show k_K (k_PM w) X (k_MQ X (k_Qi (k_PM w) r σ') (k_PM w).2.2.1) 0 [(0, .ref (w.2.1 0))] [] σ
  unfold f_X12_look at h
  obtain ⟨b0, eb0, h⟩ := k_lp_e h
  have K0 : ∀ (n : Nat) (s_0 : k_St), k_loop b0 n s_0 = some (r, σ') → k_K (k_PM w) X (k_MQ X (k_Qi (k_PM w) r σ') (k_PM w).2.2.1) 0 [(0, .ref (w.2.1 0))] [] s_0 := by
    intro n
    induction n with
    | zero => intro s_0 h; cases h
    | succ n ih0 =>
      intro s_0 h
      obtain ⟨g0, eg0, h⟩ := k_lp_s h
      rw [← eg0] at ih0
      rw [eb0] at h
      refine k_aload_n C dX12_look_0 0 rfl ?_
      obtain ⟨v1, h1, h⟩ := k_bd_e h
      refine k_goI (k_runV C dX12_look_1 (e_X12_here (d := 2) (Nat.le_refl _) h1) k_lX12_167 k_yX12_here (k_oM0 w) (by omega) rfl (Nat.le_of_ble_eq_true rfl)) ?_
      refine k_bipush C dX12_look_4 (v := 32) rfl ?_
      refine k_icmp_ne C dX12_look_6 (tgt := 22) (by decide) (fun c6 => ?_) (fun c6 => ?_)
      · replace h := k_if_f h c6
        refine k_aload_n C dX12_look_22 0 rfl ?_
        obtain ⟨v23, h23, h⟩ := k_bd_e h
        refine k_goI (k_runV C dX12_look_23 (e_X12_here (d := 2) (Nat.le_refl _) h23) k_lX12_167 k_yX12_here (k_oM0 w) (by omega) rfl (Nat.le_of_ble_eq_true rfl)) ?_
        exact k_iret C dX12_look_26 hr (Option.some.inj h)
      · replace h := k_if_t h c6
        refine k_aload_n C dX12_look_9 0 rfl ?_
        refine k_dup C dX12_look_10 rfl ?_
        refine k_get C dX12_look_11 (k_gM0_3 w) k_fX12_164 (Or.inl rfl) ?_
        refine k_iconst C dX12_look_14 (v := 1) rfl ?_
        refine k_iadd C dX12_look_15 ?_
        refine k_puti C dX12_look_16 (k_pM0_3 w) k_fX12_164 (Or.inl rfl) k_xi ?_
        refine k_st (fun s16 es16 => ?_)
        replace h := k_nm_e h s16 es16
        refine k_goto C dX12_look_19 (tgt := 0) (by decide) ?_
        exact ih0 _ h
  exact K0 _ _ h
def f_X12_bad  (σ : k_St) : Option (k_St) :=
  k_if ((k_rd σ 0 4) = (-1 : Int32))
    (k_nm (k_wr σ 0 4 (k_rd σ 0 3)) fun s20 =>
    some s20)
    (k_nm (k_wr σ 0 4 (k_rd σ 0 4)) fun s20 =>
    some s20)
set_option maxHeartbeats 4000000 in
set_option maxRecDepth 100000 in
theorem e_X12_bad {l : Launch} {w : k_WC} {d : Nat} (hd : 2 ≤ d)   {σ σ' : k_St} (h : f_X12_bad σ = some σ') : k_EV l (k_PM w) yX12_bad cX12_bad 1 d [.ref (w.2.1 0)] σ σ' := by
  refine k_of (own := RX12) rfl (by decide) (Nat.le_of_ble_eq_true rfl) (fun X hX C hr => ?_)
  show k_K (k_PM w) X (k_MQ X (k_Qv (k_PM w) σ') (k_PM w).2.2.1) 0 [(0, .ref (w.2.1 0))] [] σ
  unfold f_X12_bad at h
  refine k_aload_n C dX12_bad_0 0 rfl ?_
  refine k_aload_n C dX12_bad_1 0 rfl ?_
  refine k_get C dX12_bad_2 (k_gM0_4 w) k_fX12_171 (Or.inl rfl) ?_
  refine k_iconst C dX12_bad_5 (v := -1) rfl ?_
  refine k_icmp_ne C dX12_bad_6 (tgt := 16) (by decide) (fun c6 => ?_) (fun c6 => ?_)
  · replace h := k_if_f h c6
    refine k_aload_n C dX12_bad_16 0 rfl ?_
    refine k_get C dX12_bad_17 (k_gM0_4 w) k_fX12_171 (Or.inl rfl) ?_
    refine k_puti C dX12_bad_20 (k_pM0_4 w) k_fX12_171 (Or.inl rfl) k_xi ?_
    refine k_st (fun s20 es20 => ?_)
    replace h := k_nm_e h s20 es20
    exact k_vret C dX12_bad_23 hr (Option.some.inj h)
  · replace h := k_if_t h c6
    refine k_aload_n C dX12_bad_9 0 rfl ?_
    refine k_get C dX12_bad_10 (k_gM0_3 w) k_fX12_164 (Or.inl rfl) ?_
    refine k_goto C dX12_bad_13 (tgt := 20) (by decide) ?_
    refine k_puti C dX12_bad_20 (k_pM0_4 w) k_fX12_171 (Or.inl rfl) k_xi ?_
    refine k_st (fun s20 es20 => ?_)
    replace h := k_nm_e h s20 es20
    exact k_vret C dX12_bad_23 hr (Option.some.inj h)
def f_X12_isDigit (x0 : Int32) : Option (Int32) :=
  k_if (x0 < (48 : Int32))
    (some (0 : Int32))
    (k_if ((57 : Int32) < x0)
      (some (0 : Int32))
      (some (1 : Int32)))
set_option maxHeartbeats 4000000 in
set_option maxRecDepth 100000 in
theorem e_X12_isDigit {l : Launch} {w : k_WC} {d : Nat} (hd : 2 ≤ d) {x0 : Int32}  {σ : k_St} {r : Int32} (h : f_X12_isDigit x0 = some r) : k_EI l (k_PM w) yX12_isDigit cX12_isDigit 1 (some .boolean) d [.int x0] σ r σ := by
  refine k_of (own := RX12) rfl (by decide) (Nat.le_of_ble_eq_true rfl) (fun X hX C hr => ?_)
  show k_K (k_PM w) X (k_MQ X (k_Qi (k_PM w) r σ) (k_PM w).2.2.1) 0 [(0, .int x0)] [] σ
  unfold f_X12_isDigit at h
  refine k_iload_n C dX12_isDigit_0 0 rfl ?_
  refine k_bipush C dX12_isDigit_1 (v := 48) rfl ?_
  refine k_icmp_lt C dX12_isDigit_3 (tgt := 16) (by decide) (fun c3 => ?_) (fun c3 => ?_)
  · replace h := k_if_t h c3
    refine k_iconst C dX12_isDigit_16 (v := 0) rfl ?_
    exact k_zret C dX12_isDigit_17 hr rfl (k_p1 h)
  · replace h := k_if_f h c3
    refine k_iload_n C dX12_isDigit_6 0 rfl ?_
    refine k_bipush C dX12_isDigit_7 (v := 57) rfl ?_
    refine k_icmp_gt C dX12_isDigit_9 (tgt := 16) (by decide) (fun c9 => ?_) (fun c9 => ?_)
    · replace h := k_if_t h c9
      refine k_iconst C dX12_isDigit_16 (v := 0) rfl ?_
      exact k_zret C dX12_isDigit_17 hr rfl (k_p1 h)
    · replace h := k_if_f h c9
      refine k_iconst C dX12_isDigit_12 (v := 1) rfl ?_
      refine k_goto C dX12_isDigit_13 (tgt := 17) (by decide) ?_
      exact k_zret C dX12_isDigit_17 hr rfl (k_p1 h)
def f_X12_put (x1 : Int32) (x2 : Int32) (σ : k_St) : Option (k_St) :=
  k_gd (k_ix (k_rd σ 0 14) 5 = true) <|
  k_gd (k_ix (((340 : Int32) * (k_rd σ 0 14)) + (k_rd σ 4 (k_rd σ 0 14).toNatClampNeg)) 1700 = true) <|
  k_nm (k_wr σ 2 (((340 : Int32) * (k_rd σ 0 14)) + (k_rd σ 4 (k_rd σ 0 14).toNatClampNeg)).toNatClampNeg x1) fun s23 =>
  k_gd (k_ix (k_rd s23 0 14) 5 = true) <|
  k_gd (k_ix (((340 : Int32) * (k_rd s23 0 14)) + (k_rd s23 4 (k_rd s23 0 14).toNatClampNeg)) 1700 = true) <|
  k_nm (k_wr s23 3 (((340 : Int32) * (k_rd s23 0 14)) + (k_rd s23 4 (k_rd s23 0 14).toNatClampNeg)).toNatClampNeg x2) fun s47 =>
  k_nm ((k_rd s47 0 14)) fun y56 =>
  k_gd (k_ix y56 5 = true) <|
  k_gd (k_ix y56 5 = true) <|
  k_nm (k_wr s47 4 y56.toNatClampNeg ((k_rd s47 4 y56.toNatClampNeg) + (1 : Int32))) fun s60 =>
  some s60
set_option maxHeartbeats 4000000 in
set_option maxRecDepth 100000 in
theorem e_X12_put {l : Launch} {w : k_WC} {d : Nat} (hd : 2 ≤ d) {x1 : Int32} {x2 : Int32}  {σ σ' : k_St} (h : f_X12_put x1 x2 σ = some σ') : k_EV l (k_PM w) yX12_put cX12_put 3 d [.ref (w.2.1 0), .int x1, .int x2] σ σ' := by
  refine k_of (own := RX12) rfl (by decide) (Nat.le_of_ble_eq_true rfl) (fun X hX C hr => ?_)
  show k_K (k_PM w) X (k_MQ X (k_Qv (k_PM w) σ') (k_PM w).2.2.1) 0 [(0, .ref (w.2.1 0)), (1, .int x1), (2, .int x2)] [] σ
  unfold f_X12_put at h
  refine k_aload_n C dX12_put_0 0 rfl ?_
  refine k_get C dX12_put_1 (k_gM0_6 w) k_fX12_13 (Or.inl rfl) ?_
  refine k_sipush C dX12_put_4 (v := 340) rfl ?_
  refine k_aload_n C dX12_put_7 0 rfl ?_
  refine k_get C dX12_put_8 (k_gM0_14 w) k_fX12_174 (Or.inl rfl) ?_
  refine k_imul C dX12_put_11 ?_
  refine k_aload_n C dX12_put_12 0 rfl ?_
  refine k_get C dX12_put_13 (k_gM0_8 w) k_fX12_19 (Or.inl rfl) ?_
  refine k_aload_n C dX12_put_16 0 rfl ?_
  refine k_get C dX12_put_17 (k_gM0_14 w) k_fX12_174 (Or.inl rfl) ?_
  obtain ⟨q20, h⟩ := k_gd_e h
  refine k_iald C dX12_put_20 (k_aM4 w) q20 ?_
  refine k_iadd C dX12_put_21 ?_
  refine k_iload_n C dX12_put_22 1 rfl ?_
  obtain ⟨q23, h⟩ := k_gd_e h
  refine k_iast C dX12_put_23 (k_aM2 w) q23 ?_
  refine k_st (fun s23 es23 => ?_)
  replace h := k_nm_e h s23 es23
  refine k_aload_n C dX12_put_24 0 rfl ?_
  refine k_get C dX12_put_25 (k_gM0_7 w) k_fX12_16 (Or.inl rfl) ?_
  refine k_sipush C dX12_put_28 (v := 340) rfl ?_
  refine k_aload_n C dX12_put_31 0 rfl ?_
  refine k_get C dX12_put_32 (k_gM0_14 w) k_fX12_174 (Or.inl rfl) ?_
  refine k_imul C dX12_put_35 ?_
  refine k_aload_n C dX12_put_36 0 rfl ?_
  refine k_get C dX12_put_37 (k_gM0_8 w) k_fX12_19 (Or.inl rfl) ?_
  refine k_aload_n C dX12_put_40 0 rfl ?_
  refine k_get C dX12_put_41 (k_gM0_14 w) k_fX12_174 (Or.inl rfl) ?_
  obtain ⟨q44, h⟩ := k_gd_e h
  refine k_iald C dX12_put_44 (k_aM4 w) q44 ?_
  refine k_iadd C dX12_put_45 ?_
  refine k_iload_n C dX12_put_46 2 rfl ?_
  obtain ⟨q47, h⟩ := k_gd_e h
  refine k_iast C dX12_put_47 (k_aM3 w) q47 ?_
  refine k_st (fun s47 es47 => ?_)
  replace h := k_nm_e h s47 es47
  refine k_aload_n C dX12_put_48 0 rfl ?_
  refine k_get C dX12_put_49 (k_gM0_8 w) k_fX12_19 (Or.inl rfl) ?_
  refine k_aload_n C dX12_put_52 0 rfl ?_
  refine k_get C dX12_put_53 (k_gM0_14 w) k_fX12_174 (Or.inl rfl) ?_
  refine k_topi (fun y56 ey56 => ?_)
  replace h := k_nm_e h y56 ey56
  refine k_dup2 C dX12_put_56 rfl rfl ?_
  obtain ⟨q57, h⟩ := k_gd_e h
  refine k_iald C dX12_put_57 (k_aM4 w) q57 ?_
  refine k_iconst C dX12_put_58 (v := 1) rfl ?_
  refine k_iadd C dX12_put_59 ?_
  obtain ⟨q60, h⟩ := k_gd_e h
  refine k_iast C dX12_put_60 (k_aM4 w) q60 ?_
  refine k_st (fun s60 es60 => ?_)
  replace h := k_nm_e h s60 es60
  exact k_vret C dX12_put_61 hr (Option.some.inj h)
def f_X12_letterOf (x0 : Int32) : Option (Int32) :=
  k_if (x0 = (102 : Int32))
    (some (0 : Int32))
    (k_if (x0 = (112 : Int32))
      (some (1 : Int32))
      (k_if (x0 = (115 : Int32))
        (some (2 : Int32))
        (k_if (x0 = (108 : Int32))
          (some (3 : Int32))
          (k_if (x0 = (119 : Int32))
            (some (4 : Int32))
            (some (-1 : Int32))))))
set_option maxHeartbeats 4000000 in
set_option maxRecDepth 100000 in
theorem e_X12_letterOf {l : Launch} {w : k_WC} {d : Nat} (hd : 2 ≤ d) {x0 : Int32}  {σ : k_St} {r : Int32} (h : f_X12_letterOf x0 = some r) : k_EI l (k_PM w) yX12_letterOf cX12_letterOf 1 (some .int) d [.int x0] σ r σ := by
  refine k_of (own := RX12) rfl (by decide) (Nat.le_of_ble_eq_true rfl) (fun X hX C hr => ?_)
  show k_K (k_PM w) X (k_MQ X (k_Qi (k_PM w) r σ) (k_PM w).2.2.1) 0 [(0, .int x0)] [] σ
  unfold f_X12_letterOf at h
  refine k_iload_n C dX12_letterOf_0 0 rfl ?_
  refine k_bipush C dX12_letterOf_1 (v := 102) rfl ?_
  refine k_icmp_ne C dX12_letterOf_3 (tgt := 10) (by decide) (fun c3 => ?_) (fun c3 => ?_)
  · replace h := k_if_f h c3
    refine k_iload_n C dX12_letterOf_10 0 rfl ?_
    refine k_bipush C dX12_letterOf_11 (v := 112) rfl ?_
    refine k_icmp_ne C dX12_letterOf_13 (tgt := 20) (by decide) (fun c13 => ?_) (fun c13 => ?_)
    · replace h := k_if_f h c13
      refine k_iload_n C dX12_letterOf_20 0 rfl ?_
      refine k_bipush C dX12_letterOf_21 (v := 115) rfl ?_
      refine k_icmp_ne C dX12_letterOf_23 (tgt := 30) (by decide) (fun c23 => ?_) (fun c23 => ?_)
      · replace h := k_if_f h c23
        refine k_iload_n C dX12_letterOf_30 0 rfl ?_
        refine k_bipush C dX12_letterOf_31 (v := 108) rfl ?_
        refine k_icmp_ne C dX12_letterOf_33 (tgt := 40) (by decide) (fun c33 => ?_) (fun c33 => ?_)
        · replace h := k_if_f h c33
          refine k_iload_n C dX12_letterOf_40 0 rfl ?_
          refine k_bipush C dX12_letterOf_41 (v := 119) rfl ?_
          refine k_icmp_ne C dX12_letterOf_43 (tgt := 50) (by decide) (fun c43 => ?_) (fun c43 => ?_)
          · replace h := k_if_f h c43
            refine k_iconst C dX12_letterOf_50 (v := -1) rfl ?_
            exact k_iret C dX12_letterOf_51 hr (k_p1 h)
          · replace h := k_if_t h c43
            refine k_iconst C dX12_letterOf_46 (v := 4) rfl ?_
            refine k_goto C dX12_letterOf_47 (tgt := 51) (by decide) ?_
            exact k_iret C dX12_letterOf_51 hr (k_p1 h)
        · replace h := k_if_t h c33
          refine k_iconst C dX12_letterOf_36 (v := 3) rfl ?_
          refine k_goto C dX12_letterOf_37 (tgt := 51) (by decide) ?_
          exact k_iret C dX12_letterOf_51 hr (k_p1 h)
      · replace h := k_if_t h c23
        refine k_iconst C dX12_letterOf_26 (v := 2) rfl ?_
        refine k_goto C dX12_letterOf_27 (tgt := 51) (by decide) ?_
        exact k_iret C dX12_letterOf_51 hr (k_p1 h)
    · replace h := k_if_t h c13
      refine k_iconst C dX12_letterOf_16 (v := 1) rfl ?_
      refine k_goto C dX12_letterOf_17 (tgt := 51) (by decide) ?_
      exact k_iret C dX12_letterOf_51 hr (k_p1 h)
  · replace h := k_if_t h c3
    refine k_iconst C dX12_letterOf_6 (v := 0) rfl ?_
    refine k_goto C dX12_letterOf_7 (tgt := 51) (by decide) ?_
    exact k_iret C dX12_letterOf_51 hr (k_p1 h)
def f_X12_opens  (σ : k_St) : Option (k_St) :=
  k_jn (fun (s_13 : k_St) =>
    k_nm (k_wr s_13 0 5 ((k_rd s_13 0 5) + (1 : Int32))) fun s20 =>
    k_nm (k_wr s20 0 3 ((k_rd s20 0 3) + (1 : Int32))) fun s30 =>
    some s30) fun j13 =>
  k_if ((k_rd σ 0 5) = (6 : Int32))
    (k_bd (f_X12_bad σ) fun s10 =>
    j13 s10)
    (j13 σ)
set_option maxHeartbeats 4000000 in
set_option maxRecDepth 100000 in
theorem e_X12_opens {l : Launch} {w : k_WC} {d : Nat} (hd : 3 ≤ d)   {σ σ' : k_St} (h : f_X12_opens σ = some σ') : k_EV l (k_PM w) yX12_opens cX12_opens 1 d [.ref (w.2.1 0)] σ σ' := by
  refine k_of (own := RX12) rfl (by decide) (Nat.le_of_ble_eq_true rfl) (fun X hX C hr => ?_)
  show k_K (k_PM w) X (k_MQ X (k_Qv (k_PM w) σ') (k_PM w).2.2.1) 0 [(0, .ref (w.2.1 0))] [] σ
  unfold f_X12_opens at h
  refine k_aload_n C dX12_opens_0 0 rfl ?_
  refine k_get C dX12_opens_1 (k_gM0_5 w) k_fX12_177 (Or.inl rfl) ?_
  refine k_bipush C dX12_opens_4 (v := 6) rfl ?_
  obtain ⟨j13, ej13, h⟩ := k_jn_e h
  have Jj13 : ∀ (s_13 : k_St), j13 s_13 = some σ' → k_K (k_PM w) X (k_MQ X (k_Qv (k_PM w) σ') (k_PM w).2.2.1) 13 [(0, .ref (w.2.1 0))] [] s_13 := by
    intro s_13 h
    rw [ej13] at h
    refine k_aload_n C dX12_opens_13 0 rfl ?_
    refine k_dup C dX12_opens_14 rfl ?_
    refine k_get C dX12_opens_15 (k_gM0_5 w) k_fX12_177 (Or.inl rfl) ?_
    refine k_iconst C dX12_opens_18 (v := 1) rfl ?_
    refine k_iadd C dX12_opens_19 ?_
    refine k_puti C dX12_opens_20 (k_pM0_5 w) k_fX12_177 (Or.inl rfl) k_xi ?_
    refine k_st (fun s20 es20 => ?_)
    replace h := k_nm_e h s20 es20
    refine k_aload_n C dX12_opens_23 0 rfl ?_
    refine k_dup C dX12_opens_24 rfl ?_
    refine k_get C dX12_opens_25 (k_gM0_3 w) k_fX12_164 (Or.inl rfl) ?_
    refine k_iconst C dX12_opens_28 (v := 1) rfl ?_
    refine k_iadd C dX12_opens_29 ?_
    refine k_puti C dX12_opens_30 (k_pM0_3 w) k_fX12_164 (Or.inl rfl) k_xi ?_
    refine k_st (fun s30 es30 => ?_)
    replace h := k_nm_e h s30 es30
    exact k_vret C dX12_opens_33 hr (Option.some.inj h)
  refine k_icmp_ne C dX12_opens_6 (tgt := 13) (by decide) (fun c6 => ?_) (fun c6 => ?_)
  · replace h := k_if_f h c6
    exact Jj13 _ h
  · replace h := k_if_t h c6
    refine k_aload_n C dX12_opens_9 0 rfl ?_
    obtain ⟨s10, h10, h⟩ := k_bd_e h
    refine k_goV (k_runV C dX12_opens_10 (e_X12_bad (d := 2) (Nat.le_refl _) h10) k_lX12_180 k_yX12_bad (k_oM0 w) (by omega) rfl (Nat.le_of_ble_eq_true rfl)) ?_
    exact Jj13 _ h
def f_X12_closes (x1 : Int32) (σ : k_St) : Option (k_St) :=
  k_jn (fun (s_20 : k_St) =>
    k_nm (k_wr s_20 0 3 ((k_rd s_20 0 3) + (1 : Int32))) fun s27 =>
    k_nm (k_wr s27 0 5 ((k_rd s27 0 5) - (1 : Int32))) fun s37 =>
    some s37) fun j20 =>
  k_if ((k_rd σ 0 4) = (-1 : Int32))
    (k_b2 (f_X12_look σ) fun v9 s9 =>
    k_if (v9 = x1)
      (j20 s9)
      (k_bd (f_X12_bad s9) fun s17 =>
      j20 s17))
    (j20 σ)
set_option maxHeartbeats 4000000 in
set_option maxRecDepth 100000 in
theorem e_X12_closes {l : Launch} {w : k_WC} {d : Nat} (hd : 4 ≤ d) {x1 : Int32}  {σ σ' : k_St} (h : f_X12_closes x1 σ = some σ') : k_EV l (k_PM w) yX12_closes cX12_closes 2 d [.ref (w.2.1 0), .int x1] σ σ' := by
  refine k_of (own := RX12) rfl (by decide) (Nat.le_of_ble_eq_true rfl) (fun X hX C hr => ?_)
  show k_K (k_PM w) X (k_MQ X (k_Qv (k_PM w) σ') (k_PM w).2.2.1) 0 [(0, .ref (w.2.1 0)), (1, .int x1)] [] σ
  unfold f_X12_closes at h
  refine k_aload_n C dX12_closes_0 0 rfl ?_
  refine k_get C dX12_closes_1 (k_gM0_4 w) k_fX12_171 (Or.inl rfl) ?_
  refine k_iconst C dX12_closes_4 (v := -1) rfl ?_
  obtain ⟨j20, ej20, h⟩ := k_jn_e h
  have Jj20 : ∀ (s_20 : k_St), j20 s_20 = some σ' → k_K (k_PM w) X (k_MQ X (k_Qv (k_PM w) σ') (k_PM w).2.2.1) 20 [(0, .ref (w.2.1 0))] [] s_20 := by
    intro s_20 h
    rw [ej20] at h
    refine k_aload_n C dX12_closes_20 0 rfl ?_
    refine k_dup C dX12_closes_21 rfl ?_
    refine k_get C dX12_closes_22 (k_gM0_3 w) k_fX12_164 (Or.inl rfl) ?_
    refine k_iconst C dX12_closes_25 (v := 1) rfl ?_
    refine k_iadd C dX12_closes_26 ?_
    refine k_puti C dX12_closes_27 (k_pM0_3 w) k_fX12_164 (Or.inl rfl) k_xi ?_
    refine k_st (fun s27 es27 => ?_)
    replace h := k_nm_e h s27 es27
    refine k_aload_n C dX12_closes_30 0 rfl ?_
    refine k_dup C dX12_closes_31 rfl ?_
    refine k_get C dX12_closes_32 (k_gM0_5 w) k_fX12_177 (Or.inl rfl) ?_
    refine k_iconst C dX12_closes_35 (v := 1) rfl ?_
    refine k_isub C dX12_closes_36 ?_
    refine k_puti C dX12_closes_37 (k_pM0_5 w) k_fX12_177 (Or.inl rfl) k_xi ?_
    refine k_st (fun s37 es37 => ?_)
    replace h := k_nm_e h s37 es37
    exact k_vret C dX12_closes_40 hr (Option.some.inj h)
  refine k_icmp_ne C dX12_closes_5 (tgt := 20) (by decide) (fun c5 => ?_) (fun c5 => ?_)
  · replace h := k_if_f h c5
    refine k_sub (L' := [(0, .ref (w.2.1 0))]) [0] rfl ?_
    exact Jj20 _ h
  · replace h := k_if_t h c5
    refine k_aload_n C dX12_closes_8 0 rfl ?_
    obtain ⟨v9, s9, h9, h⟩ := k_b2_e h
    refine k_goI (k_runV C dX12_closes_9 (e_X12_look (d := 3) (Nat.le_refl _) h9) k_lX12_183 k_yX12_look (k_oM0 w) (by omega) rfl (Nat.le_of_ble_eq_true rfl)) ?_
    refine k_iload_n C dX12_closes_12 1 rfl ?_
    refine k_icmp_eq C dX12_closes_13 (tgt := 20) (by decide) (fun c13 => ?_) (fun c13 => ?_)
    · replace h := k_if_t h c13
      refine k_sub (L' := [(0, .ref (w.2.1 0))]) [0] rfl ?_
      exact Jj20 _ h
    · replace h := k_if_f h c13
      refine k_aload_n C dX12_closes_16 0 rfl ?_
      obtain ⟨s17, h17, h⟩ := k_bd_e h
      refine k_goV (k_runV C dX12_closes_17 (e_X12_bad (d := 2) (Nat.le_refl _) h17) k_lX12_180 k_yX12_bad (k_oM0 w) (by omega) rfl (Nat.le_of_ble_eq_true rfl)) ?_
      refine k_sub (L' := [(0, .ref (w.2.1 0))]) [0] rfl ?_
      exact Jj20 _ h
def f_X12_plainNumber  (σ : k_St) : Option (Int32 × k_St) :=
  k_loop (fun (g4 : Int32 × Int32 × k_St → Option (Int32 × k_St)) (z4 : Int32 × Int32 × k_St) => match z4 with
    | (v1_4, v2_4, s_4) =>
      k_jn (fun (_ : Unit) =>
        k_bd (f_X12_here s_4) fun v49 =>
        k_bd (f_X12_isDigit v49) fun v52 =>
        k_if (v52 = (0 : Int32))
          (some (v1_4, s_4))
          (k_bd (f_X12_bad s_4) fun s59 =>
          some (v1_4, s59))) fun j48 =>
      k_if ((4 : Int32) ≤ v2_4)
        (j48 ())
        (k_bd (f_X12_here s_4) fun v10 =>
        k_bd (f_X12_isDigit v10) fun v13 =>
        k_if (v13 = (0 : Int32))
          (j48 ())
          (k_bd (f_X12_here s_4) fun v24 =>
          k_nm (((((10 : Int32) * v1_4) + v24) - (48 : Int32))) fun y31 =>
          k_nm (k_wr s_4 0 3 ((k_rd s_4 0 3) + (1 : Int32))) fun s39 =>
          k_nm (v2_4 + (1 : Int32)) fun y42 =>
          g4 (y31, y42, s39)))) 100000 ((0 : Int32), (0 : Int32), σ)
set_option maxHeartbeats 4000000 in
set_option maxRecDepth 100000 in
theorem e_X12_plainNumber {l : Launch} {w : k_WC} {d : Nat} (hd : 3 ≤ d)   {σ σ' : k_St} {r : Int32} (h : f_X12_plainNumber σ = some (r, σ')) : k_EI l (k_PM w) yX12_plainNumber cX12_plainNumber 3 (some .int) d [.ref (w.2.1 0)] σ r σ' := by
  refine k_of (own := RX12) rfl (by decide) (Nat.le_of_ble_eq_true rfl) (fun X hX C hr => ?_)
  show k_K (k_PM w) X (k_MQ X (k_Qi (k_PM w) r σ') (k_PM w).2.2.1) 0 [(0, .ref (w.2.1 0))] [] σ
  unfold f_X12_plainNumber at h
  refine k_iconst C dX12_plainNumber_0 (v := 0) rfl ?_
  refine k_istore_n C dX12_plainNumber_1 (by decide) [1, 0] (L' := [(0, .ref (w.2.1 0)), (1, .int (0 : Int32))]) rfl ?_
  refine k_iconst C dX12_plainNumber_2 (v := 0) rfl ?_
  refine k_istore_n C dX12_plainNumber_3 (by decide) [1, 2, 0] (L' := [(0, .ref (w.2.1 0)), (1, .int (0 : Int32)), (2, .int (0 : Int32))]) rfl ?_
  obtain ⟨b4, eb4, h⟩ := k_lp_e h
  have K4 : ∀ (n : Nat) (v1_4 : Int32) (v2_4 : Int32) (s_4 : k_St), k_loop b4 n (v1_4, v2_4, s_4) = some (r, σ') → k_K (k_PM w) X (k_MQ X (k_Qi (k_PM w) r σ') (k_PM w).2.2.1) 4 [(0, .ref (w.2.1 0)), (1, .int v1_4), (2, .int v2_4)] [] s_4 := by
    intro n
    induction n with
    | zero => intro v1_4 v2_4 s_4 h; cases h
    | succ n ih4 =>
      intro v1_4 v2_4 s_4 h
      obtain ⟨g4, eg4, h⟩ := k_lp_s h
      rw [← eg4] at ih4
      rw [eb4] at h
      refine k_iload_n C dX12_plainNumber_4 2 rfl ?_
      refine k_iconst C dX12_plainNumber_5 (v := 4) rfl ?_
      obtain ⟨j48, ej48, h⟩ := k_jn_e h
      have Jj48 : j48 () = some (r, σ') → k_K (k_PM w) X (k_MQ X (k_Qi (k_PM w) r σ') (k_PM w).2.2.1) 48 [(0, .ref (w.2.1 0)), (1, .int v1_4)] [] s_4 := by
        intro  h
        rw [ej48] at h
        refine k_aload_n C dX12_plainNumber_48 0 rfl ?_
        obtain ⟨v49, h49, h⟩ := k_bd_e h
        refine k_goI (k_runV C dX12_plainNumber_49 (e_X12_here (d := 2) (Nat.le_refl _) h49) k_lX12_167 k_yX12_here (k_oM0 w) (by omega) rfl (Nat.le_of_ble_eq_true rfl)) ?_
        obtain ⟨v52, h52, h⟩ := k_bd_e h
        refine k_goI (k_runS C dX12_plainNumber_52 (e_X12_isDigit (d := 2) (Nat.le_refl _) h52) k_lX12_186 k_yX12_isDigit (by omega) rfl (Nat.le_of_ble_eq_true rfl)) ?_
        refine k_if_eq C dX12_plainNumber_55 (tgt := 62) (by decide) (fun c55 => ?_) (fun c55 => ?_)
        · replace h := k_if_t h c55
          refine k_iload_n C dX12_plainNumber_62 1 rfl ?_
          exact k_iret C dX12_plainNumber_63 hr (Option.some.inj h)
        · replace h := k_if_f h c55
          refine k_aload_n C dX12_plainNumber_58 0 rfl ?_
          obtain ⟨s59, h59, h⟩ := k_bd_e h
          refine k_goV (k_runV C dX12_plainNumber_59 (e_X12_bad (d := 2) (Nat.le_refl _) h59) k_lX12_180 k_yX12_bad (k_oM0 w) (by omega) rfl (Nat.le_of_ble_eq_true rfl)) ?_
          refine k_iload_n C dX12_plainNumber_62 1 rfl ?_
          exact k_iret C dX12_plainNumber_63 hr (Option.some.inj h)
      refine k_icmp_ge C dX12_plainNumber_6 (tgt := 48) (by decide) (fun c6 => ?_) (fun c6 => ?_)
      · replace h := k_if_t h c6
        refine k_sub (L' := [(0, .ref (w.2.1 0)), (1, .int v1_4)]) [0, 1] rfl ?_
        exact Jj48 h
      · replace h := k_if_f h c6
        refine k_aload_n C dX12_plainNumber_9 0 rfl ?_
        obtain ⟨v10, h10, h⟩ := k_bd_e h
        refine k_goI (k_runV C dX12_plainNumber_10 (e_X12_here (d := 2) (Nat.le_refl _) h10) k_lX12_167 k_yX12_here (k_oM0 w) (by omega) rfl (Nat.le_of_ble_eq_true rfl)) ?_
        obtain ⟨v13, h13, h⟩ := k_bd_e h
        refine k_goI (k_runS C dX12_plainNumber_13 (e_X12_isDigit (d := 2) (Nat.le_refl _) h13) k_lX12_186 k_yX12_isDigit (by omega) rfl (Nat.le_of_ble_eq_true rfl)) ?_
        refine k_if_eq C dX12_plainNumber_16 (tgt := 48) (by decide) (fun c16 => ?_) (fun c16 => ?_)
        · replace h := k_if_t h c16
          refine k_sub (L' := [(0, .ref (w.2.1 0)), (1, .int v1_4)]) [0, 1] rfl ?_
          exact Jj48 h
        · replace h := k_if_f h c16
          refine k_bipush C dX12_plainNumber_19 (v := 10) rfl ?_
          refine k_iload_n C dX12_plainNumber_21 1 rfl ?_
          refine k_imul C dX12_plainNumber_22 ?_
          refine k_aload_n C dX12_plainNumber_23 0 rfl ?_
          obtain ⟨v24, h24, h⟩ := k_bd_e h
          refine k_goI (k_runV C dX12_plainNumber_24 (e_X12_here (d := 2) (Nat.le_refl _) h24) k_lX12_167 k_yX12_here (k_oM0 w) (by omega) rfl (Nat.le_of_ble_eq_true rfl)) ?_
          refine k_iadd C dX12_plainNumber_27 ?_
          refine k_bipush C dX12_plainNumber_28 (v := 48) rfl ?_
          refine k_isub C dX12_plainNumber_30 ?_
          refine k_topi (fun y31 ey31 => ?_)
          replace h := k_nm_e h y31 ey31
          refine k_istore_n C dX12_plainNumber_31 (by decide) [1, 0, 2] (L' := [(0, .ref (w.2.1 0)), (1, .int y31), (2, .int v2_4)]) rfl ?_
          refine k_aload_n C dX12_plainNumber_32 0 rfl ?_
          refine k_dup C dX12_plainNumber_33 rfl ?_
          refine k_get C dX12_plainNumber_34 (k_gM0_3 w) k_fX12_164 (Or.inl rfl) ?_
          refine k_iconst C dX12_plainNumber_37 (v := 1) rfl ?_
          refine k_iadd C dX12_plainNumber_38 ?_
          refine k_puti C dX12_plainNumber_39 (k_pM0_3 w) k_fX12_164 (Or.inl rfl) k_xi ?_
          refine k_st (fun s39 es39 => ?_)
          replace h := k_nm_e h s39 es39
          refine k_iinc C dX12_plainNumber_42 2 rfl (v := 1) rfl (by decide) [1, 2, 0] (L' := fun z9 => [(0, .ref (w.2.1 0)), (1, .int y31), (2, .int z9)]) (fun z9 => rfl) (fun y42 ey42 => ?_)
          replace h := k_nm_e h y42 ey42
          refine k_goto C dX12_plainNumber_45 (tgt := 4) (by decide) ?_
          exact ih4 _ _ _ h
  exact K4 _ _ _ _ h
def b_X12_atom (p_sum : k_St → Option (k_St))  (σ : k_St) : Option (k_St) :=
  k_b2 (f_X12_look σ) fun v1 s1 =>
  k_bd (f_X12_isDigit v1) fun v6 =>
  k_if (v6 = (0 : Int32))
    (k_bd (f_X12_letterOf v1) fun v25 =>
    k_if (v25 = (-1 : Int32))
      (k_if (v1 = (91 : Int32))
        (k_bd (f_X12_opens s1) fun s61 =>
        k_if ((k_rd s61 0 4) = (-1 : Int32))
          (k_bd (p_sum s61) fun s73 =>
          k_bd (f_X12_closes (93 : Int32) s73) fun s79 =>
          some s79)
          (some s61))
        (k_bd (f_X12_bad s1) fun s86 =>
        some s86))
      (k_nm (k_wr s1 0 3 ((k_rd s1 0 3) + (1 : Int32))) fun s39 =>
      k_bd (f_X12_letterOf v1) fun v45 =>
      k_bd (f_X12_put (1 : Int32) v45 s39) fun s48 =>
      some s48))
    (k_b2 (f_X12_plainNumber s1) fun v15 s15 =>
    k_bd (f_X12_put (0 : Int32) v15 s15) fun s18 =>
    some s18)
set_option maxHeartbeats 4000000 in
set_option maxRecDepth 100000 in
theorem eb_X12_atom {p_sum : k_St → Option (k_St)} {d0 : Nat} (H_sum : ∀ {l : Launch} {w : k_WC} {d : Nat} (_ : d0 ≤ d)  {σ σ' : k_St} (_ : p_sum σ = some σ'), k_EV l (k_PM w) yX12_sum cX12_sum 2 d [.ref (w.2.1 0)] σ σ') {l : Launch} {w : k_WC} {d : Nat} (hb : 5 ≤ d0) (hd : d0 < d)   {σ σ' : k_St} (h : b_X12_atom p_sum σ = some σ') : k_EV l (k_PM w) yX12_atom cX12_atom 2 d [.ref (w.2.1 0)] σ σ' := by
  refine k_of (own := RX12) rfl (by decide) (Nat.le_of_ble_eq_true rfl) (fun X hX C hr => ?_)
  show k_K (k_PM w) X (k_MQ X (k_Qv (k_PM w) σ') (k_PM w).2.2.1) 0 [(0, .ref (w.2.1 0))] [] σ
  unfold b_X12_atom at h
  refine k_aload_n C dX12_atom_0 0 rfl ?_
  obtain ⟨v1, s1, h1, h⟩ := k_b2_e h
  refine k_goI (k_runV C dX12_atom_1 (e_X12_look (d := 3) (Nat.le_refl _) h1) k_lX12_183 k_yX12_look (k_oM0 w) (by omega) rfl (Nat.le_of_ble_eq_true rfl)) ?_
  refine k_istore_n C dX12_atom_4 (by decide) [1, 0] (L' := [(0, .ref (w.2.1 0)), (1, .int v1)]) rfl ?_
  refine k_iload_n C dX12_atom_5 1 rfl ?_
  obtain ⟨v6, h6, h⟩ := k_bd_e h
  refine k_goI (k_runS C dX12_atom_6 (e_X12_isDigit (d := 2) (Nat.le_refl _) h6) k_lX12_186 k_yX12_isDigit (by omega) rfl (Nat.le_of_ble_eq_true rfl)) ?_
  refine k_if_eq C dX12_atom_9 (tgt := 24) (by decide) (fun c9 => ?_) (fun c9 => ?_)
  · replace h := k_if_t h c9
    refine k_iload_n C dX12_atom_24 1 rfl ?_
    obtain ⟨v25, h25, h⟩ := k_bd_e h
    refine k_goI (k_runS C dX12_atom_25 (e_X12_letterOf (d := 2) (Nat.le_refl _) h25) k_lX12_197 k_yX12_letterOf (by omega) rfl (Nat.le_of_ble_eq_true rfl)) ?_
    refine k_iconst C dX12_atom_28 (v := -1) rfl ?_
    refine k_icmp_eq C dX12_atom_29 (tgt := 54) (by decide) (fun c29 => ?_) (fun c29 => ?_)
    · replace h := k_if_t h c29
      refine k_iload_n C dX12_atom_54 1 rfl ?_
      refine k_bipush C dX12_atom_55 (v := 91) rfl ?_
      refine k_icmp_ne C dX12_atom_57 (tgt := 85) (by decide) (fun c57 => ?_) (fun c57 => ?_)
      · replace h := k_if_f h c57
        refine k_aload_n C dX12_atom_85 0 rfl ?_
        obtain ⟨s86, h86, h⟩ := k_bd_e h
        refine k_goV (k_runV C dX12_atom_86 (e_X12_bad (d := 2) (Nat.le_refl _) h86) k_lX12_180 k_yX12_bad (k_oM0 w) (by omega) rfl (Nat.le_of_ble_eq_true rfl)) ?_
        exact k_vret C dX12_atom_89 hr (Option.some.inj h)
      · replace h := k_if_t h c57
        refine k_aload_n C dX12_atom_60 0 rfl ?_
        obtain ⟨s61, h61, h⟩ := k_bd_e h
        refine k_goV (k_runV C dX12_atom_61 (e_X12_opens (d := 3) (Nat.le_refl _) h61) k_lX12_201 k_yX12_opens (k_oM0 w) (by omega) rfl (Nat.le_of_ble_eq_true rfl)) ?_
        refine k_aload_n C dX12_atom_64 0 rfl ?_
        refine k_get C dX12_atom_65 (k_gM0_4 w) k_fX12_171 (Or.inl rfl) ?_
        refine k_iconst C dX12_atom_68 (v := -1) rfl ?_
        refine k_icmp_ne C dX12_atom_69 (tgt := 89) (by decide) (fun c69 => ?_) (fun c69 => ?_)
        · replace h := k_if_f h c69
          exact k_vret C dX12_atom_89 hr (Option.some.inj h)
        · replace h := k_if_t h c69
          refine k_aload_n C dX12_atom_72 0 rfl ?_
          obtain ⟨s73, h73, h⟩ := k_bd_e h
          refine k_goV (k_runV C dX12_atom_73 (H_sum (d := d0) (Nat.le_refl _) h73) k_lX12_204 k_yX12_sum (k_oM0 w) (by omega) rfl (Nat.le_of_ble_eq_true rfl)) ?_
          refine k_aload_n C dX12_atom_76 0 rfl ?_
          refine k_bipush C dX12_atom_77 (v := 93) rfl ?_
          obtain ⟨s79, h79, h⟩ := k_bd_e h
          refine k_goV (k_runV C dX12_atom_79 (e_X12_closes (d := 4) (Nat.le_refl _) h79) k_lX12_207 k_yX12_closes (k_oM0 w) (by omega) rfl (Nat.le_of_ble_eq_true rfl)) ?_
          refine k_goto C dX12_atom_82 (tgt := 89) (by decide) ?_
          exact k_vret C dX12_atom_89 hr (Option.some.inj h)
    · replace h := k_if_f h c29
      refine k_aload_n C dX12_atom_32 0 rfl ?_
      refine k_dup C dX12_atom_33 rfl ?_
      refine k_get C dX12_atom_34 (k_gM0_3 w) k_fX12_164 (Or.inl rfl) ?_
      refine k_iconst C dX12_atom_37 (v := 1) rfl ?_
      refine k_iadd C dX12_atom_38 ?_
      refine k_puti C dX12_atom_39 (k_pM0_3 w) k_fX12_164 (Or.inl rfl) k_xi ?_
      refine k_st (fun s39 es39 => ?_)
      replace h := k_nm_e h s39 es39
      refine k_aload_n C dX12_atom_42 0 rfl ?_
      refine k_iconst C dX12_atom_43 (v := 1) rfl ?_
      refine k_iload_n C dX12_atom_44 1 rfl ?_
      obtain ⟨v45, h45, h⟩ := k_bd_e h
      refine k_goI (k_runS C dX12_atom_45 (e_X12_letterOf (d := 2) (Nat.le_refl _) h45) k_lX12_197 k_yX12_letterOf (by omega) rfl (Nat.le_of_ble_eq_true rfl)) ?_
      obtain ⟨s48, h48, h⟩ := k_bd_e h
      refine k_goV (k_runV C dX12_atom_48 (e_X12_put (d := 2) (Nat.le_refl _) h48) k_lX12_193 k_yX12_put (k_oM0 w) (by omega) rfl (Nat.le_of_ble_eq_true rfl)) ?_
      refine k_goto C dX12_atom_51 (tgt := 89) (by decide) ?_
      exact k_vret C dX12_atom_89 hr (Option.some.inj h)
  · replace h := k_if_f h c9
    refine k_aload_n C dX12_atom_12 0 rfl ?_
    refine k_iconst C dX12_atom_13 (v := 0) rfl ?_
    refine k_aload_n C dX12_atom_14 0 rfl ?_
    obtain ⟨v15, s15, h15, h⟩ := k_b2_e h
    refine k_goI (k_runV C dX12_atom_15 (e_X12_plainNumber (d := 3) (Nat.le_refl _) h15) k_lX12_190 k_yX12_plainNumber (k_oM0 w) (by omega) rfl (Nat.le_of_ble_eq_true rfl)) ?_
    obtain ⟨s18, h18, h⟩ := k_bd_e h
    refine k_goV (k_runV C dX12_atom_18 (e_X12_put (d := 2) (Nat.le_refl _) h18) k_lX12_193 k_yX12_put (k_oM0 w) (by omega) rfl (Nat.le_of_ble_eq_true rfl)) ?_
    refine k_goto C dX12_atom_21 (tgt := 89) (by decide) ?_
    exact k_vret C dX12_atom_89 hr (Option.some.inj h)
def b_X12_term (p_atom : k_St → Option (k_St))  (σ : k_St) : Option (k_St) :=
  k_bd (p_atom σ) fun s1 =>
  k_jn (fun (t0_20 : Int32) (s_20 : k_St) =>
    k_loop (fun (g21 : Int32 × k_St → Option (k_St)) (z21 : Int32 × k_St) => match z21 with
      | (v1_21, s_21) =>
        k_jn (fun (_ : Unit) =>
          k_nm (k_wr s_21 0 3 ((k_rd s_21 0 3) + (1 : Int32))) fun s40 =>
          k_bd (p_atom s40) fun s44 =>
          k_jn (fun (t1_59 : Int32) =>
            k_bd (f_X12_put t1_59 (0 : Int32) s44) fun s60 =>
            k_if ((k_rd s60 0 4) = (-1 : Int32))
              (k_b2 (f_X12_look s60) fun v72 s72 =>
              g21 (v72, s72))
              (g21 ((-1 : Int32), s60))) fun j59 =>
          k_if (v1_21 = (42 : Int32))
            (j59 (4 : Int32))
            (j59 (5 : Int32))) fun j33 =>
        k_if (v1_21 = (42 : Int32))
          (j33 ())
          (k_if (v1_21 = (47 : Int32))
            (j33 ())
            (some s_21))) 100000 (t0_20, s_20)) fun j20 =>
  k_if ((k_rd s1 0 4) = (-1 : Int32))
    (k_b2 (f_X12_look s1) fun v13 s13 =>
    j20 v13 s13)
    (j20 (-1 : Int32) s1)
set_option maxHeartbeats 4000000 in
set_option maxRecDepth 100000 in
theorem eb_X12_term {p_atom : k_St → Option (k_St)} {d0 : Nat} (H_atom : ∀ {l : Launch} {w : k_WC} {d : Nat} (_ : d0 ≤ d)  {σ σ' : k_St} (_ : p_atom σ = some σ'), k_EV l (k_PM w) yX12_atom cX12_atom 2 d [.ref (w.2.1 0)] σ σ') {l : Launch} {w : k_WC} {d : Nat} (hb : 5 ≤ d0) (hd : d0 < d)   {σ σ' : k_St} (h : b_X12_term p_atom σ = some σ') : k_EV l (k_PM w) yX12_term cX12_term 2 d [.ref (w.2.1 0)] σ σ' := by
  refine k_of (own := RX12) rfl (by decide) (Nat.le_of_ble_eq_true rfl) (fun X hX C hr => ?_)
  show k_K (k_PM w) X (k_MQ X (k_Qv (k_PM w) σ') (k_PM w).2.2.1) 0 [(0, .ref (w.2.1 0))] [] σ
  unfold b_X12_term at h
  refine k_aload_n C dX12_term_0 0 rfl ?_
  obtain ⟨s1, h1, h⟩ := k_bd_e h
  refine k_goV (k_runV C dX12_term_1 (H_atom (d := d0) (Nat.le_refl _) h1) k_lX12_211 k_yX12_atom (k_oM0 w) (by omega) rfl (Nat.le_of_ble_eq_true rfl)) ?_
  refine k_aload_n C dX12_term_4 0 rfl ?_
  refine k_get C dX12_term_5 (k_gM0_4 w) k_fX12_171 (Or.inl rfl) ?_
  refine k_iconst C dX12_term_8 (v := -1) rfl ?_
  obtain ⟨j20, ej20, h⟩ := k_jn_e h
  have Jj20 : ∀ (t0_20 : Int32) (s_20 : k_St), j20 t0_20 s_20 = some σ' → k_K (k_PM w) X (k_MQ X (k_Qv (k_PM w) σ') (k_PM w).2.2.1) 20 [(0, .ref (w.2.1 0))] [.int t0_20] s_20 := by
    intro t0_20 s_20 h
    rw [ej20] at h
    refine k_istore_n C dX12_term_20 (by decide) [1, 0] (L' := [(0, .ref (w.2.1 0)), (1, .int t0_20)]) rfl ?_
    obtain ⟨b21, eb21, h⟩ := k_lp_e h
    have K21 : ∀ (n : Nat) (v1_21 : Int32) (s_21 : k_St), k_loop b21 n (v1_21, s_21) = some σ' → k_K (k_PM w) X (k_MQ X (k_Qv (k_PM w) σ') (k_PM w).2.2.1) 21 [(0, .ref (w.2.1 0)), (1, .int v1_21)] [] s_21 := by
      intro n
      induction n with
      | zero => intro v1_21 s_21 h; cases h
      | succ n ih21 =>
        intro v1_21 s_21 h
        obtain ⟨g21, eg21, h⟩ := k_lp_s h
        rw [← eg21] at ih21
        rw [eb21] at h
        refine k_iload_n C dX12_term_21 1 rfl ?_
        refine k_bipush C dX12_term_22 (v := 42) rfl ?_
        obtain ⟨j33, ej33, h⟩ := k_jn_e h
        have Jj33 : j33 () = some σ' → k_K (k_PM w) X (k_MQ X (k_Qv (k_PM w) σ') (k_PM w).2.2.1) 33 [(0, .ref (w.2.1 0)), (1, .int v1_21)] [] s_21 := by
          intro  h
          rw [ej33] at h
          refine k_aload_n C dX12_term_33 0 rfl ?_
          refine k_dup C dX12_term_34 rfl ?_
          refine k_get C dX12_term_35 (k_gM0_3 w) k_fX12_164 (Or.inl rfl) ?_
          refine k_iconst C dX12_term_38 (v := 1) rfl ?_
          refine k_iadd C dX12_term_39 ?_
          refine k_puti C dX12_term_40 (k_pM0_3 w) k_fX12_164 (Or.inl rfl) k_xi ?_
          refine k_st (fun s40 es40 => ?_)
          replace h := k_nm_e h s40 es40
          refine k_aload_n C dX12_term_43 0 rfl ?_
          obtain ⟨s44, h44, h⟩ := k_bd_e h
          refine k_goV (k_runV C dX12_term_44 (H_atom (d := d0) (Nat.le_refl _) h44) k_lX12_211 k_yX12_atom (k_oM0 w) (by omega) rfl (Nat.le_of_ble_eq_true rfl)) ?_
          refine k_aload_n C dX12_term_47 0 rfl ?_
          refine k_iload_n C dX12_term_48 1 rfl ?_
          refine k_bipush C dX12_term_49 (v := 42) rfl ?_
          obtain ⟨j59, ej59, h⟩ := k_jn_e h
          have Jj59 : ∀ (t1_59 : Int32), j59 t1_59 = some σ' → k_K (k_PM w) X (k_MQ X (k_Qv (k_PM w) σ') (k_PM w).2.2.1) 59 [(0, .ref (w.2.1 0))] [.int t1_59, .ref (w.2.1 0)] s44 := by
            intro t1_59 h
            rw [ej59] at h
            refine k_iconst C dX12_term_59 (v := 0) rfl ?_
            obtain ⟨s60, h60, h⟩ := k_bd_e h
            refine k_goV (k_runV C dX12_term_60 (e_X12_put (d := 2) (Nat.le_refl _) h60) k_lX12_193 k_yX12_put (k_oM0 w) (by omega) rfl (Nat.le_of_ble_eq_true rfl)) ?_
            refine k_aload_n C dX12_term_63 0 rfl ?_
            refine k_get C dX12_term_64 (k_gM0_4 w) k_fX12_171 (Or.inl rfl) ?_
            refine k_iconst C dX12_term_67 (v := -1) rfl ?_
            refine k_icmp_ne C dX12_term_68 (tgt := 78) (by decide) (fun c68 => ?_) (fun c68 => ?_)
            · replace h := k_if_f h c68
              refine k_iconst C dX12_term_78 (v := -1) rfl ?_
              refine k_istore_n C dX12_term_79 (by decide) [1, 0] (L' := [(0, .ref (w.2.1 0)), (1, .int (-1 : Int32))]) rfl ?_
              refine k_goto C dX12_term_80 (tgt := 21) (by decide) ?_
              exact ih21 _ _ h
            · replace h := k_if_t h c68
              refine k_aload_n C dX12_term_71 0 rfl ?_
              obtain ⟨v72, s72, h72, h⟩ := k_b2_e h
              refine k_goI (k_runV C dX12_term_72 (e_X12_look (d := 3) (Nat.le_refl _) h72) k_lX12_183 k_yX12_look (k_oM0 w) (by omega) rfl (Nat.le_of_ble_eq_true rfl)) ?_
              refine k_goto C dX12_term_75 (tgt := 79) (by decide) ?_
              refine k_istore_n C dX12_term_79 (by decide) [1, 0] (L' := [(0, .ref (w.2.1 0)), (1, .int v72)]) rfl ?_
              refine k_goto C dX12_term_80 (tgt := 21) (by decide) ?_
              exact ih21 _ _ h
          refine k_icmp_ne C dX12_term_51 (tgt := 58) (by decide) (fun c51 => ?_) (fun c51 => ?_)
          · replace h := k_if_f h c51
            refine k_iconst C dX12_term_58 (v := 5) rfl ?_
            refine k_sub (L' := [(0, .ref (w.2.1 0))]) [0] rfl ?_
            exact Jj59 _ h
          · replace h := k_if_t h c51
            refine k_iconst C dX12_term_54 (v := 4) rfl ?_
            refine k_goto C dX12_term_55 (tgt := 59) (by decide) ?_
            refine k_sub (L' := [(0, .ref (w.2.1 0))]) [0] rfl ?_
            exact Jj59 _ h
        refine k_icmp_eq C dX12_term_24 (tgt := 33) (by decide) (fun c24 => ?_) (fun c24 => ?_)
        · replace h := k_if_t h c24
          exact Jj33 h
        · replace h := k_if_f h c24
          refine k_iload_n C dX12_term_27 1 rfl ?_
          refine k_bipush C dX12_term_28 (v := 47) rfl ?_
          refine k_icmp_ne C dX12_term_30 (tgt := 83) (by decide) (fun c30 => ?_) (fun c30 => ?_)
          · replace h := k_if_f h c30
            exact k_vret C dX12_term_83 hr (Option.some.inj h)
          · replace h := k_if_t h c30
            exact Jj33 h
    exact K21 _ _ _ h
  refine k_icmp_ne C dX12_term_9 (tgt := 19) (by decide) (fun c9 => ?_) (fun c9 => ?_)
  · replace h := k_if_f h c9
    refine k_iconst C dX12_term_19 (v := -1) rfl ?_
    exact Jj20 _ _ h
  · replace h := k_if_t h c9
    refine k_aload_n C dX12_term_12 0 rfl ?_
    obtain ⟨v13, s13, h13, h⟩ := k_b2_e h
    refine k_goI (k_runV C dX12_term_13 (e_X12_look (d := 3) (Nat.le_refl _) h13) k_lX12_183 k_yX12_look (k_oM0 w) (by omega) rfl (Nat.le_of_ble_eq_true rfl)) ?_
    refine k_goto C dX12_term_16 (tgt := 20) (by decide) ?_
    exact Jj20 _ _ h
def b_X12_sum (p_term : k_St → Option (k_St))  (σ : k_St) : Option (k_St) :=
  k_bd (p_term σ) fun s1 =>
  k_jn (fun (t0_20 : Int32) (s_20 : k_St) =>
    k_loop (fun (g21 : Int32 × k_St → Option (k_St)) (z21 : Int32 × k_St) => match z21 with
      | (v1_21, s_21) =>
        k_jn (fun (_ : Unit) =>
          k_nm (k_wr s_21 0 3 ((k_rd s_21 0 3) + (1 : Int32))) fun s40 =>
          k_bd (p_term s40) fun s44 =>
          k_jn (fun (t1_59 : Int32) =>
            k_bd (f_X12_put t1_59 (0 : Int32) s44) fun s60 =>
            k_if ((k_rd s60 0 4) = (-1 : Int32))
              (k_b2 (f_X12_look s60) fun v72 s72 =>
              g21 (v72, s72))
              (g21 ((-1 : Int32), s60))) fun j59 =>
          k_if (v1_21 = (43 : Int32))
            (j59 (2 : Int32))
            (j59 (3 : Int32))) fun j33 =>
        k_if (v1_21 = (43 : Int32))
          (j33 ())
          (k_if (v1_21 = (45 : Int32))
            (j33 ())
            (some s_21))) 100000 (t0_20, s_20)) fun j20 =>
  k_if ((k_rd s1 0 4) = (-1 : Int32))
    (k_b2 (f_X12_look s1) fun v13 s13 =>
    j20 v13 s13)
    (j20 (-1 : Int32) s1)
set_option maxHeartbeats 4000000 in
set_option maxRecDepth 100000 in
theorem eb_X12_sum {p_term : k_St → Option (k_St)} {d0 : Nat} (H_term : ∀ {l : Launch} {w : k_WC} {d : Nat} (_ : d0 ≤ d)  {σ σ' : k_St} (_ : p_term σ = some σ'), k_EV l (k_PM w) yX12_term cX12_term 2 d [.ref (w.2.1 0)] σ σ') {l : Launch} {w : k_WC} {d : Nat} (hb : 5 ≤ d0) (hd : d0 < d)   {σ σ' : k_St} (h : b_X12_sum p_term σ = some σ') : k_EV l (k_PM w) yX12_sum cX12_sum 2 d [.ref (w.2.1 0)] σ σ' := by
  refine k_of (own := RX12) rfl (by decide) (Nat.le_of_ble_eq_true rfl) (fun X hX C hr => ?_)
  show k_K (k_PM w) X (k_MQ X (k_Qv (k_PM w) σ') (k_PM w).2.2.1) 0 [(0, .ref (w.2.1 0))] [] σ
  unfold b_X12_sum at h
  refine k_aload_n C dX12_sum_0 0 rfl ?_
  obtain ⟨s1, h1, h⟩ := k_bd_e h
  refine k_goV (k_runV C dX12_sum_1 (H_term (d := d0) (Nat.le_refl _) h1) k_lX12_214 k_yX12_term (k_oM0 w) (by omega) rfl (Nat.le_of_ble_eq_true rfl)) ?_
  refine k_aload_n C dX12_sum_4 0 rfl ?_
  refine k_get C dX12_sum_5 (k_gM0_4 w) k_fX12_171 (Or.inl rfl) ?_
  refine k_iconst C dX12_sum_8 (v := -1) rfl ?_
  obtain ⟨j20, ej20, h⟩ := k_jn_e h
  have Jj20 : ∀ (t0_20 : Int32) (s_20 : k_St), j20 t0_20 s_20 = some σ' → k_K (k_PM w) X (k_MQ X (k_Qv (k_PM w) σ') (k_PM w).2.2.1) 20 [(0, .ref (w.2.1 0))] [.int t0_20] s_20 := by
    intro t0_20 s_20 h
    rw [ej20] at h
    refine k_istore_n C dX12_sum_20 (by decide) [1, 0] (L' := [(0, .ref (w.2.1 0)), (1, .int t0_20)]) rfl ?_
    obtain ⟨b21, eb21, h⟩ := k_lp_e h
    have K21 : ∀ (n : Nat) (v1_21 : Int32) (s_21 : k_St), k_loop b21 n (v1_21, s_21) = some σ' → k_K (k_PM w) X (k_MQ X (k_Qv (k_PM w) σ') (k_PM w).2.2.1) 21 [(0, .ref (w.2.1 0)), (1, .int v1_21)] [] s_21 := by
      intro n
      induction n with
      | zero => intro v1_21 s_21 h; cases h
      | succ n ih21 =>
        intro v1_21 s_21 h
        obtain ⟨g21, eg21, h⟩ := k_lp_s h
        rw [← eg21] at ih21
        rw [eb21] at h
        refine k_iload_n C dX12_sum_21 1 rfl ?_
        refine k_bipush C dX12_sum_22 (v := 43) rfl ?_
        obtain ⟨j33, ej33, h⟩ := k_jn_e h
        have Jj33 : j33 () = some σ' → k_K (k_PM w) X (k_MQ X (k_Qv (k_PM w) σ') (k_PM w).2.2.1) 33 [(0, .ref (w.2.1 0)), (1, .int v1_21)] [] s_21 := by
          intro  h
          rw [ej33] at h
          refine k_aload_n C dX12_sum_33 0 rfl ?_
          refine k_dup C dX12_sum_34 rfl ?_
          refine k_get C dX12_sum_35 (k_gM0_3 w) k_fX12_164 (Or.inl rfl) ?_
          refine k_iconst C dX12_sum_38 (v := 1) rfl ?_
          refine k_iadd C dX12_sum_39 ?_
          refine k_puti C dX12_sum_40 (k_pM0_3 w) k_fX12_164 (Or.inl rfl) k_xi ?_
          refine k_st (fun s40 es40 => ?_)
          replace h := k_nm_e h s40 es40
          refine k_aload_n C dX12_sum_43 0 rfl ?_
          obtain ⟨s44, h44, h⟩ := k_bd_e h
          refine k_goV (k_runV C dX12_sum_44 (H_term (d := d0) (Nat.le_refl _) h44) k_lX12_214 k_yX12_term (k_oM0 w) (by omega) rfl (Nat.le_of_ble_eq_true rfl)) ?_
          refine k_aload_n C dX12_sum_47 0 rfl ?_
          refine k_iload_n C dX12_sum_48 1 rfl ?_
          refine k_bipush C dX12_sum_49 (v := 43) rfl ?_
          obtain ⟨j59, ej59, h⟩ := k_jn_e h
          have Jj59 : ∀ (t1_59 : Int32), j59 t1_59 = some σ' → k_K (k_PM w) X (k_MQ X (k_Qv (k_PM w) σ') (k_PM w).2.2.1) 59 [(0, .ref (w.2.1 0))] [.int t1_59, .ref (w.2.1 0)] s44 := by
            intro t1_59 h
            rw [ej59] at h
            refine k_iconst C dX12_sum_59 (v := 0) rfl ?_
            obtain ⟨s60, h60, h⟩ := k_bd_e h
            refine k_goV (k_runV C dX12_sum_60 (e_X12_put (d := 2) (Nat.le_refl _) h60) k_lX12_193 k_yX12_put (k_oM0 w) (by omega) rfl (Nat.le_of_ble_eq_true rfl)) ?_
            refine k_aload_n C dX12_sum_63 0 rfl ?_
            refine k_get C dX12_sum_64 (k_gM0_4 w) k_fX12_171 (Or.inl rfl) ?_
            refine k_iconst C dX12_sum_67 (v := -1) rfl ?_
            refine k_icmp_ne C dX12_sum_68 (tgt := 78) (by decide) (fun c68 => ?_) (fun c68 => ?_)
            · replace h := k_if_f h c68
              refine k_iconst C dX12_sum_78 (v := -1) rfl ?_
              refine k_istore_n C dX12_sum_79 (by decide) [1, 0] (L' := [(0, .ref (w.2.1 0)), (1, .int (-1 : Int32))]) rfl ?_
              refine k_goto C dX12_sum_80 (tgt := 21) (by decide) ?_
              exact ih21 _ _ h
            · replace h := k_if_t h c68
              refine k_aload_n C dX12_sum_71 0 rfl ?_
              obtain ⟨v72, s72, h72, h⟩ := k_b2_e h
              refine k_goI (k_runV C dX12_sum_72 (e_X12_look (d := 3) (Nat.le_refl _) h72) k_lX12_183 k_yX12_look (k_oM0 w) (by omega) rfl (Nat.le_of_ble_eq_true rfl)) ?_
              refine k_goto C dX12_sum_75 (tgt := 79) (by decide) ?_
              refine k_istore_n C dX12_sum_79 (by decide) [1, 0] (L' := [(0, .ref (w.2.1 0)), (1, .int v72)]) rfl ?_
              refine k_goto C dX12_sum_80 (tgt := 21) (by decide) ?_
              exact ih21 _ _ h
          refine k_icmp_ne C dX12_sum_51 (tgt := 58) (by decide) (fun c51 => ?_) (fun c51 => ?_)
          · replace h := k_if_f h c51
            refine k_iconst C dX12_sum_58 (v := 3) rfl ?_
            refine k_sub (L' := [(0, .ref (w.2.1 0))]) [0] rfl ?_
            exact Jj59 _ h
          · replace h := k_if_t h c51
            refine k_iconst C dX12_sum_54 (v := 2) rfl ?_
            refine k_goto C dX12_sum_55 (tgt := 59) (by decide) ?_
            refine k_sub (L' := [(0, .ref (w.2.1 0))]) [0] rfl ?_
            exact Jj59 _ h
        refine k_icmp_eq C dX12_sum_24 (tgt := 33) (by decide) (fun c24 => ?_) (fun c24 => ?_)
        · replace h := k_if_t h c24
          exact Jj33 h
        · replace h := k_if_f h c24
          refine k_iload_n C dX12_sum_27 1 rfl ?_
          refine k_bipush C dX12_sum_28 (v := 45) rfl ?_
          refine k_icmp_ne C dX12_sum_30 (tgt := 83) (by decide) (fun c30 => ?_) (fun c30 => ?_)
          · replace h := k_if_f h c30
            exact k_vret C dX12_sum_83 hr (Option.some.inj h)
          · replace h := k_if_t h c30
            exact Jj33 h
    exact K21 _ _ _ h
  refine k_icmp_ne C dX12_sum_9 (tgt := 19) (by decide) (fun c9 => ?_) (fun c9 => ?_)
  · replace h := k_if_f h c9
    refine k_iconst C dX12_sum_19 (v := -1) rfl ?_
    exact Jj20 _ _ h
  · replace h := k_if_t h c9
    refine k_aload_n C dX12_sum_12 0 rfl ?_
    obtain ⟨v13, s13, h13, h⟩ := k_b2_e h
    refine k_goI (k_runV C dX12_sum_13 (e_X12_look (d := 3) (Nat.le_refl _) h13) k_lX12_183 k_yX12_look (k_oM0 w) (by omega) rfl (Nat.le_of_ble_eq_true rfl)) ?_
    refine k_goto C dX12_sum_16 (tgt := 20) (by decide) ?_
    exact Jj20 _ _ h
def f_X12_sum : Nat → k_St → Option (k_St)
  | 0 => fun _ => none
  | n + 1 => b_X12_sum (b_X12_term (b_X12_atom (f_X12_sum n)))
def f_X12_atom (n : Nat) : k_St → Option (k_St) := (b_X12_atom (f_X12_sum n))
def f_X12_term (n : Nat) : k_St → Option (k_St) := (b_X12_term (b_X12_atom (f_X12_sum n)))
theorem e_X12_sum_all : ∀ n : Nat, ∀ {l : Launch} {w : k_WC} {d : Nat} (_ : 5 + 3 * n ≤ d)  {σ σ' : k_St} (_ : f_X12_sum n σ = some σ'), k_EV l (k_PM w) yX12_sum cX12_sum 2 d [.ref (w.2.1 0)] σ σ'
  | 0 => fun _ => by
    intros; rename_i h; cases h
  | n + 1 => by
    have ih := @e_X12_sum_all n
    have E_atom : ∀ {l : Launch} {w : k_WC} {d : Nat} (_ : 5 + 3 * n + 1 ≤ d)  {σ σ' : k_St} (_ : (b_X12_atom (f_X12_sum n)) σ = some σ'), k_EV l (k_PM w) yX12_atom cX12_atom 2 d [.ref (w.2.1 0)] σ σ' := fun hd => fun h => eb_X12_atom (d0 := 5 + 3 * n + 0) (fun hd => fun h => ih (by omega) h) (by omega) (by omega) h
    have E_term : ∀ {l : Launch} {w : k_WC} {d : Nat} (_ : 5 + 3 * n + 2 ≤ d)  {σ σ' : k_St} (_ : (b_X12_term (b_X12_atom (f_X12_sum n))) σ = some σ'), k_EV l (k_PM w) yX12_term cX12_term 2 d [.ref (w.2.1 0)] σ σ' := fun hd => fun h => eb_X12_term (d0 := 5 + 3 * n + 1) (fun hd => fun h => E_atom (by omega) h) (by omega) (by omega) h
    exact fun hd => fun h => eb_X12_sum (d0 := 5 + 3 * n + 2) (fun hd => fun h => E_term (by omega) h) (by omega) (by omega) h
theorem e_X12_sum : ∀ {l : Launch} {w : k_WC} {d : Nat} (_ : 65 ≤ d)  {σ σ' : k_St} (_ : f_X12_sum 20 σ = some σ'), k_EV l (k_PM w) yX12_sum cX12_sum 2 d [.ref (w.2.1 0)] σ σ' := fun hd => fun h => e_X12_sum_all 20 (by omega) h
theorem e_X12_atom : ∀ {l : Launch} {w : k_WC} {d : Nat} (_ : 66 ≤ d)  {σ σ' : k_St} (_ : f_X12_atom 20 σ = some σ'), k_EV l (k_PM w) yX12_atom cX12_atom 2 d [.ref (w.2.1 0)] σ σ' := fun hd => fun h => eb_X12_atom (d0 := 65) (fun hd => fun h => e_X12_sum_all 20 (by omega) h) (by omega) (by omega) h
theorem e_X12_term : ∀ {l : Launch} {w : k_WC} {d : Nat} (_ : 67 ≤ d)  {σ σ' : k_St} (_ : f_X12_term 20 σ = some σ'), k_EV l (k_PM w) yX12_term cX12_term 2 d [.ref (w.2.1 0)] σ σ' := fun hd => fun h => eb_X12_term (d0 := 66) (fun hd => fun h => e_X12_atom (by omega) h) (by omega) (by omega) h
def f_X12_isSign (x0 : Int32) : Option (Int32) :=
  k_if (x0 = (61 : Int32))
    (some (1 : Int32))
    (k_if (x0 = (60 : Int32))
      (some (1 : Int32))
      (k_if (x0 = (62 : Int32))
        (some (1 : Int32))
        (some (0 : Int32))))
set_option maxHeartbeats 4000000 in
set_option maxRecDepth 100000 in
theorem e_X12_isSign {l : Launch} {w : k_WC} {d : Nat} (hd : 2 ≤ d) {x0 : Int32}  {σ : k_St} {r : Int32} (h : f_X12_isSign x0 = some r) : k_EI l (k_PM w) yX12_isSign cX12_isSign 1 (some .boolean) d [.int x0] σ r σ := by
  refine k_of (own := RX12) rfl (by decide) (Nat.le_of_ble_eq_true rfl) (fun X hX C hr => ?_)
  show k_K (k_PM w) X (k_MQ X (k_Qi (k_PM w) r σ) (k_PM w).2.2.1) 0 [(0, .int x0)] [] σ
  unfold f_X12_isSign at h
  refine k_iload_n C dX12_isSign_0 0 rfl ?_
  refine k_bipush C dX12_isSign_1 (v := 61) rfl ?_
  refine k_icmp_eq C dX12_isSign_3 (tgt := 18) (by decide) (fun c3 => ?_) (fun c3 => ?_)
  · replace h := k_if_t h c3
    refine k_iconst C dX12_isSign_18 (v := 1) rfl ?_
    refine k_goto C dX12_isSign_19 (tgt := 23) (by decide) ?_
    exact k_zret C dX12_isSign_23 hr rfl (k_p1 h)
  · replace h := k_if_f h c3
    refine k_iload_n C dX12_isSign_6 0 rfl ?_
    refine k_bipush C dX12_isSign_7 (v := 60) rfl ?_
    refine k_icmp_eq C dX12_isSign_9 (tgt := 18) (by decide) (fun c9 => ?_) (fun c9 => ?_)
    · replace h := k_if_t h c9
      refine k_iconst C dX12_isSign_18 (v := 1) rfl ?_
      refine k_goto C dX12_isSign_19 (tgt := 23) (by decide) ?_
      exact k_zret C dX12_isSign_23 hr rfl (k_p1 h)
    · replace h := k_if_f h c9
      refine k_iload_n C dX12_isSign_12 0 rfl ?_
      refine k_bipush C dX12_isSign_13 (v := 62) rfl ?_
      refine k_icmp_ne C dX12_isSign_15 (tgt := 22) (by decide) (fun c15 => ?_) (fun c15 => ?_)
      · replace h := k_if_f h c15
        refine k_iconst C dX12_isSign_22 (v := 0) rfl ?_
        exact k_zret C dX12_isSign_23 hr rfl (k_p1 h)
      · replace h := k_if_t h c15
        refine k_iconst C dX12_isSign_18 (v := 1) rfl ?_
        refine k_goto C dX12_isSign_19 (tgt := 23) (by decide) ?_
        exact k_zret C dX12_isSign_23 hr rfl (k_p1 h)
def f_X12_compare  (σ : k_St) : Option (k_St) :=
  k_jn (fun (t0_16 : Int32) (s_16 : k_St) =>
    k_bd (f_X12_isSign t0_16) fun v18 =>
    k_if (v18 = (0 : Int32))
      (k_bd (f_X12_bad s_16) fun s25 =>
      some s25)
      (k_nm (k_wr s_16 0 3 ((k_rd s_16 0 3) + (1 : Int32))) fun s36 =>
      k_bd (f_X12_sum 20 s36) fun s40 =>
      k_jn (fun (t1_68 : Int32) =>
        k_bd (f_X12_put t1_68 (0 : Int32) s40) fun s69 =>
        some s69) fun j68 =>
      k_if (t0_16 = (61 : Int32))
        (j68 (6 : Int32))
        (k_if (t0_16 = (60 : Int32))
          (j68 (7 : Int32))
          (j68 (8 : Int32))))) fun j16 =>
  k_if ((k_rd σ 0 4) = (-1 : Int32))
    (k_b2 (f_X12_look σ) fun v9 s9 =>
    j16 v9 s9)
    (j16 (-1 : Int32) σ)
set_option maxHeartbeats 4000000 in
set_option maxRecDepth 100000 in
theorem e_X12_compare {l : Launch} {w : k_WC} {d : Nat} (hd : 66 ≤ d)   {σ σ' : k_St} (h : f_X12_compare σ = some σ') : k_EV l (k_PM w) yX12_compare cX12_compare 2 d [.ref (w.2.1 0)] σ σ' := by
  refine k_of (own := RX12) rfl (by decide) (Nat.le_of_ble_eq_true rfl) (fun X hX C hr => ?_)
  show k_K (k_PM w) X (k_MQ X (k_Qv (k_PM w) σ') (k_PM w).2.2.1) 0 [(0, .ref (w.2.1 0))] [] σ
  unfold f_X12_compare at h
  refine k_aload_n C dX12_compare_0 0 rfl ?_
  refine k_get C dX12_compare_1 (k_gM0_4 w) k_fX12_171 (Or.inl rfl) ?_
  refine k_iconst C dX12_compare_4 (v := -1) rfl ?_
  obtain ⟨j16, ej16, h⟩ := k_jn_e h
  have Jj16 : ∀ (t0_16 : Int32) (s_16 : k_St), j16 t0_16 s_16 = some σ' → k_K (k_PM w) X (k_MQ X (k_Qv (k_PM w) σ') (k_PM w).2.2.1) 16 [(0, .ref (w.2.1 0))] [.int t0_16] s_16 := by
    intro t0_16 s_16 h
    rw [ej16] at h
    refine k_istore_n C dX12_compare_16 (by decide) [1, 0] (L' := [(0, .ref (w.2.1 0)), (1, .int t0_16)]) rfl ?_
    refine k_iload_n C dX12_compare_17 1 rfl ?_
    obtain ⟨v18, h18, h⟩ := k_bd_e h
    refine k_goI (k_runS C dX12_compare_18 (e_X12_isSign (d := 2) (Nat.le_refl _) h18) k_lX12_217 k_yX12_isSign (by omega) rfl (Nat.le_of_ble_eq_true rfl)) ?_
    refine k_if_ne C dX12_compare_21 (tgt := 29) (by decide) (fun c21 => ?_) (fun c21 => ?_)
    · replace h := k_if_f h c21
      refine k_aload_n C dX12_compare_29 0 rfl ?_
      refine k_dup C dX12_compare_30 rfl ?_
      refine k_get C dX12_compare_31 (k_gM0_3 w) k_fX12_164 (Or.inl rfl) ?_
      refine k_iconst C dX12_compare_34 (v := 1) rfl ?_
      refine k_iadd C dX12_compare_35 ?_
      refine k_puti C dX12_compare_36 (k_pM0_3 w) k_fX12_164 (Or.inl rfl) k_xi ?_
      refine k_st (fun s36 es36 => ?_)
      replace h := k_nm_e h s36 es36
      refine k_aload_n C dX12_compare_39 0 rfl ?_
      obtain ⟨s40, h40, h⟩ := k_bd_e h
      refine k_goV (k_runV C dX12_compare_40 (e_X12_sum (d := 65) (Nat.le_refl _) h40) k_lX12_204 k_yX12_sum (k_oM0 w) (by omega) rfl (Nat.le_of_ble_eq_true rfl)) ?_
      refine k_aload_n C dX12_compare_43 0 rfl ?_
      refine k_iload_n C dX12_compare_44 1 rfl ?_
      refine k_bipush C dX12_compare_45 (v := 61) rfl ?_
      obtain ⟨j68, ej68, h⟩ := k_jn_e h
      have Jj68 : ∀ (t1_68 : Int32), j68 t1_68 = some σ' → k_K (k_PM w) X (k_MQ X (k_Qv (k_PM w) σ') (k_PM w).2.2.1) 68 [] [.int t1_68, .ref (w.2.1 0)] s40 := by
        intro t1_68 h
        rw [ej68] at h
        refine k_iconst C dX12_compare_68 (v := 0) rfl ?_
        obtain ⟨s69, h69, h⟩ := k_bd_e h
        refine k_goV (k_runV C dX12_compare_69 (e_X12_put (d := 2) (Nat.le_refl _) h69) k_lX12_193 k_yX12_put (k_oM0 w) (by omega) rfl (Nat.le_of_ble_eq_true rfl)) ?_
        exact k_vret C dX12_compare_72 hr (Option.some.inj h)
      refine k_icmp_ne C dX12_compare_47 (tgt := 55) (by decide) (fun c47 => ?_) (fun c47 => ?_)
      · replace h := k_if_f h c47
        refine k_iload_n C dX12_compare_55 1 rfl ?_
        refine k_bipush C dX12_compare_56 (v := 60) rfl ?_
        refine k_icmp_ne C dX12_compare_58 (tgt := 66) (by decide) (fun c58 => ?_) (fun c58 => ?_)
        · replace h := k_if_f h c58
          refine k_bipush C dX12_compare_66 (v := 8) rfl ?_
          refine k_sub (L' := []) [] rfl ?_
          exact Jj68 _ h
        · replace h := k_if_t h c58
          refine k_bipush C dX12_compare_61 (v := 7) rfl ?_
          refine k_goto C dX12_compare_63 (tgt := 68) (by decide) ?_
          refine k_sub (L' := []) [] rfl ?_
          exact Jj68 _ h
      · replace h := k_if_t h c47
        refine k_bipush C dX12_compare_50 (v := 6) rfl ?_
        refine k_goto C dX12_compare_52 (tgt := 68) (by decide) ?_
        refine k_sub (L' := []) [] rfl ?_
        exact Jj68 _ h
    · replace h := k_if_t h c21
      refine k_aload_n C dX12_compare_24 0 rfl ?_
      obtain ⟨s25, h25, h⟩ := k_bd_e h
      refine k_goV (k_runV C dX12_compare_25 (e_X12_bad (d := 2) (Nat.le_refl _) h25) k_lX12_180 k_yX12_bad (k_oM0 w) (by omega) rfl (Nat.le_of_ble_eq_true rfl)) ?_
      exact k_vret C dX12_compare_28 hr (Option.some.inj h)
  refine k_icmp_ne C dX12_compare_5 (tgt := 15) (by decide) (fun c5 => ?_) (fun c5 => ?_)
  · replace h := k_if_f h c5
    refine k_iconst C dX12_compare_15 (v := -1) rfl ?_
    exact Jj16 _ _ h
  · replace h := k_if_t h c5
    refine k_aload_n C dX12_compare_8 0 rfl ?_
    obtain ⟨v9, s9, h9, h⟩ := k_b2_e h
    refine k_goI (k_runV C dX12_compare_9 (e_X12_look (d := 3) (Nat.le_refl _) h9) k_lX12_183 k_yX12_look (k_oM0 w) (by omega) rfl (Nat.le_of_ble_eq_true rfl)) ?_
    refine k_goto C dX12_compare_12 (tgt := 16) (by decide) ?_
    exact Jj16 _ _ h
def b_X12_goOnAnd (p_unit : k_St → Option (k_St))  (σ : k_St) : Option (k_St) :=
  k_loop (fun (g0 : k_St → Option (k_St)) (z0 : k_St) => match z0 with
    | s_0 =>
      k_if ((k_rd s_0 0 4) = (-1 : Int32))
        (k_b2 (f_X12_look s_0) fun v9 s9 =>
        k_if (v9 = (38 : Int32))
          (k_nm (k_wr s9 0 3 ((k_rd s9 0 3) + (1 : Int32))) fun s24 =>
          k_bd (p_unit s24) fun s28 =>
          k_bd (f_X12_put (10 : Int32) (0 : Int32) s28) fun s35 =>
          g0 s35)
          (some s9))
        (some s_0)) 100000 σ
set_option maxHeartbeats 4000000 in
set_option maxRecDepth 100000 in
theorem eb_X12_goOnAnd {p_unit : k_St → Option (k_St)} {d0 : Nat} (H_unit : ∀ {l : Launch} {w : k_WC} {d : Nat} (_ : d0 ≤ d)  {σ σ' : k_St} (_ : p_unit σ = some σ'), k_EV l (k_PM w) yX12_unit cX12_unit 2 d [.ref (w.2.1 0)] σ σ') {l : Launch} {w : k_WC} {d : Nat} (hb : 67 ≤ d0) (hd : d0 < d)   {σ σ' : k_St} (h : b_X12_goOnAnd p_unit σ = some σ') : k_EV l (k_PM w) yX12_goOnAnd cX12_goOnAnd 1 d [.ref (w.2.1 0)] σ σ' := by
  refine k_of (own := RX12) rfl (by decide) (Nat.le_of_ble_eq_true rfl) (fun X hX C hr => ?_)
  show k_K (k_PM w) X (k_MQ X (k_Qv (k_PM w) σ') (k_PM w).2.2.1) 0 [(0, .ref (w.2.1 0))] [] σ
  unfold b_X12_goOnAnd at h
  obtain ⟨b0, eb0, h⟩ := k_lp_e h
  have K0 : ∀ (n : Nat) (s_0 : k_St), k_loop b0 n s_0 = some σ' → k_K (k_PM w) X (k_MQ X (k_Qv (k_PM w) σ') (k_PM w).2.2.1) 0 [(0, .ref (w.2.1 0))] [] s_0 := by
    intro n
    induction n with
    | zero => intro s_0 h; cases h
    | succ n ih0 =>
      intro s_0 h
      obtain ⟨g0, eg0, h⟩ := k_lp_s h
      rw [← eg0] at ih0
      rw [eb0] at h
      refine k_aload_n C dX12_goOnAnd_0 0 rfl ?_
      refine k_get C dX12_goOnAnd_1 (k_gM0_4 w) k_fX12_171 (Or.inl rfl) ?_
      refine k_iconst C dX12_goOnAnd_4 (v := -1) rfl ?_
      refine k_icmp_ne C dX12_goOnAnd_5 (tgt := 41) (by decide) (fun c5 => ?_) (fun c5 => ?_)
      · replace h := k_if_f h c5
        exact k_vret C dX12_goOnAnd_41 hr (Option.some.inj h)
      · replace h := k_if_t h c5
        refine k_aload_n C dX12_goOnAnd_8 0 rfl ?_
        obtain ⟨v9, s9, h9, h⟩ := k_b2_e h
        refine k_goI (k_runV C dX12_goOnAnd_9 (e_X12_look (d := 3) (Nat.le_refl _) h9) k_lX12_183 k_yX12_look (k_oM0 w) (by omega) rfl (Nat.le_of_ble_eq_true rfl)) ?_
        refine k_bipush C dX12_goOnAnd_12 (v := 38) rfl ?_
        refine k_icmp_ne C dX12_goOnAnd_14 (tgt := 41) (by decide) (fun c14 => ?_) (fun c14 => ?_)
        · replace h := k_if_f h c14
          exact k_vret C dX12_goOnAnd_41 hr (Option.some.inj h)
        · replace h := k_if_t h c14
          refine k_aload_n C dX12_goOnAnd_17 0 rfl ?_
          refine k_dup C dX12_goOnAnd_18 rfl ?_
          refine k_get C dX12_goOnAnd_19 (k_gM0_3 w) k_fX12_164 (Or.inl rfl) ?_
          refine k_iconst C dX12_goOnAnd_22 (v := 1) rfl ?_
          refine k_iadd C dX12_goOnAnd_23 ?_
          refine k_puti C dX12_goOnAnd_24 (k_pM0_3 w) k_fX12_164 (Or.inl rfl) k_xi ?_
          refine k_st (fun s24 es24 => ?_)
          replace h := k_nm_e h s24 es24
          refine k_aload_n C dX12_goOnAnd_27 0 rfl ?_
          obtain ⟨s28, h28, h⟩ := k_bd_e h
          refine k_goV (k_runV C dX12_goOnAnd_28 (H_unit (d := d0) (Nat.le_refl _) h28) k_lX12_220 k_yX12_unit (k_oM0 w) (by omega) rfl (Nat.le_of_ble_eq_true rfl)) ?_
          refine k_aload_n C dX12_goOnAnd_31 0 rfl ?_
          refine k_bipush C dX12_goOnAnd_32 (v := 10) rfl ?_
          refine k_iconst C dX12_goOnAnd_34 (v := 0) rfl ?_
          obtain ⟨s35, h35, h⟩ := k_bd_e h
          refine k_goV (k_runV C dX12_goOnAnd_35 (e_X12_put (d := 2) (Nat.le_refl _) h35) k_lX12_193 k_yX12_put (k_oM0 w) (by omega) rfl (Nat.le_of_ble_eq_true rfl)) ?_
          refine k_goto C dX12_goOnAnd_38 (tgt := 0) (by decide) ?_
          exact ih0 _ h
  exact K0 _ _ h
def b_X12_goOnOr (p_goOnAnd : k_St → Option (k_St)) (p_unit : k_St → Option (k_St))  (σ : k_St) : Option (k_St) :=
  k_loop (fun (g0 : k_St → Option (k_St)) (z0 : k_St) => match z0 with
    | s_0 =>
      k_if ((k_rd s_0 0 4) = (-1 : Int32))
        (k_b2 (f_X12_look s_0) fun v9 s9 =>
        k_if (v9 = (124 : Int32))
          (k_nm (k_wr s9 0 3 ((k_rd s9 0 3) + (1 : Int32))) fun s24 =>
          k_bd (p_unit s24) fun s28 =>
          k_bd (p_goOnAnd s28) fun s32 =>
          k_bd (f_X12_put (11 : Int32) (0 : Int32) s32) fun s39 =>
          g0 s39)
          (some s9))
        (some s_0)) 100000 σ
set_option maxHeartbeats 4000000 in
set_option maxRecDepth 100000 in
theorem eb_X12_goOnOr {p_goOnAnd : k_St → Option (k_St)} {p_unit : k_St → Option (k_St)} {d0 : Nat} (H_goOnAnd : ∀ {l : Launch} {w : k_WC} {d : Nat} (_ : d0 ≤ d)  {σ σ' : k_St} (_ : p_goOnAnd σ = some σ'), k_EV l (k_PM w) yX12_goOnAnd cX12_goOnAnd 1 d [.ref (w.2.1 0)] σ σ') (H_unit : ∀ {l : Launch} {w : k_WC} {d : Nat} (_ : d0 ≤ d)  {σ σ' : k_St} (_ : p_unit σ = some σ'), k_EV l (k_PM w) yX12_unit cX12_unit 2 d [.ref (w.2.1 0)] σ σ') {l : Launch} {w : k_WC} {d : Nat} (hb : 67 ≤ d0) (hd : d0 < d)   {σ σ' : k_St} (h : b_X12_goOnOr p_goOnAnd p_unit σ = some σ') : k_EV l (k_PM w) yX12_goOnOr cX12_goOnOr 1 d [.ref (w.2.1 0)] σ σ' := by
  refine k_of (own := RX12) rfl (by decide) (Nat.le_of_ble_eq_true rfl) (fun X hX C hr => ?_)
  show k_K (k_PM w) X (k_MQ X (k_Qv (k_PM w) σ') (k_PM w).2.2.1) 0 [(0, .ref (w.2.1 0))] [] σ
  unfold b_X12_goOnOr at h
  obtain ⟨b0, eb0, h⟩ := k_lp_e h
  have K0 : ∀ (n : Nat) (s_0 : k_St), k_loop b0 n s_0 = some σ' → k_K (k_PM w) X (k_MQ X (k_Qv (k_PM w) σ') (k_PM w).2.2.1) 0 [(0, .ref (w.2.1 0))] [] s_0 := by
    intro n
    induction n with
    | zero => intro s_0 h; cases h
    | succ n ih0 =>
      intro s_0 h
      obtain ⟨g0, eg0, h⟩ := k_lp_s h
      rw [← eg0] at ih0
      rw [eb0] at h
      refine k_aload_n C dX12_goOnOr_0 0 rfl ?_
      refine k_get C dX12_goOnOr_1 (k_gM0_4 w) k_fX12_171 (Or.inl rfl) ?_
      refine k_iconst C dX12_goOnOr_4 (v := -1) rfl ?_
      refine k_icmp_ne C dX12_goOnOr_5 (tgt := 45) (by decide) (fun c5 => ?_) (fun c5 => ?_)
      · replace h := k_if_f h c5
        exact k_vret C dX12_goOnOr_45 hr (Option.some.inj h)
      · replace h := k_if_t h c5
        refine k_aload_n C dX12_goOnOr_8 0 rfl ?_
        obtain ⟨v9, s9, h9, h⟩ := k_b2_e h
        refine k_goI (k_runV C dX12_goOnOr_9 (e_X12_look (d := 3) (Nat.le_refl _) h9) k_lX12_183 k_yX12_look (k_oM0 w) (by omega) rfl (Nat.le_of_ble_eq_true rfl)) ?_
        refine k_bipush C dX12_goOnOr_12 (v := 124) rfl ?_
        refine k_icmp_ne C dX12_goOnOr_14 (tgt := 45) (by decide) (fun c14 => ?_) (fun c14 => ?_)
        · replace h := k_if_f h c14
          exact k_vret C dX12_goOnOr_45 hr (Option.some.inj h)
        · replace h := k_if_t h c14
          refine k_aload_n C dX12_goOnOr_17 0 rfl ?_
          refine k_dup C dX12_goOnOr_18 rfl ?_
          refine k_get C dX12_goOnOr_19 (k_gM0_3 w) k_fX12_164 (Or.inl rfl) ?_
          refine k_iconst C dX12_goOnOr_22 (v := 1) rfl ?_
          refine k_iadd C dX12_goOnOr_23 ?_
          refine k_puti C dX12_goOnOr_24 (k_pM0_3 w) k_fX12_164 (Or.inl rfl) k_xi ?_
          refine k_st (fun s24 es24 => ?_)
          replace h := k_nm_e h s24 es24
          refine k_aload_n C dX12_goOnOr_27 0 rfl ?_
          obtain ⟨s28, h28, h⟩ := k_bd_e h
          refine k_goV (k_runV C dX12_goOnOr_28 (H_unit (d := d0) (Nat.le_refl _) h28) k_lX12_220 k_yX12_unit (k_oM0 w) (by omega) rfl (Nat.le_of_ble_eq_true rfl)) ?_
          refine k_aload_n C dX12_goOnOr_31 0 rfl ?_
          obtain ⟨s32, h32, h⟩ := k_bd_e h
          refine k_goV (k_runV C dX12_goOnOr_32 (H_goOnAnd (d := d0) (Nat.le_refl _) h32) k_lX12_229 k_yX12_goOnAnd (k_oM0 w) (by omega) rfl (Nat.le_of_ble_eq_true rfl)) ?_
          refine k_aload_n C dX12_goOnOr_35 0 rfl ?_
          refine k_bipush C dX12_goOnOr_36 (v := 11) rfl ?_
          refine k_iconst C dX12_goOnOr_38 (v := 0) rfl ?_
          obtain ⟨s39, h39, h⟩ := k_bd_e h
          refine k_goV (k_runV C dX12_goOnOr_39 (e_X12_put (d := 2) (Nat.le_refl _) h39) k_lX12_193 k_yX12_put (k_oM0 w) (by omega) rfl (Nat.le_of_ble_eq_true rfl)) ?_
          refine k_goto C dX12_goOnOr_42 (tgt := 0) (by decide) ?_
          exact ih0 _ h
  exact K0 _ _ h
def b_X12_condition (p_goOnAnd : k_St → Option (k_St)) (p_goOnOr : k_St → Option (k_St)) (p_unit : k_St → Option (k_St))  (σ : k_St) : Option (k_St) :=
  k_bd (p_unit σ) fun s1 =>
  k_bd (p_goOnAnd s1) fun s5 =>
  k_bd (p_goOnOr s5) fun s9 =>
  some s9
set_option maxHeartbeats 4000000 in
set_option maxRecDepth 100000 in
theorem eb_X12_condition {p_goOnAnd : k_St → Option (k_St)} {p_goOnOr : k_St → Option (k_St)} {p_unit : k_St → Option (k_St)} {d0 : Nat} (H_goOnAnd : ∀ {l : Launch} {w : k_WC} {d : Nat} (_ : d0 ≤ d)  {σ σ' : k_St} (_ : p_goOnAnd σ = some σ'), k_EV l (k_PM w) yX12_goOnAnd cX12_goOnAnd 1 d [.ref (w.2.1 0)] σ σ') (H_goOnOr : ∀ {l : Launch} {w : k_WC} {d : Nat} (_ : d0 ≤ d)  {σ σ' : k_St} (_ : p_goOnOr σ = some σ'), k_EV l (k_PM w) yX12_goOnOr cX12_goOnOr 1 d [.ref (w.2.1 0)] σ σ') (H_unit : ∀ {l : Launch} {w : k_WC} {d : Nat} (_ : d0 ≤ d)  {σ σ' : k_St} (_ : p_unit σ = some σ'), k_EV l (k_PM w) yX12_unit cX12_unit 2 d [.ref (w.2.1 0)] σ σ') {l : Launch} {w : k_WC} {d : Nat} (hb : 67 ≤ d0) (hd : d0 < d)   {σ σ' : k_St} (h : b_X12_condition p_goOnAnd p_goOnOr p_unit σ = some σ') : k_EV l (k_PM w) yX12_condition cX12_condition 1 d [.ref (w.2.1 0)] σ σ' := by
  refine k_of (own := RX12) rfl (by decide) (Nat.le_of_ble_eq_true rfl) (fun X hX C hr => ?_)
  show k_K (k_PM w) X (k_MQ X (k_Qv (k_PM w) σ') (k_PM w).2.2.1) 0 [(0, .ref (w.2.1 0))] [] σ
  unfold b_X12_condition at h
  refine k_aload_n C dX12_condition_0 0 rfl ?_
  obtain ⟨s1, h1, h⟩ := k_bd_e h
  refine k_goV (k_runV C dX12_condition_1 (H_unit (d := d0) (Nat.le_refl _) h1) k_lX12_220 k_yX12_unit (k_oM0 w) (by omega) rfl (Nat.le_of_ble_eq_true rfl)) ?_
  refine k_aload_n C dX12_condition_4 0 rfl ?_
  obtain ⟨s5, h5, h⟩ := k_bd_e h
  refine k_goV (k_runV C dX12_condition_5 (H_goOnAnd (d := d0) (Nat.le_refl _) h5) k_lX12_229 k_yX12_goOnAnd (k_oM0 w) (by omega) rfl (Nat.le_of_ble_eq_true rfl)) ?_
  refine k_aload_n C dX12_condition_8 0 rfl ?_
  obtain ⟨s9, h9, h⟩ := k_bd_e h
  refine k_goV (k_runV C dX12_condition_9 (H_goOnOr (d := d0) (Nat.le_refl _) h9) k_lX12_232 k_yX12_goOnOr (k_oM0 w) (by omega) rfl (Nat.le_of_ble_eq_true rfl)) ?_
  exact k_vret C dX12_condition_12 hr (Option.some.inj h)
def b_X12_unit (p_condition : k_St → Option (k_St)) (p_unit : k_St → Option (k_St))  (σ : k_St) : Option (k_St) :=
  k_b2 (f_X12_look σ) fun v1 s1 =>
  k_if (v1 = (33 : Int32))
    (k_bd (f_X12_opens s1) fun s12 =>
    k_if ((k_rd s12 0 4) = (-1 : Int32))
      (k_bd (p_unit s12) fun s24 =>
      k_bd (f_X12_put (9 : Int32) (0 : Int32) s24) fun s31 =>
      k_nm (k_wr s31 0 5 ((k_rd s31 0 5) - (1 : Int32))) fun s41 =>
      some s41)
      (some s12))
    (k_if (v1 = (40 : Int32))
      (k_bd (f_X12_opens s1) fun s54 =>
      k_if ((k_rd s54 0 4) = (-1 : Int32))
        (k_bd (p_condition s54) fun s66 =>
        k_bd (f_X12_closes (41 : Int32) s66) fun s72 =>
        some s72)
        (some s54))
      (k_bd (f_X12_sum 20 s1) fun s79 =>
      k_if ((k_rd s79 0 4) = (-1 : Int32))
        (k_bd (f_X12_compare s79) fun s91 =>
        some s91)
        (some s79)))
set_option maxHeartbeats 4000000 in
set_option maxRecDepth 100000 in
theorem eb_X12_unit {p_condition : k_St → Option (k_St)} {p_unit : k_St → Option (k_St)} {d0 : Nat} (H_condition : ∀ {l : Launch} {w : k_WC} {d : Nat} (_ : d0 ≤ d)  {σ σ' : k_St} (_ : p_condition σ = some σ'), k_EV l (k_PM w) yX12_condition cX12_condition 1 d [.ref (w.2.1 0)] σ σ') (H_unit : ∀ {l : Launch} {w : k_WC} {d : Nat} (_ : d0 ≤ d)  {σ σ' : k_St} (_ : p_unit σ = some σ'), k_EV l (k_PM w) yX12_unit cX12_unit 2 d [.ref (w.2.1 0)] σ σ') {l : Launch} {w : k_WC} {d : Nat} (hb : 67 ≤ d0) (hd : d0 < d)   {σ σ' : k_St} (h : b_X12_unit p_condition p_unit σ = some σ') : k_EV l (k_PM w) yX12_unit cX12_unit 2 d [.ref (w.2.1 0)] σ σ' := by
  refine k_of (own := RX12) rfl (by decide) (Nat.le_of_ble_eq_true rfl) (fun X hX C hr => ?_)
  show k_K (k_PM w) X (k_MQ X (k_Qv (k_PM w) σ') (k_PM w).2.2.1) 0 [(0, .ref (w.2.1 0))] [] σ
  unfold b_X12_unit at h
  refine k_aload_n C dX12_unit_0 0 rfl ?_
  obtain ⟨v1, s1, h1, h⟩ := k_b2_e h
  refine k_goI (k_runV C dX12_unit_1 (e_X12_look (d := 3) (Nat.le_refl _) h1) k_lX12_183 k_yX12_look (k_oM0 w) (by omega) rfl (Nat.le_of_ble_eq_true rfl)) ?_
  refine k_istore_n C dX12_unit_4 (by decide) [1, 0] (L' := [(0, .ref (w.2.1 0)), (1, .int v1)]) rfl ?_
  refine k_iload_n C dX12_unit_5 1 rfl ?_
  refine k_bipush C dX12_unit_6 (v := 33) rfl ?_
  refine k_icmp_ne C dX12_unit_8 (tgt := 47) (by decide) (fun c8 => ?_) (fun c8 => ?_)
  · replace h := k_if_f h c8
    refine k_iload_n C dX12_unit_47 1 rfl ?_
    refine k_bipush C dX12_unit_48 (v := 40) rfl ?_
    refine k_icmp_ne C dX12_unit_50 (tgt := 78) (by decide) (fun c50 => ?_) (fun c50 => ?_)
    · replace h := k_if_f h c50
      refine k_aload_n C dX12_unit_78 0 rfl ?_
      obtain ⟨s79, h79, h⟩ := k_bd_e h
      refine k_goV (k_runV C dX12_unit_79 (e_X12_sum (d := 65) (Nat.le_refl _) h79) k_lX12_204 k_yX12_sum (k_oM0 w) (by omega) rfl (Nat.le_of_ble_eq_true rfl)) ?_
      refine k_aload_n C dX12_unit_82 0 rfl ?_
      refine k_get C dX12_unit_83 (k_gM0_4 w) k_fX12_171 (Or.inl rfl) ?_
      refine k_iconst C dX12_unit_86 (v := -1) rfl ?_
      refine k_icmp_ne C dX12_unit_87 (tgt := 94) (by decide) (fun c87 => ?_) (fun c87 => ?_)
      · replace h := k_if_f h c87
        exact k_vret C dX12_unit_94 hr (Option.some.inj h)
      · replace h := k_if_t h c87
        refine k_aload_n C dX12_unit_90 0 rfl ?_
        obtain ⟨s91, h91, h⟩ := k_bd_e h
        refine k_goV (k_runV C dX12_unit_91 (e_X12_compare (d := 66) (Nat.le_refl _) h91) k_lX12_226 k_yX12_compare (k_oM0 w) (by omega) rfl (Nat.le_of_ble_eq_true rfl)) ?_
        exact k_vret C dX12_unit_94 hr (Option.some.inj h)
    · replace h := k_if_t h c50
      refine k_aload_n C dX12_unit_53 0 rfl ?_
      obtain ⟨s54, h54, h⟩ := k_bd_e h
      refine k_goV (k_runV C dX12_unit_54 (e_X12_opens (d := 3) (Nat.le_refl _) h54) k_lX12_201 k_yX12_opens (k_oM0 w) (by omega) rfl (Nat.le_of_ble_eq_true rfl)) ?_
      refine k_aload_n C dX12_unit_57 0 rfl ?_
      refine k_get C dX12_unit_58 (k_gM0_4 w) k_fX12_171 (Or.inl rfl) ?_
      refine k_iconst C dX12_unit_61 (v := -1) rfl ?_
      refine k_icmp_ne C dX12_unit_62 (tgt := 94) (by decide) (fun c62 => ?_) (fun c62 => ?_)
      · replace h := k_if_f h c62
        exact k_vret C dX12_unit_94 hr (Option.some.inj h)
      · replace h := k_if_t h c62
        refine k_aload_n C dX12_unit_65 0 rfl ?_
        obtain ⟨s66, h66, h⟩ := k_bd_e h
        refine k_goV (k_runV C dX12_unit_66 (H_condition (d := d0) (Nat.le_refl _) h66) k_lX12_223 k_yX12_condition (k_oM0 w) (by omega) rfl (Nat.le_of_ble_eq_true rfl)) ?_
        refine k_aload_n C dX12_unit_69 0 rfl ?_
        refine k_bipush C dX12_unit_70 (v := 41) rfl ?_
        obtain ⟨s72, h72, h⟩ := k_bd_e h
        refine k_goV (k_runV C dX12_unit_72 (e_X12_closes (d := 4) (Nat.le_refl _) h72) k_lX12_207 k_yX12_closes (k_oM0 w) (by omega) rfl (Nat.le_of_ble_eq_true rfl)) ?_
        refine k_goto C dX12_unit_75 (tgt := 94) (by decide) ?_
        exact k_vret C dX12_unit_94 hr (Option.some.inj h)
  · replace h := k_if_t h c8
    refine k_aload_n C dX12_unit_11 0 rfl ?_
    obtain ⟨s12, h12, h⟩ := k_bd_e h
    refine k_goV (k_runV C dX12_unit_12 (e_X12_opens (d := 3) (Nat.le_refl _) h12) k_lX12_201 k_yX12_opens (k_oM0 w) (by omega) rfl (Nat.le_of_ble_eq_true rfl)) ?_
    refine k_aload_n C dX12_unit_15 0 rfl ?_
    refine k_get C dX12_unit_16 (k_gM0_4 w) k_fX12_171 (Or.inl rfl) ?_
    refine k_iconst C dX12_unit_19 (v := -1) rfl ?_
    refine k_icmp_ne C dX12_unit_20 (tgt := 94) (by decide) (fun c20 => ?_) (fun c20 => ?_)
    · replace h := k_if_f h c20
      exact k_vret C dX12_unit_94 hr (Option.some.inj h)
    · replace h := k_if_t h c20
      refine k_aload_n C dX12_unit_23 0 rfl ?_
      obtain ⟨s24, h24, h⟩ := k_bd_e h
      refine k_goV (k_runV C dX12_unit_24 (H_unit (d := d0) (Nat.le_refl _) h24) k_lX12_220 k_yX12_unit (k_oM0 w) (by omega) rfl (Nat.le_of_ble_eq_true rfl)) ?_
      refine k_aload_n C dX12_unit_27 0 rfl ?_
      refine k_bipush C dX12_unit_28 (v := 9) rfl ?_
      refine k_iconst C dX12_unit_30 (v := 0) rfl ?_
      obtain ⟨s31, h31, h⟩ := k_bd_e h
      refine k_goV (k_runV C dX12_unit_31 (e_X12_put (d := 2) (Nat.le_refl _) h31) k_lX12_193 k_yX12_put (k_oM0 w) (by omega) rfl (Nat.le_of_ble_eq_true rfl)) ?_
      refine k_aload_n C dX12_unit_34 0 rfl ?_
      refine k_dup C dX12_unit_35 rfl ?_
      refine k_get C dX12_unit_36 (k_gM0_5 w) k_fX12_177 (Or.inl rfl) ?_
      refine k_iconst C dX12_unit_39 (v := 1) rfl ?_
      refine k_isub C dX12_unit_40 ?_
      refine k_puti C dX12_unit_41 (k_pM0_5 w) k_fX12_177 (Or.inl rfl) k_xi ?_
      refine k_st (fun s41 es41 => ?_)
      replace h := k_nm_e h s41 es41
      refine k_goto C dX12_unit_44 (tgt := 94) (by decide) ?_
      exact k_vret C dX12_unit_94 hr (Option.some.inj h)
def f_X12_unit : Nat → k_St → Option (k_St)
  | 0 => fun _ => none
  | n + 1 => b_X12_unit (b_X12_condition (b_X12_goOnAnd (f_X12_unit n)) (b_X12_goOnOr (b_X12_goOnAnd (f_X12_unit n)) (f_X12_unit n)) (f_X12_unit n)) (f_X12_unit n)
def f_X12_goOnAnd (n : Nat) : k_St → Option (k_St) := (b_X12_goOnAnd (f_X12_unit n))
def f_X12_goOnOr (n : Nat) : k_St → Option (k_St) := (b_X12_goOnOr (b_X12_goOnAnd (f_X12_unit n)) (f_X12_unit n))
def f_X12_condition (n : Nat) : k_St → Option (k_St) := (b_X12_condition (b_X12_goOnAnd (f_X12_unit n)) (b_X12_goOnOr (b_X12_goOnAnd (f_X12_unit n)) (f_X12_unit n)) (f_X12_unit n))
theorem e_X12_unit_all : ∀ n : Nat, ∀ {l : Launch} {w : k_WC} {d : Nat} (_ : 67 + 4 * n ≤ d)  {σ σ' : k_St} (_ : f_X12_unit n σ = some σ'), k_EV l (k_PM w) yX12_unit cX12_unit 2 d [.ref (w.2.1 0)] σ σ'
  | 0 => fun _ => by
    intros; rename_i h; cases h
  | n + 1 => by
    have ih := @e_X12_unit_all n
    have E_goOnAnd : ∀ {l : Launch} {w : k_WC} {d : Nat} (_ : 67 + 4 * n + 1 ≤ d)  {σ σ' : k_St} (_ : (b_X12_goOnAnd (f_X12_unit n)) σ = some σ'), k_EV l (k_PM w) yX12_goOnAnd cX12_goOnAnd 1 d [.ref (w.2.1 0)] σ σ' := fun hd => fun h => eb_X12_goOnAnd (d0 := 67 + 4 * n + 0) (fun hd => fun h => ih (by omega) h) (by omega) (by omega) h
    have E_goOnOr : ∀ {l : Launch} {w : k_WC} {d : Nat} (_ : 67 + 4 * n + 2 ≤ d)  {σ σ' : k_St} (_ : (b_X12_goOnOr (b_X12_goOnAnd (f_X12_unit n)) (f_X12_unit n)) σ = some σ'), k_EV l (k_PM w) yX12_goOnOr cX12_goOnOr 1 d [.ref (w.2.1 0)] σ σ' := fun hd => fun h => eb_X12_goOnOr (d0 := 67 + 4 * n + 1) (fun hd => fun h => E_goOnAnd (by omega) h) (fun hd => fun h => ih (by omega) h) (by omega) (by omega) h
    have E_condition : ∀ {l : Launch} {w : k_WC} {d : Nat} (_ : 67 + 4 * n + 3 ≤ d)  {σ σ' : k_St} (_ : (b_X12_condition (b_X12_goOnAnd (f_X12_unit n)) (b_X12_goOnOr (b_X12_goOnAnd (f_X12_unit n)) (f_X12_unit n)) (f_X12_unit n)) σ = some σ'), k_EV l (k_PM w) yX12_condition cX12_condition 1 d [.ref (w.2.1 0)] σ σ' := fun hd => fun h => eb_X12_condition (d0 := 67 + 4 * n + 2) (fun hd => fun h => E_goOnAnd (by omega) h) (fun hd => fun h => E_goOnOr (by omega) h) (fun hd => fun h => ih (by omega) h) (by omega) (by omega) h
    exact fun hd => fun h => eb_X12_unit (d0 := 67 + 4 * n + 3) (fun hd => fun h => E_condition (by omega) h) (fun hd => fun h => ih (by omega) h) (by omega) (by omega) h
theorem e_X12_unit : ∀ {l : Launch} {w : k_WC} {d : Nat} (_ : 147 ≤ d)  {σ σ' : k_St} (_ : f_X12_unit 20 σ = some σ'), k_EV l (k_PM w) yX12_unit cX12_unit 2 d [.ref (w.2.1 0)] σ σ' := fun hd => fun h => e_X12_unit_all 20 (by omega) h
theorem e_X12_goOnAnd : ∀ {l : Launch} {w : k_WC} {d : Nat} (_ : 148 ≤ d)  {σ σ' : k_St} (_ : f_X12_goOnAnd 20 σ = some σ'), k_EV l (k_PM w) yX12_goOnAnd cX12_goOnAnd 1 d [.ref (w.2.1 0)] σ σ' := fun hd => fun h => eb_X12_goOnAnd (d0 := 147) (fun hd => fun h => e_X12_unit_all 20 (by omega) h) (by omega) (by omega) h
theorem e_X12_goOnOr : ∀ {l : Launch} {w : k_WC} {d : Nat} (_ : 149 ≤ d)  {σ σ' : k_St} (_ : f_X12_goOnOr 20 σ = some σ'), k_EV l (k_PM w) yX12_goOnOr cX12_goOnOr 1 d [.ref (w.2.1 0)] σ σ' := fun hd => fun h => eb_X12_goOnOr (d0 := 148) (fun hd => fun h => e_X12_goOnAnd (by omega) h) (fun hd => fun h => e_X12_unit_all 20 (by omega) h) (by omega) (by omega) h
theorem e_X12_condition : ∀ {l : Launch} {w : k_WC} {d : Nat} (_ : 150 ≤ d)  {σ σ' : k_St} (_ : f_X12_condition 20 σ = some σ'), k_EV l (k_PM w) yX12_condition cX12_condition 1 d [.ref (w.2.1 0)] σ σ' := fun hd => fun h => eb_X12_condition (d0 := 149) (fun hd => fun h => e_X12_goOnAnd (by omega) h) (fun hd => fun h => e_X12_goOnOr (by omega) h) (fun hd => fun h => e_X12_unit_all 20 (by omega) h) (by omega) (by omega) h
def f_X12_clause  (σ : k_St) : Option (k_St) :=
  k_gd (k_ix (k_rd σ 0 14) 5 = true) <|
  k_nm ((((90 : Int32) * (k_rd σ 0 14)) + (k_rd σ 5 (k_rd σ 0 14).toNatClampNeg))) fun y17 =>
  k_jn (fun (s_39 : k_St) =>
    k_nm (k_wr s_39 0 3 ((k_rd s_39 0 3) + (1 : Int32))) fun s46 =>
    k_jn (fun (s_70 : k_St) =>
      k_nm (k_wr s_70 0 3 ((k_rd s_70 0 3) + (1 : Int32))) fun s77 =>
      k_if ((k_rd s77 0 4) = (-1 : Int32))
        (k_gd (k_ix (k_rd s77 0 14) 5 = true) <|
        k_gd (k_ix y17 450 = true) <|
        k_nm (k_wr s77 6 y17.toNatClampNeg (k_rd s77 4 (k_rd s77 0 14).toNatClampNeg)) fun s103 =>
        k_b2 (f_X12_look s103) fun v105 s105 =>
        k_jn (fun (t0_127 : Int32) (s_127 : k_St) =>
          k_jn (fun (v2_183 : Int32) (s_183 : k_St) =>
            k_gd (k_ix y17 450 = true) <|
            k_gd (k_ix y17 450 = true) <|
            k_nm (k_wr s_183 7 y17.toNatClampNeg (k_rd s_183 6 y17.toNatClampNeg)) fun s194 =>
            k_jn (fun (s_250 : k_St) =>
              k_gd (k_ix (k_rd s_250 0 14) 5 = true) <|
              k_gd (k_ix y17 450 = true) <|
              k_nm (k_wr s_250 8 y17.toNatClampNeg (k_rd s_250 4 (k_rd s_250 0 14).toNatClampNeg)) fun s264 =>
              k_nm ((k_rd s264 0 14)) fun y273 =>
              k_gd (k_ix y273 5 = true) <|
              k_gd (k_ix y273 5 = true) <|
              k_nm (k_wr s264 5 y273.toNatClampNeg ((k_rd s264 5 y273.toNatClampNeg) + (1 : Int32))) fun s277 =>
              some s277) fun j250 =>
            k_if (v2_183 = (0 : Int32))
              (j250 s194)
              (k_if ((k_rd s194 0 4) = (-1 : Int32))
                (k_b2 (f_X12_look s194) fun v208 s208 =>
                k_if (v208 = (63 : Int32))
                  (k_nm (k_wr s208 0 3 ((k_rd s208 0 3) + (1 : Int32))) fun s228 =>
                  k_gd (k_ix (k_rd s228 0 14) 5 = true) <|
                  k_gd (k_ix y17 450 = true) <|
                  k_nm (k_wr s228 7 y17.toNatClampNeg (k_rd s228 4 (k_rd s228 0 14).toNatClampNeg)) fun s245 =>
                  k_bd (f_X12_sum 20 s245) fun s247 =>
                  j250 s247)
                  (k_bd (f_X12_bad s208) fun s217 =>
                  some s217))
                (j250 s194))) fun j183 =>
          k_if (t0_127 = (0 : Int32))
            (k_bd (f_X12_sum 20 s_127) fun s140 =>
            k_jn (fun (t0_166 : Int32) (s_166 : k_St) =>
              k_if (t0_166 = (0 : Int32))
                (j183 t0_166 s_166)
                (k_bd (f_X12_compare s_166) fun s172 =>
                k_bd (f_X12_goOnAnd 20 s172) fun s176 =>
                k_bd (f_X12_goOnOr 20 s176) fun s180 =>
                j183 t0_166 s180)) fun j166 =>
            k_jn (fun (s_165 : k_St) =>
              j166 (0 : Int32) s_165) fun j165 =>
            k_if ((k_rd s140 0 4) = (-1 : Int32))
              (k_b2 (f_X12_look s140) fun v152 s152 =>
              k_bd (f_X12_isSign v152) fun v155 =>
              k_if (v155 = (0 : Int32))
                (j165 s152)
                (j166 (1 : Int32) s152))
              (j165 s140))
            (k_bd (f_X12_condition 20 s_127) fun s133 =>
            j183 t0_127 s133)) fun j127 =>
        k_jn (fun (s_122 : k_St) =>
          j127 (1 : Int32) s_122) fun j122 =>
        k_if (v105 = (33 : Int32))
          (j122 s105)
          (k_b2 (f_X12_look s105) fun v114 s114 =>
          k_if (v114 = (40 : Int32))
            (j122 s114)
            (j127 (0 : Int32) s114)))
        (some s77)) fun j70 =>
    k_if ((k_rd s46 0 4) = (-1 : Int32))
      (k_b2 (f_X12_look s46) fun v58 s58 =>
      k_if (v58 = (58 : Int32))
        (j70 s58)
        (k_bd (f_X12_bad s58) fun s67 =>
        j70 s67))
      (j70 s46)) fun j39 =>
  k_if ((k_rd σ 0 4) = (-1 : Int32))
    (k_b2 (f_X12_look σ) fun v27 s27 =>
    k_if (v27 = (121 : Int32))
      (j39 s27)
      (k_bd (f_X12_bad s27) fun s36 =>
      j39 s36))
    (j39 σ)
set_option maxHeartbeats 4000000 in
set_option maxRecDepth 100000 in
theorem e_X12_clause {l : Launch} {w : k_WC} {d : Nat} (hd : 151 ≤ d)   {σ σ' : k_St} (h : f_X12_clause σ = some σ') : k_EV l (k_PM w) yX12_clause cX12_clause 3 d [.ref (w.2.1 0)] σ σ' := by
  refine k_of (own := RX12) rfl (by decide) (Nat.le_of_ble_eq_true rfl) (fun X hX C hr => ?_)
  show k_K (k_PM w) X (k_MQ X (k_Qv (k_PM w) σ') (k_PM w).2.2.1) 0 [(0, .ref (w.2.1 0))] [] σ
  unfold f_X12_clause at h
  refine k_bipush C dX12_clause_0 (v := 90) rfl ?_
  refine k_aload_n C dX12_clause_2 0 rfl ?_
  refine k_get C dX12_clause_3 (k_gM0_14 w) k_fX12_174 (Or.inl rfl) ?_
  refine k_imul C dX12_clause_6 ?_
  refine k_aload_n C dX12_clause_7 0 rfl ?_
  refine k_get C dX12_clause_8 (k_gM0_9 w) k_fX12_22 (Or.inl rfl) ?_
  refine k_aload_n C dX12_clause_11 0 rfl ?_
  refine k_get C dX12_clause_12 (k_gM0_14 w) k_fX12_174 (Or.inl rfl) ?_
  obtain ⟨q15, h⟩ := k_gd_e h
  refine k_iald C dX12_clause_15 (k_aM5 w) q15 ?_
  refine k_iadd C dX12_clause_16 ?_
  refine k_topi (fun y17 ey17 => ?_)
  replace h := k_nm_e h y17 ey17
  refine k_istore_n C dX12_clause_17 (by decide) [1, 0] (L' := [(0, .ref (w.2.1 0)), (1, .int y17)]) rfl ?_
  refine k_aload_n C dX12_clause_18 0 rfl ?_
  refine k_get C dX12_clause_19 (k_gM0_4 w) k_fX12_171 (Or.inl rfl) ?_
  refine k_iconst C dX12_clause_22 (v := -1) rfl ?_
  obtain ⟨j39, ej39, h⟩ := k_jn_e h
  have Jj39 : ∀ (s_39 : k_St), j39 s_39 = some σ' → k_K (k_PM w) X (k_MQ X (k_Qv (k_PM w) σ') (k_PM w).2.2.1) 39 [(0, .ref (w.2.1 0)), (1, .int y17)] [] s_39 := by
    intro s_39 h
    rw [ej39] at h
    refine k_aload_n C dX12_clause_39 0 rfl ?_
    refine k_dup C dX12_clause_40 rfl ?_
    refine k_get C dX12_clause_41 (k_gM0_3 w) k_fX12_164 (Or.inl rfl) ?_
    refine k_iconst C dX12_clause_44 (v := 1) rfl ?_
    refine k_iadd C dX12_clause_45 ?_
    refine k_puti C dX12_clause_46 (k_pM0_3 w) k_fX12_164 (Or.inl rfl) k_xi ?_
    refine k_st (fun s46 es46 => ?_)
    replace h := k_nm_e h s46 es46
    refine k_aload_n C dX12_clause_49 0 rfl ?_
    refine k_get C dX12_clause_50 (k_gM0_4 w) k_fX12_171 (Or.inl rfl) ?_
    refine k_iconst C dX12_clause_53 (v := -1) rfl ?_
    obtain ⟨j70, ej70, h⟩ := k_jn_e h
    have Jj70 : ∀ (s_70 : k_St), j70 s_70 = some σ' → k_K (k_PM w) X (k_MQ X (k_Qv (k_PM w) σ') (k_PM w).2.2.1) 70 [(0, .ref (w.2.1 0)), (1, .int y17)] [] s_70 := by
      intro s_70 h
      rw [ej70] at h
      refine k_aload_n C dX12_clause_70 0 rfl ?_
      refine k_dup C dX12_clause_71 rfl ?_
      refine k_get C dX12_clause_72 (k_gM0_3 w) k_fX12_164 (Or.inl rfl) ?_
      refine k_iconst C dX12_clause_75 (v := 1) rfl ?_
      refine k_iadd C dX12_clause_76 ?_
      refine k_puti C dX12_clause_77 (k_pM0_3 w) k_fX12_164 (Or.inl rfl) k_xi ?_
      refine k_st (fun s77 es77 => ?_)
      replace h := k_nm_e h s77 es77
      refine k_aload_n C dX12_clause_80 0 rfl ?_
      refine k_get C dX12_clause_81 (k_gM0_4 w) k_fX12_171 (Or.inl rfl) ?_
      refine k_iconst C dX12_clause_84 (v := -1) rfl ?_
      refine k_icmp_eq C dX12_clause_85 (tgt := 89) (by decide) (fun c85 => ?_) (fun c85 => ?_)
      · replace h := k_if_t h c85
        refine k_aload_n C dX12_clause_89 0 rfl ?_
        refine k_get C dX12_clause_90 (k_gM0_10 w) k_fX12_25 (Or.inl rfl) ?_
        refine k_iload_n C dX12_clause_93 1 rfl ?_
        refine k_aload_n C dX12_clause_94 0 rfl ?_
        refine k_get C dX12_clause_95 (k_gM0_8 w) k_fX12_19 (Or.inl rfl) ?_
        refine k_aload_n C dX12_clause_98 0 rfl ?_
        refine k_get C dX12_clause_99 (k_gM0_14 w) k_fX12_174 (Or.inl rfl) ?_
        obtain ⟨q102, h⟩ := k_gd_e h
        refine k_iald C dX12_clause_102 (k_aM4 w) q102 ?_
        obtain ⟨q103, h⟩ := k_gd_e h
        refine k_iast C dX12_clause_103 (k_aM6 w) q103 ?_
        refine k_st (fun s103 es103 => ?_)
        replace h := k_nm_e h s103 es103
        refine k_aload_n C dX12_clause_104 0 rfl ?_
        obtain ⟨v105, s105, h105, h⟩ := k_b2_e h
        refine k_goI (k_runV C dX12_clause_105 (e_X12_look (d := 3) (Nat.le_refl _) h105) k_lX12_183 k_yX12_look (k_oM0 w) (by omega) rfl (Nat.le_of_ble_eq_true rfl)) ?_
        refine k_bipush C dX12_clause_108 (v := 33) rfl ?_
        obtain ⟨j127, ej127, h⟩ := k_jn_e h
        have Jj127 : ∀ (t0_127 : Int32) (s_127 : k_St), j127 t0_127 s_127 = some σ' → k_K (k_PM w) X (k_MQ X (k_Qv (k_PM w) σ') (k_PM w).2.2.1) 127 [(0, .ref (w.2.1 0)), (1, .int y17)] [.int t0_127] s_127 := by
          intro t0_127 s_127 h
          rw [ej127] at h
          refine k_istore_n C dX12_clause_127 (by decide) [1, 2, 0] (L' := [(0, .ref (w.2.1 0)), (1, .int y17), (2, .int t0_127)]) rfl ?_
          refine k_iload_n C dX12_clause_128 2 rfl ?_
          obtain ⟨j183, ej183, h⟩ := k_jn_e h
          have Jj183 : ∀ (v2_183 : Int32) (s_183 : k_St), j183 v2_183 s_183 = some σ' → k_K (k_PM w) X (k_MQ X (k_Qv (k_PM w) σ') (k_PM w).2.2.1) 183 [(0, .ref (w.2.1 0)), (1, .int y17), (2, .int v2_183)] [] s_183 := by
            intro v2_183 s_183 h
            rw [ej183] at h
            refine k_aload_n C dX12_clause_183 0 rfl ?_
            refine k_get C dX12_clause_184 (k_gM0_11 w) k_fX12_28 (Or.inl rfl) ?_
            refine k_iload_n C dX12_clause_187 1 rfl ?_
            refine k_aload_n C dX12_clause_188 0 rfl ?_
            refine k_get C dX12_clause_189 (k_gM0_10 w) k_fX12_25 (Or.inl rfl) ?_
            refine k_iload_n C dX12_clause_192 1 rfl ?_
            obtain ⟨q193, h⟩ := k_gd_e h
            refine k_iald C dX12_clause_193 (k_aM6 w) q193 ?_
            obtain ⟨q194, h⟩ := k_gd_e h
            refine k_iast C dX12_clause_194 (k_aM7 w) q194 ?_
            refine k_st (fun s194 es194 => ?_)
            replace h := k_nm_e h s194 es194
            refine k_iload_n C dX12_clause_195 2 rfl ?_
            obtain ⟨j250, ej250, h⟩ := k_jn_e h
            have Jj250 : ∀ (s_250 : k_St), j250 s_250 = some σ' → k_K (k_PM w) X (k_MQ X (k_Qv (k_PM w) σ') (k_PM w).2.2.1) 250 [(0, .ref (w.2.1 0)), (1, .int y17)] [] s_250 := by
              intro s_250 h
              rw [ej250] at h
              refine k_aload_n C dX12_clause_250 0 rfl ?_
              refine k_get C dX12_clause_251 (k_gM0_12 w) k_fX12_31 (Or.inl rfl) ?_
              refine k_iload_n C dX12_clause_254 1 rfl ?_
              refine k_aload_n C dX12_clause_255 0 rfl ?_
              refine k_get C dX12_clause_256 (k_gM0_8 w) k_fX12_19 (Or.inl rfl) ?_
              refine k_aload_n C dX12_clause_259 0 rfl ?_
              refine k_get C dX12_clause_260 (k_gM0_14 w) k_fX12_174 (Or.inl rfl) ?_
              obtain ⟨q263, h⟩ := k_gd_e h
              refine k_iald C dX12_clause_263 (k_aM4 w) q263 ?_
              obtain ⟨q264, h⟩ := k_gd_e h
              refine k_iast C dX12_clause_264 (k_aM8 w) q264 ?_
              refine k_st (fun s264 es264 => ?_)
              replace h := k_nm_e h s264 es264
              refine k_aload_n C dX12_clause_265 0 rfl ?_
              refine k_get C dX12_clause_266 (k_gM0_9 w) k_fX12_22 (Or.inl rfl) ?_
              refine k_aload_n C dX12_clause_269 0 rfl ?_
              refine k_get C dX12_clause_270 (k_gM0_14 w) k_fX12_174 (Or.inl rfl) ?_
              refine k_topi (fun y273 ey273 => ?_)
              replace h := k_nm_e h y273 ey273
              refine k_dup2 C dX12_clause_273 rfl rfl ?_
              obtain ⟨q274, h⟩ := k_gd_e h
              refine k_iald C dX12_clause_274 (k_aM5 w) q274 ?_
              refine k_iconst C dX12_clause_275 (v := 1) rfl ?_
              refine k_iadd C dX12_clause_276 ?_
              obtain ⟨q277, h⟩ := k_gd_e h
              refine k_iast C dX12_clause_277 (k_aM5 w) q277 ?_
              refine k_st (fun s277 es277 => ?_)
              replace h := k_nm_e h s277 es277
              exact k_vret C dX12_clause_278 hr (Option.some.inj h)
            refine k_if_eq C dX12_clause_196 (tgt := 250) (by decide) (fun c196 => ?_) (fun c196 => ?_)
            · replace h := k_if_t h c196
              refine k_sub (L' := [(0, .ref (w.2.1 0)), (1, .int y17)]) [0, 1] rfl ?_
              exact Jj250 _ h
            · replace h := k_if_f h c196
              refine k_aload_n C dX12_clause_199 0 rfl ?_
              refine k_get C dX12_clause_200 (k_gM0_4 w) k_fX12_171 (Or.inl rfl) ?_
              refine k_iconst C dX12_clause_203 (v := -1) rfl ?_
              refine k_icmp_ne C dX12_clause_204 (tgt := 250) (by decide) (fun c204 => ?_) (fun c204 => ?_)
              · replace h := k_if_f h c204
                refine k_sub (L' := [(0, .ref (w.2.1 0)), (1, .int y17)]) [0, 1] rfl ?_
                exact Jj250 _ h
              · replace h := k_if_t h c204
                refine k_aload_n C dX12_clause_207 0 rfl ?_
                obtain ⟨v208, s208, h208, h⟩ := k_b2_e h
                refine k_goI (k_runV C dX12_clause_208 (e_X12_look (d := 3) (Nat.le_refl _) h208) k_lX12_183 k_yX12_look (k_oM0 w) (by omega) rfl (Nat.le_of_ble_eq_true rfl)) ?_
                refine k_bipush C dX12_clause_211 (v := 63) rfl ?_
                refine k_icmp_eq C dX12_clause_213 (tgt := 221) (by decide) (fun c213 => ?_) (fun c213 => ?_)
                · replace h := k_if_t h c213
                  refine k_aload_n C dX12_clause_221 0 rfl ?_
                  refine k_dup C dX12_clause_222 rfl ?_
                  refine k_get C dX12_clause_223 (k_gM0_3 w) k_fX12_164 (Or.inl rfl) ?_
                  refine k_iconst C dX12_clause_226 (v := 1) rfl ?_
                  refine k_iadd C dX12_clause_227 ?_
                  refine k_puti C dX12_clause_228 (k_pM0_3 w) k_fX12_164 (Or.inl rfl) k_xi ?_
                  refine k_st (fun s228 es228 => ?_)
                  replace h := k_nm_e h s228 es228
                  refine k_aload_n C dX12_clause_231 0 rfl ?_
                  refine k_get C dX12_clause_232 (k_gM0_11 w) k_fX12_28 (Or.inl rfl) ?_
                  refine k_iload_n C dX12_clause_235 1 rfl ?_
                  refine k_aload_n C dX12_clause_236 0 rfl ?_
                  refine k_get C dX12_clause_237 (k_gM0_8 w) k_fX12_19 (Or.inl rfl) ?_
                  refine k_aload_n C dX12_clause_240 0 rfl ?_
                  refine k_get C dX12_clause_241 (k_gM0_14 w) k_fX12_174 (Or.inl rfl) ?_
                  obtain ⟨q244, h⟩ := k_gd_e h
                  refine k_iald C dX12_clause_244 (k_aM4 w) q244 ?_
                  obtain ⟨q245, h⟩ := k_gd_e h
                  refine k_iast C dX12_clause_245 (k_aM7 w) q245 ?_
                  refine k_st (fun s245 es245 => ?_)
                  replace h := k_nm_e h s245 es245
                  refine k_aload_n C dX12_clause_246 0 rfl ?_
                  obtain ⟨s247, h247, h⟩ := k_bd_e h
                  refine k_goV (k_runV C dX12_clause_247 (e_X12_sum (d := 65) (Nat.le_refl _) h247) k_lX12_204 k_yX12_sum (k_oM0 w) (by omega) rfl (Nat.le_of_ble_eq_true rfl)) ?_
                  refine k_sub (L' := [(0, .ref (w.2.1 0)), (1, .int y17)]) [0, 1] rfl ?_
                  exact Jj250 _ h
                · replace h := k_if_f h c213
                  refine k_aload_n C dX12_clause_216 0 rfl ?_
                  obtain ⟨s217, h217, h⟩ := k_bd_e h
                  refine k_goV (k_runV C dX12_clause_217 (e_X12_bad (d := 2) (Nat.le_refl _) h217) k_lX12_180 k_yX12_bad (k_oM0 w) (by omega) rfl (Nat.le_of_ble_eq_true rfl)) ?_
                  exact k_vret C dX12_clause_220 hr (Option.some.inj h)
          refine k_if_eq C dX12_clause_129 (tgt := 139) (by decide) (fun c129 => ?_) (fun c129 => ?_)
          · replace h := k_if_t h c129
            refine k_aload_n C dX12_clause_139 0 rfl ?_
            obtain ⟨s140, h140, h⟩ := k_bd_e h
            refine k_goV (k_runV C dX12_clause_140 (e_X12_sum (d := 65) (Nat.le_refl _) h140) k_lX12_204 k_yX12_sum (k_oM0 w) (by omega) rfl (Nat.le_of_ble_eq_true rfl)) ?_
            refine k_aload_n C dX12_clause_143 0 rfl ?_
            refine k_get C dX12_clause_144 (k_gM0_4 w) k_fX12_171 (Or.inl rfl) ?_
            refine k_iconst C dX12_clause_147 (v := -1) rfl ?_
            obtain ⟨j166, ej166, h⟩ := k_jn_e h
            have Jj166 : ∀ (t0_166 : Int32) (s_166 : k_St), j166 t0_166 s_166 = some σ' → k_K (k_PM w) X (k_MQ X (k_Qv (k_PM w) σ') (k_PM w).2.2.1) 166 [(0, .ref (w.2.1 0)), (1, .int y17)] [.int t0_166] s_166 := by
              intro t0_166 s_166 h
              rw [ej166] at h
              refine k_istore_n C dX12_clause_166 (by decide) [1, 2, 0] (L' := [(0, .ref (w.2.1 0)), (1, .int y17), (2, .int t0_166)]) rfl ?_
              refine k_iload_n C dX12_clause_167 2 rfl ?_
              refine k_if_eq C dX12_clause_168 (tgt := 183) (by decide) (fun c168 => ?_) (fun c168 => ?_)
              · replace h := k_if_t h c168
                exact Jj183 _ _ h
              · replace h := k_if_f h c168
                refine k_aload_n C dX12_clause_171 0 rfl ?_
                obtain ⟨s172, h172, h⟩ := k_bd_e h
                refine k_goV (k_runV C dX12_clause_172 (e_X12_compare (d := 66) (Nat.le_refl _) h172) k_lX12_226 k_yX12_compare (k_oM0 w) (by omega) rfl (Nat.le_of_ble_eq_true rfl)) ?_
                refine k_aload_n C dX12_clause_175 0 rfl ?_
                obtain ⟨s176, h176, h⟩ := k_bd_e h
                refine k_goV (k_runV C dX12_clause_176 (e_X12_goOnAnd (d := 148) (Nat.le_refl _) h176) k_lX12_229 k_yX12_goOnAnd (k_oM0 w) (by omega) rfl (Nat.le_of_ble_eq_true rfl)) ?_
                refine k_aload_n C dX12_clause_179 0 rfl ?_
                obtain ⟨s180, h180, h⟩ := k_bd_e h
                refine k_goV (k_runV C dX12_clause_180 (e_X12_goOnOr (d := 149) (Nat.le_refl _) h180) k_lX12_232 k_yX12_goOnOr (k_oM0 w) (by omega) rfl (Nat.le_of_ble_eq_true rfl)) ?_
                exact Jj183 _ _ h
            obtain ⟨j165, ej165, h⟩ := k_jn_e h
            have Jj165 : ∀ (s_165 : k_St), j165 s_165 = some σ' → k_K (k_PM w) X (k_MQ X (k_Qv (k_PM w) σ') (k_PM w).2.2.1) 165 [(0, .ref (w.2.1 0)), (1, .int y17)] [] s_165 := by
              intro s_165 h
              rw [ej165] at h
              refine k_iconst C dX12_clause_165 (v := 0) rfl ?_
              exact Jj166 _ _ h
            refine k_icmp_ne C dX12_clause_148 (tgt := 165) (by decide) (fun c148 => ?_) (fun c148 => ?_)
            · replace h := k_if_f h c148
              refine k_sub (L' := [(0, .ref (w.2.1 0)), (1, .int y17)]) [0, 1] rfl ?_
              exact Jj165 _ h
            · replace h := k_if_t h c148
              refine k_aload_n C dX12_clause_151 0 rfl ?_
              obtain ⟨v152, s152, h152, h⟩ := k_b2_e h
              refine k_goI (k_runV C dX12_clause_152 (e_X12_look (d := 3) (Nat.le_refl _) h152) k_lX12_183 k_yX12_look (k_oM0 w) (by omega) rfl (Nat.le_of_ble_eq_true rfl)) ?_
              obtain ⟨v155, h155, h⟩ := k_bd_e h
              refine k_goI (k_runS C dX12_clause_155 (e_X12_isSign (d := 2) (Nat.le_refl _) h155) k_lX12_217 k_yX12_isSign (by omega) rfl (Nat.le_of_ble_eq_true rfl)) ?_
              refine k_if_eq C dX12_clause_158 (tgt := 165) (by decide) (fun c158 => ?_) (fun c158 => ?_)
              · replace h := k_if_t h c158
                refine k_sub (L' := [(0, .ref (w.2.1 0)), (1, .int y17)]) [0, 1] rfl ?_
                exact Jj165 _ h
              · replace h := k_if_f h c158
                refine k_iconst C dX12_clause_161 (v := 1) rfl ?_
                refine k_goto C dX12_clause_162 (tgt := 166) (by decide) ?_
                refine k_sub (L' := [(0, .ref (w.2.1 0)), (1, .int y17)]) [0, 1] rfl ?_
                exact Jj166 _ _ h
          · replace h := k_if_f h c129
            refine k_aload_n C dX12_clause_132 0 rfl ?_
            obtain ⟨s133, h133, h⟩ := k_bd_e h
            refine k_goV (k_runV C dX12_clause_133 (e_X12_condition (d := 150) (Nat.le_refl _) h133) k_lX12_223 k_yX12_condition (k_oM0 w) (by omega) rfl (Nat.le_of_ble_eq_true rfl)) ?_
            refine k_goto C dX12_clause_136 (tgt := 183) (by decide) ?_
            exact Jj183 _ _ h
        obtain ⟨j122, ej122, h⟩ := k_jn_e h
        have Jj122 : ∀ (s_122 : k_St), j122 s_122 = some σ' → k_K (k_PM w) X (k_MQ X (k_Qv (k_PM w) σ') (k_PM w).2.2.1) 122 [(0, .ref (w.2.1 0)), (1, .int y17)] [] s_122 := by
          intro s_122 h
          rw [ej122] at h
          refine k_iconst C dX12_clause_122 (v := 1) rfl ?_
          refine k_goto C dX12_clause_123 (tgt := 127) (by decide) ?_
          exact Jj127 _ _ h
        refine k_icmp_eq C dX12_clause_110 (tgt := 122) (by decide) (fun c110 => ?_) (fun c110 => ?_)
        · replace h := k_if_t h c110
          exact Jj122 _ h
        · replace h := k_if_f h c110
          refine k_aload_n C dX12_clause_113 0 rfl ?_
          obtain ⟨v114, s114, h114, h⟩ := k_b2_e h
          refine k_goI (k_runV C dX12_clause_114 (e_X12_look (d := 3) (Nat.le_refl _) h114) k_lX12_183 k_yX12_look (k_oM0 w) (by omega) rfl (Nat.le_of_ble_eq_true rfl)) ?_
          refine k_bipush C dX12_clause_117 (v := 40) rfl ?_
          refine k_icmp_ne C dX12_clause_119 (tgt := 126) (by decide) (fun c119 => ?_) (fun c119 => ?_)
          · replace h := k_if_f h c119
            refine k_iconst C dX12_clause_126 (v := 0) rfl ?_
            exact Jj127 _ _ h
          · replace h := k_if_t h c119
            exact Jj122 _ h
      · replace h := k_if_f h c85
        exact k_vret C dX12_clause_88 hr (Option.some.inj h)
    refine k_icmp_ne C dX12_clause_54 (tgt := 70) (by decide) (fun c54 => ?_) (fun c54 => ?_)
    · replace h := k_if_f h c54
      exact Jj70 _ h
    · replace h := k_if_t h c54
      refine k_aload_n C dX12_clause_57 0 rfl ?_
      obtain ⟨v58, s58, h58, h⟩ := k_b2_e h
      refine k_goI (k_runV C dX12_clause_58 (e_X12_look (d := 3) (Nat.le_refl _) h58) k_lX12_183 k_yX12_look (k_oM0 w) (by omega) rfl (Nat.le_of_ble_eq_true rfl)) ?_
      refine k_bipush C dX12_clause_61 (v := 58) rfl ?_
      refine k_icmp_eq C dX12_clause_63 (tgt := 70) (by decide) (fun c63 => ?_) (fun c63 => ?_)
      · replace h := k_if_t h c63
        exact Jj70 _ h
      · replace h := k_if_f h c63
        refine k_aload_n C dX12_clause_66 0 rfl ?_
        obtain ⟨s67, h67, h⟩ := k_bd_e h
        refine k_goV (k_runV C dX12_clause_67 (e_X12_bad (d := 2) (Nat.le_refl _) h67) k_lX12_180 k_yX12_bad (k_oM0 w) (by omega) rfl (Nat.le_of_ble_eq_true rfl)) ?_
        exact Jj70 _ h
  refine k_icmp_ne C dX12_clause_23 (tgt := 39) (by decide) (fun c23 => ?_) (fun c23 => ?_)
  · replace h := k_if_f h c23
    exact Jj39 _ h
  · replace h := k_if_t h c23
    refine k_aload_n C dX12_clause_26 0 rfl ?_
    obtain ⟨v27, s27, h27, h⟩ := k_b2_e h
    refine k_goI (k_runV C dX12_clause_27 (e_X12_look (d := 3) (Nat.le_refl _) h27) k_lX12_183 k_yX12_look (k_oM0 w) (by omega) rfl (Nat.le_of_ble_eq_true rfl)) ?_
    refine k_bipush C dX12_clause_30 (v := 121) rfl ?_
    refine k_icmp_eq C dX12_clause_32 (tgt := 39) (by decide) (fun c32 => ?_) (fun c32 => ?_)
    · replace h := k_if_t h c32
      exact Jj39 _ h
    · replace h := k_if_f h c32
      refine k_aload_n C dX12_clause_35 0 rfl ?_
      obtain ⟨s36, h36, h⟩ := k_bd_e h
      refine k_goV (k_runV C dX12_clause_36 (e_X12_bad (d := 2) (Nat.le_refl _) h36) k_lX12_180 k_yX12_bad (k_oM0 w) (by omega) rfl (Nat.le_of_ble_eq_true rfl)) ?_
      exact Jj39 _ h
def f_X12_open (x1 : Int32) (σ : k_St) : Option (k_St) :=
  k_nm (k_wr σ 0 14 x1) fun s2 =>
  k_nm (k_wr s2 0 3 (0 : Int32)) fun s7 =>
  k_nm (k_wr s7 0 4 (-1 : Int32)) fun s12 =>
  k_nm (k_wr s12 0 5 (0 : Int32)) fun s17 =>
  k_gd (k_ix x1 5 = true) <|
  k_nm (k_wr s17 4 x1.toNatClampNeg (0 : Int32)) fun s26 =>
  k_gd (k_ix x1 5 = true) <|
  k_nm (k_wr s26 5 x1.toNatClampNeg (0 : Int32)) fun s33 =>
  some s33
set_option maxHeartbeats 4000000 in
set_option maxRecDepth 100000 in
theorem e_X12_open {l : Launch} {w : k_WC} {d : Nat} (hd : 2 ≤ d) {x1 : Int32}  {σ σ' : k_St} (h : f_X12_open x1 σ = some σ') : k_EV l (k_PM w) yX12_open cX12_open 2 d [.ref (w.2.1 0), .int x1] σ σ' := by
  refine k_of (own := RX12) rfl (by decide) (Nat.le_of_ble_eq_true rfl) (fun X hX C hr => ?_)
  show k_K (k_PM w) X (k_MQ X (k_Qv (k_PM w) σ') (k_PM w).2.2.1) 0 [(0, .ref (w.2.1 0)), (1, .int x1)] [] σ
  unfold f_X12_open at h
  refine k_aload_n C dX12_open_0 0 rfl ?_
  refine k_iload_n C dX12_open_1 1 rfl ?_
  refine k_puti C dX12_open_2 (k_pM0_14 w) k_fX12_174 (Or.inl rfl) k_xi ?_
  refine k_st (fun s2 es2 => ?_)
  replace h := k_nm_e h s2 es2
  refine k_aload_n C dX12_open_5 0 rfl ?_
  refine k_iconst C dX12_open_6 (v := 0) rfl ?_
  refine k_puti C dX12_open_7 (k_pM0_3 w) k_fX12_164 (Or.inl rfl) k_xi ?_
  refine k_st (fun s7 es7 => ?_)
  replace h := k_nm_e h s7 es7
  refine k_aload_n C dX12_open_10 0 rfl ?_
  refine k_iconst C dX12_open_11 (v := -1) rfl ?_
  refine k_puti C dX12_open_12 (k_pM0_4 w) k_fX12_171 (Or.inl rfl) k_xi ?_
  refine k_st (fun s12 es12 => ?_)
  replace h := k_nm_e h s12 es12
  refine k_aload_n C dX12_open_15 0 rfl ?_
  refine k_iconst C dX12_open_16 (v := 0) rfl ?_
  refine k_puti C dX12_open_17 (k_pM0_5 w) k_fX12_177 (Or.inl rfl) k_xi ?_
  refine k_st (fun s17 es17 => ?_)
  replace h := k_nm_e h s17 es17
  refine k_aload_n C dX12_open_20 0 rfl ?_
  refine k_get C dX12_open_21 (k_gM0_8 w) k_fX12_19 (Or.inl rfl) ?_
  refine k_iload_n C dX12_open_24 1 rfl ?_
  refine k_iconst C dX12_open_25 (v := 0) rfl ?_
  obtain ⟨q26, h⟩ := k_gd_e h
  refine k_iast C dX12_open_26 (k_aM4 w) q26 ?_
  refine k_st (fun s26 es26 => ?_)
  replace h := k_nm_e h s26 es26
  refine k_aload_n C dX12_open_27 0 rfl ?_
  refine k_get C dX12_open_28 (k_gM0_9 w) k_fX12_22 (Or.inl rfl) ?_
  refine k_iload_n C dX12_open_31 1 rfl ?_
  refine k_iconst C dX12_open_32 (v := 0) rfl ?_
  obtain ⟨q33, h⟩ := k_gd_e h
  refine k_iast C dX12_open_33 (k_aM5 w) q33 ?_
  refine k_st (fun s33 es33 => ?_)
  replace h := k_nm_e h s33 es33
  exact k_vret C dX12_open_34 hr (Option.some.inj h)
def f_X12_atEnd  (σ : k_St) : Option (Int32 × k_St) :=
  k_if ((k_rd σ 0 4) = (-1 : Int32))
    (k_b2 (f_X12_look σ) fun v9 s9 =>
    k_if (v9 = (-1 : Int32))
      (some ((k_rd s9 0 4), s9))
      (k_bd (f_X12_bad s9) fun s17 =>
      some ((k_rd s17 0 4), s17)))
    (some ((k_rd σ 0 4), σ))
set_option maxHeartbeats 4000000 in
set_option maxRecDepth 100000 in
theorem e_X12_atEnd {l : Launch} {w : k_WC} {d : Nat} (hd : 4 ≤ d)   {σ σ' : k_St} {r : Int32} (h : f_X12_atEnd σ = some (r, σ')) : k_EI l (k_PM w) yX12_atEnd cX12_atEnd 1 (some .int) d [.ref (w.2.1 0)] σ r σ' := by
  refine k_of (own := RX12) rfl (by decide) (Nat.le_of_ble_eq_true rfl) (fun X hX C hr => ?_)
  show k_K (k_PM w) X (k_MQ X (k_Qi (k_PM w) r σ') (k_PM w).2.2.1) 0 [(0, .ref (w.2.1 0))] [] σ
  unfold f_X12_atEnd at h
  refine k_aload_n C dX12_atEnd_0 0 rfl ?_
  refine k_get C dX12_atEnd_1 (k_gM0_4 w) k_fX12_171 (Or.inl rfl) ?_
  refine k_iconst C dX12_atEnd_4 (v := -1) rfl ?_
  refine k_icmp_ne C dX12_atEnd_5 (tgt := 20) (by decide) (fun c5 => ?_) (fun c5 => ?_)
  · replace h := k_if_f h c5
    refine k_aload_n C dX12_atEnd_20 0 rfl ?_
    refine k_get C dX12_atEnd_21 (k_gM0_4 w) k_fX12_171 (Or.inl rfl) ?_
    exact k_iret C dX12_atEnd_24 hr (Option.some.inj h)
  · replace h := k_if_t h c5
    refine k_aload_n C dX12_atEnd_8 0 rfl ?_
    obtain ⟨v9, s9, h9, h⟩ := k_b2_e h
    refine k_goI (k_runV C dX12_atEnd_9 (e_X12_look (d := 3) (Nat.le_refl _) h9) k_lX12_183 k_yX12_look (k_oM0 w) (by omega) rfl (Nat.le_of_ble_eq_true rfl)) ?_
    refine k_iconst C dX12_atEnd_12 (v := -1) rfl ?_
    refine k_icmp_eq C dX12_atEnd_13 (tgt := 20) (by decide) (fun c13 => ?_) (fun c13 => ?_)
    · replace h := k_if_t h c13
      refine k_aload_n C dX12_atEnd_20 0 rfl ?_
      refine k_get C dX12_atEnd_21 (k_gM0_4 w) k_fX12_171 (Or.inl rfl) ?_
      exact k_iret C dX12_atEnd_24 hr (Option.some.inj h)
    · replace h := k_if_f h c13
      refine k_aload_n C dX12_atEnd_16 0 rfl ?_
      obtain ⟨s17, h17, h⟩ := k_bd_e h
      refine k_goV (k_runV C dX12_atEnd_17 (e_X12_bad (d := 2) (Nat.le_refl _) h17) k_lX12_180 k_yX12_bad (k_oM0 w) (by omega) rfl (Nat.le_of_ble_eq_true rfl)) ?_
      refine k_aload_n C dX12_atEnd_20 0 rfl ?_
      refine k_get C dX12_atEnd_21 (k_gM0_4 w) k_fX12_171 (Or.inl rfl) ?_
      exact k_iret C dX12_atEnd_24 hr (Option.some.inj h)
def f_X12_readLaw (x1 : Int32) (σ : k_St) : Option (Int32 × k_St) :=
  k_bd (f_X12_open x1 σ) fun s2 =>
  k_bd (f_X12_clause s2) fun s6 =>
  k_loop (fun (g9 : k_St → Option (Int32 × k_St)) (z9 : k_St) => match z9 with
    | s_9 =>
      k_jn (fun (s_43 : k_St) =>
        k_b2 (f_X12_atEnd s_43) fun v44 s44 =>
        some (v44, s44)) fun j43 =>
      k_if ((k_rd s_9 0 4) = (-1 : Int32))
        (k_b2 (f_X12_look s_9) fun v18 s18 =>
        k_if (v18 = (59 : Int32))
          (k_nm (k_wr s18 0 3 ((k_rd s18 0 3) + (1 : Int32))) fun s33 =>
          k_bd (f_X12_clause s33) fun s37 =>
          g9 s37)
          (j43 s18))
        (j43 s_9)) 100000 s6
set_option maxHeartbeats 4000000 in
set_option maxRecDepth 100000 in
theorem e_X12_readLaw {l : Launch} {w : k_WC} {d : Nat} (hd : 152 ≤ d) {x1 : Int32}  {σ σ' : k_St} {r : Int32} (h : f_X12_readLaw x1 σ = some (r, σ')) : k_EI l (k_PM w) yX12_readLaw cX12_readLaw 2 (some .int) d [.ref (w.2.1 0), .int x1] σ r σ' := by
  refine k_of (own := RX12) rfl (by decide) (Nat.le_of_ble_eq_true rfl) (fun X hX C hr => ?_)
  show k_K (k_PM w) X (k_MQ X (k_Qi (k_PM w) r σ') (k_PM w).2.2.1) 0 [(0, .ref (w.2.1 0)), (1, .int x1)] [] σ
  unfold f_X12_readLaw at h
  refine k_aload_n C dX12_readLaw_0 0 rfl ?_
  refine k_iload_n C dX12_readLaw_1 1 rfl ?_
  obtain ⟨s2, h2, h⟩ := k_bd_e h
  refine k_goV (k_runV C dX12_readLaw_2 (e_X12_open (d := 2) (Nat.le_refl _) h2) k_lX12_235 k_yX12_open (k_oM0 w) (by omega) rfl (Nat.le_of_ble_eq_true rfl)) ?_
  refine k_aload_n C dX12_readLaw_5 0 rfl ?_
  obtain ⟨s6, h6, h⟩ := k_bd_e h
  refine k_goV (k_runV C dX12_readLaw_6 (e_X12_clause (d := 151) (Nat.le_refl _) h6) k_lX12_238 k_yX12_clause (k_oM0 w) (by omega) rfl (Nat.le_of_ble_eq_true rfl)) ?_
  obtain ⟨b9, eb9, h⟩ := k_lp_e h
  have K9 : ∀ (n : Nat) (s_9 : k_St), k_loop b9 n s_9 = some (r, σ') → k_K (k_PM w) X (k_MQ X (k_Qi (k_PM w) r σ') (k_PM w).2.2.1) 9 [(0, .ref (w.2.1 0))] [] s_9 := by
    intro n
    induction n with
    | zero => intro s_9 h; cases h
    | succ n ih9 =>
      intro s_9 h
      obtain ⟨g9, eg9, h⟩ := k_lp_s h
      rw [← eg9] at ih9
      rw [eb9] at h
      refine k_aload_n C dX12_readLaw_9 0 rfl ?_
      refine k_get C dX12_readLaw_10 (k_gM0_4 w) k_fX12_171 (Or.inl rfl) ?_
      refine k_iconst C dX12_readLaw_13 (v := -1) rfl ?_
      obtain ⟨j43, ej43, h⟩ := k_jn_e h
      have Jj43 : ∀ (s_43 : k_St), j43 s_43 = some (r, σ') → k_K (k_PM w) X (k_MQ X (k_Qi (k_PM w) r σ') (k_PM w).2.2.1) 43 [(0, .ref (w.2.1 0))] [] s_43 := by
        intro s_43 h
        rw [ej43] at h
        refine k_aload_n C dX12_readLaw_43 0 rfl ?_
        obtain ⟨v44, s44, h44, h⟩ := k_b2_e h
        refine k_goI (k_runV C dX12_readLaw_44 (e_X12_atEnd (d := 4) (Nat.le_refl _) h44) k_lX12_241 k_yX12_atEnd (k_oM0 w) (by omega) rfl (Nat.le_of_ble_eq_true rfl)) ?_
        exact k_iret C dX12_readLaw_47 hr (Option.some.inj h)
      refine k_icmp_ne C dX12_readLaw_14 (tgt := 43) (by decide) (fun c14 => ?_) (fun c14 => ?_)
      · replace h := k_if_f h c14
        exact Jj43 _ h
      · replace h := k_if_t h c14
        refine k_aload_n C dX12_readLaw_17 0 rfl ?_
        obtain ⟨v18, s18, h18, h⟩ := k_b2_e h
        refine k_goI (k_runV C dX12_readLaw_18 (e_X12_look (d := 3) (Nat.le_refl _) h18) k_lX12_183 k_yX12_look (k_oM0 w) (by omega) rfl (Nat.le_of_ble_eq_true rfl)) ?_
        refine k_bipush C dX12_readLaw_21 (v := 59) rfl ?_
        refine k_icmp_ne C dX12_readLaw_23 (tgt := 43) (by decide) (fun c23 => ?_) (fun c23 => ?_)
        · replace h := k_if_f h c23
          exact Jj43 _ h
        · replace h := k_if_t h c23
          refine k_aload_n C dX12_readLaw_26 0 rfl ?_
          refine k_dup C dX12_readLaw_27 rfl ?_
          refine k_get C dX12_readLaw_28 (k_gM0_3 w) k_fX12_164 (Or.inl rfl) ?_
          refine k_iconst C dX12_readLaw_31 (v := 1) rfl ?_
          refine k_iadd C dX12_readLaw_32 ?_
          refine k_puti C dX12_readLaw_33 (k_pM0_3 w) k_fX12_164 (Or.inl rfl) k_xi ?_
          refine k_st (fun s33 es33 => ?_)
          replace h := k_nm_e h s33 es33
          refine k_aload_n C dX12_readLaw_36 0 rfl ?_
          obtain ⟨s37, h37, h⟩ := k_bd_e h
          refine k_goV (k_runV C dX12_readLaw_37 (e_X12_clause (d := 151) (Nat.le_refl _) h37) k_lX12_238 k_yX12_clause (k_oM0 w) (by omega) rfl (Nat.le_of_ble_eq_true rfl)) ?_
          refine k_goto C dX12_readLaw_40 (tgt := 9) (by decide) ?_
          exact ih9 _ h
  refine k_sub (L' := [(0, .ref (w.2.1 0))]) [0] rfl ?_
  exact K9 _ _ h
def f_X12_bounded (x0 : Int64) : Option (Int32) :=
  some (o_lmax (-1000000 : Int64) (o_lmin (1000000 : Int64) x0)).toInt32
set_option maxHeartbeats 4000000 in
set_option maxRecDepth 100000 in
theorem e_X12_bounded {l : Launch} {w : k_WC} {d : Nat} (hd : 3 ≤ d) {x0 : Int64}  {σ : k_St} {r : Int32} (h : f_X12_bounded x0 = some r) : k_EI l (k_PM w) yX12_bounded cX12_bounded 2 (some .int) d [.long x0] σ r σ := by
  refine k_of (own := RX12) rfl (by decide) (Nat.le_of_ble_eq_true rfl) (fun X hX C hr => ?_)
  show k_K (k_PM w) X (k_MQ X (k_Qi (k_PM w) r σ) (k_PM w).2.2.1) 0 [(0, .long x0)] [] σ
  unfold f_X12_bounded at h
  refine k_ldc2 C dX12_bounded_0 k_cX12_244 ?_
  refine k_ldc2 C dX12_bounded_3 k_cX12_246 ?_
  refine k_lload_n C dX12_bounded_6 0 rfl ?_
  refine k_mmin_long C dX12_bounded_7 k_lX12_248 k_ym_lmin (by omega) (Nat.le_of_ble_eq_true rfl) ?_
  refine k_mmax_long C dX12_bounded_10 k_lX12_254 k_ym_lmax (by omega) (Nat.le_of_ble_eq_true rfl) ?_
  refine k_l2i C dX12_bounded_13 ?_
  exact k_iret C dX12_bounded_14 hr (k_p1 h)
def f_X12_worked (x0 : Int32) (x1 : Int64) (x3 : Int64) : Option (Int32) :=
  k_jn (fun (_ : Unit) =>
    k_if ((lg_cmp x1 (0 : Int64)) = (0 : Int32))
      (k_if ((lg_cmp x3 (0 : Int64)) = (0 : Int32))
        (some (0 : Int32))
        (some (1 : Int32)))
      (some (1 : Int32))) fun j144 =>
  k_if (x0 = (2 : Int32))
    (k_bd (f_X12_bounded (x1 + x3)) fun v55 =>
    some v55)
    <|
  k_if (x0 = (3 : Int32))
    (k_bd (f_X12_bounded (x1 - x3)) fun v62 =>
    some v62)
    <|
  k_if (x0 = (4 : Int32))
    (k_bd (f_X12_bounded (x1 * x3)) fun v69 =>
    some v69)
    <|
  k_if (x0 = (5 : Int32))
    (k_if ((lg_cmp x3 (0 : Int64)) = (0 : Int32))
      (some (0 : Int32))
      (k_gd (¬ x3 = 0) <|
      k_bd (f_X12_bounded (x1 / x3)) fun v86 =>
      some v86))
    <|
  k_if (x0 = (6 : Int32))
    (k_if ((lg_cmp x1 x3) = (0 : Int32))
      (some (1 : Int32))
      (some (0 : Int32)))
    <|
  k_if (x0 = (7 : Int32))
    (k_if ((0 : Int32) ≤ (lg_cmp x1 x3))
      (some (0 : Int32))
      (some (1 : Int32)))
    <|
  k_if (x0 = (8 : Int32))
    (k_if ((lg_cmp x1 x3) ≤ (0 : Int32))
      (some (0 : Int32))
      (some (1 : Int32)))
    <|
  k_if (x0 = (9 : Int32))
    (j144 ())
    <|
  k_if (x0 = (10 : Int32))
    (k_if ((lg_cmp x1 (0 : Int64)) = (0 : Int32))
      (some (0 : Int32))
      (k_if ((lg_cmp x3 (0 : Int64)) = (0 : Int32))
        (some (0 : Int32))
        (some (1 : Int32))))
    <|
  j144 ()
set_option maxHeartbeats 4000000 in
set_option maxRecDepth 100000 in
theorem e_X12_worked {l : Launch} {w : k_WC} {d : Nat} (hd : 4 ≤ d) {x0 : Int32} {x1 : Int64} {x3 : Int64}  {σ : k_St} {r : Int32} (h : f_X12_worked x0 x1 x3 = some r) : k_EI l (k_PM w) yX12_worked cX12_worked 5 (some .int) d [.int x0, .long x1, .long x3] σ r σ := by
  refine k_of (own := RX12) rfl (by decide) (Nat.le_of_ble_eq_true rfl) (fun X hX C hr => ?_)
  show k_K (k_PM w) X (k_MQ X (k_Qi (k_PM w) r σ) (k_PM w).2.2.1) 0 [(0, .int x0), (1, .long x1), (3, .long x3)] [] σ
  unfold f_X12_worked at h
  refine k_iload_n C dX12_worked_0 0 rfl ?_
  obtain ⟨j144, ej144, h⟩ := k_jn_e h
  have Jj144 : j144 () = some r → k_K (k_PM w) X (k_MQ X (k_Qi (k_PM w) r σ) (k_PM w).2.2.1) 144 [(1, .long x1), (3, .long x3)] [] σ := by
    intro  h
    rw [ej144] at h
    refine k_lload_n C dX12_worked_144 0 rfl ?_
    refine k_lconst C dX12_worked_145 (v := 0) rfl ?_
    refine k_lcmp C dX12_worked_146 ?_
    refine k_if_ne C dX12_worked_147 (tgt := 156) (by decide) (fun c147 => ?_) (fun c147 => ?_)
    · replace h := k_if_f h c147
      refine k_iconst C dX12_worked_156 (v := 1) rfl ?_
      refine k_goto C dX12_worked_157 (tgt := 161) (by decide) ?_
      exact k_iret C dX12_worked_161 hr (k_p1 h)
    · replace h := k_if_t h c147
      refine k_lload_n C dX12_worked_150 1 rfl ?_
      refine k_lconst C dX12_worked_151 (v := 0) rfl ?_
      refine k_lcmp C dX12_worked_152 ?_
      refine k_if_eq C dX12_worked_153 (tgt := 160) (by decide) (fun c153 => ?_) (fun c153 => ?_)
      · replace h := k_if_t h c153
        refine k_iconst C dX12_worked_160 (v := 0) rfl ?_
        exact k_iret C dX12_worked_161 hr (k_p1 h)
      · replace h := k_if_f h c153
        refine k_iconst C dX12_worked_156 (v := 1) rfl ?_
        refine k_goto C dX12_worked_157 (tgt := 161) (by decide) ?_
        exact k_iret C dX12_worked_161 hr (k_p1 h)
  by_cases c1_0 : x0 = (2 : Int32)
  · replace h := k_if_t h c1_0
    refine k_tabIn C dX12_worked_1 (v := 2) c1_0 (by decide) (by decide) (off := 51) (by decide) (tgt := 52) (by decide) ?_
    refine k_lload_n C dX12_worked_52 1 rfl ?_
    refine k_lload_n C dX12_worked_53 2 rfl ?_
    refine k_ladd C dX12_worked_54 ?_
    obtain ⟨v55, h55, h⟩ := k_bd_e h
    refine k_goI (k_runS C dX12_worked_55 (e_X12_bounded (d := 3) (Nat.le_refl _) h55) k_lX12_257 k_yX12_bounded (by omega) rfl (Nat.le_of_ble_eq_true rfl)) ?_
    exact k_iret C dX12_worked_58 hr (k_p1 h)
  · replace h := k_if_f h c1_0
    by_cases c1_1 : x0 = (3 : Int32)
    · replace h := k_if_t h c1_1
      refine k_tabIn C dX12_worked_1 (v := 3) c1_1 (by decide) (by decide) (off := 58) (by decide) (tgt := 59) (by decide) ?_
      refine k_lload_n C dX12_worked_59 1 rfl ?_
      refine k_lload_n C dX12_worked_60 2 rfl ?_
      refine k_lsub C dX12_worked_61 ?_
      obtain ⟨v62, h62, h⟩ := k_bd_e h
      refine k_goI (k_runS C dX12_worked_62 (e_X12_bounded (d := 3) (Nat.le_refl _) h62) k_lX12_257 k_yX12_bounded (by omega) rfl (Nat.le_of_ble_eq_true rfl)) ?_
      exact k_iret C dX12_worked_65 hr (k_p1 h)
    · replace h := k_if_f h c1_1
      by_cases c1_2 : x0 = (4 : Int32)
      · replace h := k_if_t h c1_2
        refine k_tabIn C dX12_worked_1 (v := 4) c1_2 (by decide) (by decide) (off := 65) (by decide) (tgt := 66) (by decide) ?_
        refine k_lload_n C dX12_worked_66 1 rfl ?_
        refine k_lload_n C dX12_worked_67 2 rfl ?_
        refine k_lmul C dX12_worked_68 ?_
        obtain ⟨v69, h69, h⟩ := k_bd_e h
        refine k_goI (k_runS C dX12_worked_69 (e_X12_bounded (d := 3) (Nat.le_refl _) h69) k_lX12_257 k_yX12_bounded (by omega) rfl (Nat.le_of_ble_eq_true rfl)) ?_
        exact k_iret C dX12_worked_72 hr (k_p1 h)
      · replace h := k_if_f h c1_2
        by_cases c1_3 : x0 = (5 : Int32)
        · replace h := k_if_t h c1_3
          refine k_tabIn C dX12_worked_1 (v := 5) c1_3 (by decide) (by decide) (off := 72) (by decide) (tgt := 73) (by decide) ?_
          refine k_lload_n C dX12_worked_73 2 rfl ?_
          refine k_lconst C dX12_worked_74 (v := 0) rfl ?_
          refine k_lcmp C dX12_worked_75 ?_
          refine k_if_ne C dX12_worked_76 (tgt := 83) (by decide) (fun c76 => ?_) (fun c76 => ?_)
          · replace h := k_if_f h c76
            refine k_lload_n C dX12_worked_83 1 rfl ?_
            refine k_lload_n C dX12_worked_84 2 rfl ?_
            obtain ⟨q85, h⟩ := k_gd_e h
            refine k_ldiv C dX12_worked_85 q85 ?_
            obtain ⟨v86, h86, h⟩ := k_bd_e h
            refine k_goI (k_runS C dX12_worked_86 (e_X12_bounded (d := 3) (Nat.le_refl _) h86) k_lX12_257 k_yX12_bounded (by omega) rfl (Nat.le_of_ble_eq_true rfl)) ?_
            exact k_iret C dX12_worked_89 hr (k_p1 h)
          · replace h := k_if_t h c76
            refine k_iconst C dX12_worked_79 (v := 0) rfl ?_
            refine k_goto C dX12_worked_80 (tgt := 89) (by decide) ?_
            exact k_iret C dX12_worked_89 hr (k_p1 h)
        · replace h := k_if_f h c1_3
          by_cases c1_4 : x0 = (6 : Int32)
          · replace h := k_if_t h c1_4
            refine k_tabIn C dX12_worked_1 (v := 6) c1_4 (by decide) (by decide) (off := 89) (by decide) (tgt := 90) (by decide) ?_
            refine k_lload_n C dX12_worked_90 1 rfl ?_
            refine k_lload_n C dX12_worked_91 2 rfl ?_
            refine k_lcmp C dX12_worked_92 ?_
            refine k_if_ne C dX12_worked_93 (tgt := 100) (by decide) (fun c93 => ?_) (fun c93 => ?_)
            · replace h := k_if_f h c93
              refine k_iconst C dX12_worked_100 (v := 0) rfl ?_
              exact k_iret C dX12_worked_101 hr (k_p1 h)
            · replace h := k_if_t h c93
              refine k_iconst C dX12_worked_96 (v := 1) rfl ?_
              refine k_goto C dX12_worked_97 (tgt := 101) (by decide) ?_
              exact k_iret C dX12_worked_101 hr (k_p1 h)
          · replace h := k_if_f h c1_4
            by_cases c1_5 : x0 = (7 : Int32)
            · replace h := k_if_t h c1_5
              refine k_tabIn C dX12_worked_1 (v := 7) c1_5 (by decide) (by decide) (off := 101) (by decide) (tgt := 102) (by decide) ?_
              refine k_lload_n C dX12_worked_102 1 rfl ?_
              refine k_lload_n C dX12_worked_103 2 rfl ?_
              refine k_lcmp C dX12_worked_104 ?_
              refine k_if_ge C dX12_worked_105 (tgt := 112) (by decide) (fun c105 => ?_) (fun c105 => ?_)
              · replace h := k_if_t h c105
                refine k_iconst C dX12_worked_112 (v := 0) rfl ?_
                exact k_iret C dX12_worked_113 hr (k_p1 h)
              · replace h := k_if_f h c105
                refine k_iconst C dX12_worked_108 (v := 1) rfl ?_
                refine k_goto C dX12_worked_109 (tgt := 113) (by decide) ?_
                exact k_iret C dX12_worked_113 hr (k_p1 h)
            · replace h := k_if_f h c1_5
              by_cases c1_6 : x0 = (8 : Int32)
              · replace h := k_if_t h c1_6
                refine k_tabIn C dX12_worked_1 (v := 8) c1_6 (by decide) (by decide) (off := 113) (by decide) (tgt := 114) (by decide) ?_
                refine k_lload_n C dX12_worked_114 1 rfl ?_
                refine k_lload_n C dX12_worked_115 2 rfl ?_
                refine k_lcmp C dX12_worked_116 ?_
                refine k_if_le C dX12_worked_117 (tgt := 124) (by decide) (fun c117 => ?_) (fun c117 => ?_)
                · replace h := k_if_t h c117
                  refine k_iconst C dX12_worked_124 (v := 0) rfl ?_
                  exact k_iret C dX12_worked_125 hr (k_p1 h)
                · replace h := k_if_f h c117
                  refine k_iconst C dX12_worked_120 (v := 1) rfl ?_
                  refine k_goto C dX12_worked_121 (tgt := 125) (by decide) ?_
                  exact k_iret C dX12_worked_125 hr (k_p1 h)
              · replace h := k_if_f h c1_6
                by_cases c1_7 : x0 = (9 : Int32)
                · replace h := k_if_t h c1_7
                  refine k_tabIn C dX12_worked_1 (v := 9) c1_7 (by decide) (by decide) (off := 143) (by decide) (tgt := 144) (by decide) ?_
                  refine k_sub (L' := [(1, .long x1), (3, .long x3)]) [1, 2] rfl ?_
                  exact Jj144 h
                · replace h := k_if_f h c1_7
                  by_cases c1_8 : x0 = (10 : Int32)
                  · replace h := k_if_t h c1_8
                    refine k_tabIn C dX12_worked_1 (v := 10) c1_8 (by decide) (by decide) (off := 125) (by decide) (tgt := 126) (by decide) ?_
                    refine k_lload_n C dX12_worked_126 1 rfl ?_
                    refine k_lconst C dX12_worked_127 (v := 0) rfl ?_
                    refine k_lcmp C dX12_worked_128 ?_
                    refine k_if_eq C dX12_worked_129 (tgt := 142) (by decide) (fun c129 => ?_) (fun c129 => ?_)
                    · replace h := k_if_t h c129
                      refine k_iconst C dX12_worked_142 (v := 0) rfl ?_
                      exact k_iret C dX12_worked_143 hr (k_p1 h)
                    · replace h := k_if_f h c129
                      refine k_lload_n C dX12_worked_132 2 rfl ?_
                      refine k_lconst C dX12_worked_133 (v := 0) rfl ?_
                      refine k_lcmp C dX12_worked_134 ?_
                      refine k_if_eq C dX12_worked_135 (tgt := 142) (by decide) (fun c135 => ?_) (fun c135 => ?_)
                      · replace h := k_if_t h c135
                        refine k_iconst C dX12_worked_142 (v := 0) rfl ?_
                        exact k_iret C dX12_worked_143 hr (k_p1 h)
                      · replace h := k_if_f h c135
                        refine k_iconst C dX12_worked_138 (v := 1) rfl ?_
                        refine k_goto C dX12_worked_139 (tgt := 143) (by decide) ?_
                        exact k_iret C dX12_worked_143 hr (k_p1 h)
                  · replace h := k_if_f h c1_8
                    have n0 : ¬ (x0).toInt = 2 := fun e => c1_0 (Int32.toInt_inj.mp e)
                    have n1 : ¬ (x0).toInt = 3 := fun e => c1_1 (Int32.toInt_inj.mp e)
                    have n2 : ¬ (x0).toInt = 4 := fun e => c1_2 (Int32.toInt_inj.mp e)
                    have n3 : ¬ (x0).toInt = 5 := fun e => c1_3 (Int32.toInt_inj.mp e)
                    have n4 : ¬ (x0).toInt = 6 := fun e => c1_4 (Int32.toInt_inj.mp e)
                    have n5 : ¬ (x0).toInt = 7 := fun e => c1_5 (Int32.toInt_inj.mp e)
                    have n6 : ¬ (x0).toInt = 8 := fun e => c1_6 (Int32.toInt_inj.mp e)
                    have n7 : ¬ (x0).toInt = 9 := fun e => c1_7 (Int32.toInt_inj.mp e)
                    have n8 : ¬ (x0).toInt = 10 := fun e => c1_8 (Int32.toInt_inj.mp e)
                    refine k_tabOut C dX12_worked_1 (by omega) (tgt := 144) (by decide) ?_
                    refine k_sub (L' := [(1, .long x1), (3, .long x3)]) [1, 2] rfl ?_
                    exact Jj144 h
def f_X12_workOut (x1 : Int32) (x2 : Int32) (x3 : Int32) (σ : k_St) : Option (Int32 × k_St) :=
  k_nm ((((340 : Int32) * x1) + x2)) fun y10 =>
  k_loop (fun (g12 : Int32 × Int32 × k_St → Option (Int32 × k_St)) (z12 : Int32 × Int32 × k_St) => match z12 with
    | (v4_12, v5_12, s_12) =>
      k_if ((((340 : Int32) * x1) + x3) ≤ v5_12)
        (k_gd (k_ix (0 : Int32) 80 = true) <|
        some ((k_rd s_12 10 (0 : Int32).toNatClampNeg), s_12))
        (k_gd (k_ix v5_12 1700 = true) <|
        k_jn (fun (_ : Unit) =>
          k_gd (k_ix v5_12 1700 = true) <|
          k_if ((k_rd s_12 2 v5_12.toNatClampNeg) = (0 : Int32))
            (k_gd (k_ix v5_12 1700 = true) <|
            k_gd (k_ix v4_12 80 = true) <|
            k_nm (k_wr s_12 10 v4_12.toNatClampNeg (k_rd s_12 3 v5_12.toNatClampNeg)) fun s83 =>
            k_nm (v4_12 + (1 : Int32)) fun y84 =>
            k_nm (v5_12 + (1 : Int32)) fun y165 =>
            g12 (y84, y165, s83))
            (k_gd (k_ix v5_12 1700 = true) <|
            k_gd (k_ix (k_rd s_12 3 v5_12.toNatClampNeg) 5 = true) <|
            k_gd (k_ix v4_12 80 = true) <|
            k_nm (k_wr s_12 10 v4_12.toNatClampNeg (k_rd s_12 9 (k_rd s_12 3 v5_12.toNatClampNeg).toNatClampNeg)) fun s83 =>
            k_nm (v4_12 + (1 : Int32)) fun y84 =>
            k_nm (v5_12 + (1 : Int32)) fun y165 =>
            g12 (y84, y165, s83))) fun j45 =>
        k_if ((k_rd s_12 2 v5_12.toNatClampNeg) = (0 : Int32))
          (j45 ())
          (k_gd (k_ix v5_12 1700 = true) <|
          k_if ((k_rd s_12 2 v5_12.toNatClampNeg) = (1 : Int32))
            (j45 ())
            (k_gd (k_ix v5_12 1700 = true) <|
            k_if ((k_rd s_12 2 v5_12.toNatClampNeg) = (9 : Int32))
              (k_gd (k_ix (v4_12 - (1 : Int32)) 80 = true) <|
              k_gd (k_ix (v4_12 - (1 : Int32)) 80 = true) <|
              k_nm (k_wr s_12 10 (v4_12 - (1 : Int32)).toNatClampNeg ((1 : Int32) - (k_rd s_12 10 (v4_12 - (1 : Int32)).toNatClampNeg))) fun s121 =>
              k_nm (v5_12 + (1 : Int32)) fun y165 =>
              g12 (v4_12, y165, s121))
              (k_nm (v4_12 + (-1 : Int32)) fun y125 =>
              k_gd (k_ix v5_12 1700 = true) <|
              k_gd (k_ix (y125 - (1 : Int32)) 80 = true) <|
              k_gd (k_ix y125 80 = true) <|
              k_bd (f_X12_worked (k_rd s_12 2 v5_12.toNatClampNeg) (k_rd s_12 10 (y125 - (1 : Int32)).toNatClampNeg).toInt64 (k_rd s_12 10 y125.toNatClampNeg).toInt64) fun v161 =>
              k_gd (k_ix (y125 - (1 : Int32)) 80 = true) <|
              k_nm (k_wr s_12 10 (y125 - (1 : Int32)).toNatClampNeg v161) fun s164 =>
              k_nm (v5_12 + (1 : Int32)) fun y165 =>
              g12 (y125, y165, s164)))))) 100000 ((0 : Int32), y10, σ)
set_option maxHeartbeats 4000000 in
set_option maxRecDepth 100000 in
theorem e_X12_workOut {l : Launch} {w : k_WC} {d : Nat} (hd : 5 ≤ d) {x1 : Int32} {x2 : Int32} {x3 : Int32}  {σ σ' : k_St} {r : Int32} (h : f_X12_workOut x1 x2 x3 σ = some (r, σ')) : k_EI l (k_PM w) yX12_workOut cX12_workOut 6 (some .int) d [.ref (w.2.1 0), .int x1, .int x2, .int x3] σ r σ' := by
  refine k_of (own := RX12) rfl (by decide) (Nat.le_of_ble_eq_true rfl) (fun X hX C hr => ?_)
  show k_K (k_PM w) X (k_MQ X (k_Qi (k_PM w) r σ') (k_PM w).2.2.1) 0 [(0, .ref (w.2.1 0)), (1, .int x1), (2, .int x2), (3, .int x3)] [] σ
  unfold f_X12_workOut at h
  refine k_iconst C dX12_workOut_0 (v := 0) rfl ?_
  refine k_istore C dX12_workOut_1 (by decide) [1, 2, 3, 4, 0] (L' := [(0, .ref (w.2.1 0)), (1, .int x1), (2, .int x2), (3, .int x3), (4, .int (0 : Int32))]) rfl ?_
  refine k_sipush C dX12_workOut_3 (v := 340) rfl ?_
  refine k_iload_n C dX12_workOut_6 1 rfl ?_
  refine k_imul C dX12_workOut_7 ?_
  refine k_iload_n C dX12_workOut_8 2 rfl ?_
  refine k_iadd C dX12_workOut_9 ?_
  refine k_topi (fun y10 ey10 => ?_)
  replace h := k_nm_e h y10 ey10
  refine k_istore C dX12_workOut_10 (by decide) [1, 2, 3, 4, 5, 0] (L' := [(0, .ref (w.2.1 0)), (1, .int x1), (2, .int x2), (3, .int x3), (4, .int (0 : Int32)), (5, .int y10)]) rfl ?_
  obtain ⟨b12, eb12, h⟩ := k_lp_e h
  have K12 : ∀ (n : Nat) (v4_12 : Int32) (v5_12 : Int32) (s_12 : k_St), k_loop b12 n (v4_12, v5_12, s_12) = some (r, σ') → k_K (k_PM w) X (k_MQ X (k_Qi (k_PM w) r σ') (k_PM w).2.2.1) 12 [(0, .ref (w.2.1 0)), (1, .int x1), (3, .int x3), (4, .int v4_12), (5, .int v5_12)] [] s_12 := by
    intro n
    induction n with
    | zero => intro v4_12 v5_12 s_12 h; cases h
    | succ n ih12 =>
      intro v4_12 v5_12 s_12 h
      obtain ⟨g12, eg12, h⟩ := k_lp_s h
      rw [← eg12] at ih12
      rw [eb12] at h
      refine k_iload C dX12_workOut_12 4 rfl ?_
      refine k_sipush C dX12_workOut_14 (v := 340) rfl ?_
      refine k_iload_n C dX12_workOut_17 1 rfl ?_
      refine k_imul C dX12_workOut_18 ?_
      refine k_iload_n C dX12_workOut_19 2 rfl ?_
      refine k_iadd C dX12_workOut_20 ?_
      refine k_icmp_ge C dX12_workOut_21 (tgt := 171) (by decide) (fun c21 => ?_) (fun c21 => ?_)
      · replace h := k_if_t h c21
        refine k_aload_n C dX12_workOut_171 0 rfl ?_
        refine k_get C dX12_workOut_172 (k_gM0_16 w) k_fX12_37 (Or.inl rfl) ?_
        refine k_iconst C dX12_workOut_175 (v := 0) rfl ?_
        obtain ⟨q176, h⟩ := k_gd_e h
        refine k_iald C dX12_workOut_176 (k_aM10 w) q176 ?_
        exact k_iret C dX12_workOut_177 hr (Option.some.inj h)
      · replace h := k_if_f h c21
        refine k_aload_n C dX12_workOut_24 0 rfl ?_
        refine k_get C dX12_workOut_25 (k_gM0_6 w) k_fX12_13 (Or.inl rfl) ?_
        refine k_iload C dX12_workOut_28 4 rfl ?_
        obtain ⟨q30, h⟩ := k_gd_e h
        refine k_iald C dX12_workOut_30 (k_aM2 w) q30 ?_
        obtain ⟨j45, ej45, h⟩ := k_jn_e h
        have Jj45 : j45 () = some (r, σ') → k_K (k_PM w) X (k_MQ X (k_Qi (k_PM w) r σ') (k_PM w).2.2.1) 45 [(0, .ref (w.2.1 0)), (1, .int x1), (3, .int x3), (4, .int v4_12), (5, .int v5_12)] [] s_12 := by
          intro  h
          rw [ej45] at h
          refine k_aload_n C dX12_workOut_45 0 rfl ?_
          refine k_get C dX12_workOut_46 (k_gM0_16 w) k_fX12_37 (Or.inl rfl) ?_
          refine k_iload C dX12_workOut_49 3 rfl ?_
          refine k_aload_n C dX12_workOut_51 0 rfl ?_
          refine k_get C dX12_workOut_52 (k_gM0_6 w) k_fX12_13 (Or.inl rfl) ?_
          refine k_iload C dX12_workOut_55 4 rfl ?_
          obtain ⟨q57, h⟩ := k_gd_e h
          refine k_iald C dX12_workOut_57 (k_aM2 w) q57 ?_
          refine k_if_ne C dX12_workOut_58 (tgt := 71) (by decide) (fun c58 => ?_) (fun c58 => ?_)
          · replace h := k_if_f h c58
            refine k_aload_n C dX12_workOut_71 0 rfl ?_
            refine k_get C dX12_workOut_72 (k_gM0_15 w) k_fX12_34 (Or.inl rfl) ?_
            refine k_aload_n C dX12_workOut_75 0 rfl ?_
            refine k_get C dX12_workOut_76 (k_gM0_7 w) k_fX12_16 (Or.inl rfl) ?_
            refine k_iload C dX12_workOut_79 4 rfl ?_
            obtain ⟨q81, h⟩ := k_gd_e h
            refine k_iald C dX12_workOut_81 (k_aM3 w) q81 ?_
            obtain ⟨q82, h⟩ := k_gd_e h
            refine k_iald C dX12_workOut_82 (k_aM9 w) q82 ?_
            obtain ⟨q83, h⟩ := k_gd_e h
            refine k_iast C dX12_workOut_83 (k_aM10 w) q83 ?_
            refine k_st (fun s83 es83 => ?_)
            replace h := k_nm_e h s83 es83
            refine k_iinc C dX12_workOut_84 3 rfl (v := 1) rfl (by decide) [1, 2, 3, 0, 4] (L' := fun z9 => [(0, .ref (w.2.1 0)), (1, .int x1), (3, .int x3), (4, .int z9), (5, .int v5_12)]) (fun z9 => rfl) (fun y84 ey84 => ?_)
            replace h := k_nm_e h y84 ey84
            refine k_goto C dX12_workOut_87 (tgt := 165) (by decide) ?_
            refine k_iinc C dX12_workOut_165 4 rfl (v := 1) rfl (by decide) [1, 2, 3, 4, 0] (L' := fun z9 => [(0, .ref (w.2.1 0)), (1, .int x1), (3, .int x3), (4, .int y84), (5, .int z9)]) (fun z9 => rfl) (fun y165 ey165 => ?_)
            replace h := k_nm_e h y165 ey165
            refine k_goto C dX12_workOut_168 (tgt := 12) (by decide) ?_
            exact ih12 _ _ _ h
          · replace h := k_if_t h c58
            refine k_aload_n C dX12_workOut_61 0 rfl ?_
            refine k_get C dX12_workOut_62 (k_gM0_7 w) k_fX12_16 (Or.inl rfl) ?_
            refine k_iload C dX12_workOut_65 4 rfl ?_
            obtain ⟨q67, h⟩ := k_gd_e h
            refine k_iald C dX12_workOut_67 (k_aM3 w) q67 ?_
            refine k_goto C dX12_workOut_68 (tgt := 83) (by decide) ?_
            obtain ⟨q83, h⟩ := k_gd_e h
            refine k_iast C dX12_workOut_83 (k_aM10 w) q83 ?_
            refine k_st (fun s83 es83 => ?_)
            replace h := k_nm_e h s83 es83
            refine k_iinc C dX12_workOut_84 3 rfl (v := 1) rfl (by decide) [1, 2, 3, 0, 4] (L' := fun z9 => [(0, .ref (w.2.1 0)), (1, .int x1), (3, .int x3), (4, .int z9), (5, .int v5_12)]) (fun z9 => rfl) (fun y84 ey84 => ?_)
            replace h := k_nm_e h y84 ey84
            refine k_goto C dX12_workOut_87 (tgt := 165) (by decide) ?_
            refine k_iinc C dX12_workOut_165 4 rfl (v := 1) rfl (by decide) [1, 2, 3, 4, 0] (L' := fun z9 => [(0, .ref (w.2.1 0)), (1, .int x1), (3, .int x3), (4, .int y84), (5, .int z9)]) (fun z9 => rfl) (fun y165 ey165 => ?_)
            replace h := k_nm_e h y165 ey165
            refine k_goto C dX12_workOut_168 (tgt := 12) (by decide) ?_
            exact ih12 _ _ _ h
        refine k_if_eq C dX12_workOut_31 (tgt := 45) (by decide) (fun c31 => ?_) (fun c31 => ?_)
        · replace h := k_if_t h c31
          exact Jj45 h
        · replace h := k_if_f h c31
          refine k_aload_n C dX12_workOut_34 0 rfl ?_
          refine k_get C dX12_workOut_35 (k_gM0_6 w) k_fX12_13 (Or.inl rfl) ?_
          refine k_iload C dX12_workOut_38 4 rfl ?_
          obtain ⟨q40, h⟩ := k_gd_e h
          refine k_iald C dX12_workOut_40 (k_aM2 w) q40 ?_
          refine k_iconst C dX12_workOut_41 (v := 1) rfl ?_
          refine k_icmp_ne C dX12_workOut_42 (tgt := 90) (by decide) (fun c42 => ?_) (fun c42 => ?_)
          · replace h := k_if_f h c42
            refine k_aload_n C dX12_workOut_90 0 rfl ?_
            refine k_get C dX12_workOut_91 (k_gM0_6 w) k_fX12_13 (Or.inl rfl) ?_
            refine k_iload C dX12_workOut_94 4 rfl ?_
            obtain ⟨q96, h⟩ := k_gd_e h
            refine k_iald C dX12_workOut_96 (k_aM2 w) q96 ?_
            refine k_bipush C dX12_workOut_97 (v := 9) rfl ?_
            refine k_icmp_ne C dX12_workOut_99 (tgt := 125) (by decide) (fun c99 => ?_) (fun c99 => ?_)
            · replace h := k_if_f h c99
              refine k_iinc C dX12_workOut_125 3 rfl (v := -1) rfl (by decide) [1, 2, 3, 0, 4] (L' := fun z9 => [(0, .ref (w.2.1 0)), (1, .int x1), (3, .int x3), (4, .int z9), (5, .int v5_12)]) (fun z9 => rfl) (fun y125 ey125 => ?_)
              replace h := k_nm_e h y125 ey125
              refine k_aload_n C dX12_workOut_128 0 rfl ?_
              refine k_get C dX12_workOut_129 (k_gM0_16 w) k_fX12_37 (Or.inl rfl) ?_
              refine k_iload C dX12_workOut_132 3 rfl ?_
              refine k_iconst C dX12_workOut_134 (v := 1) rfl ?_
              refine k_isub C dX12_workOut_135 ?_
              refine k_aload_n C dX12_workOut_136 0 rfl ?_
              refine k_get C dX12_workOut_137 (k_gM0_6 w) k_fX12_13 (Or.inl rfl) ?_
              refine k_iload C dX12_workOut_140 4 rfl ?_
              obtain ⟨q142, h⟩ := k_gd_e h
              refine k_iald C dX12_workOut_142 (k_aM2 w) q142 ?_
              refine k_aload_n C dX12_workOut_143 0 rfl ?_
              refine k_get C dX12_workOut_144 (k_gM0_16 w) k_fX12_37 (Or.inl rfl) ?_
              refine k_iload C dX12_workOut_147 3 rfl ?_
              refine k_iconst C dX12_workOut_149 (v := 1) rfl ?_
              refine k_isub C dX12_workOut_150 ?_
              obtain ⟨q151, h⟩ := k_gd_e h
              refine k_iald C dX12_workOut_151 (k_aM10 w) q151 ?_
              refine k_i2l C dX12_workOut_152 ?_
              refine k_aload_n C dX12_workOut_153 0 rfl ?_
              refine k_get C dX12_workOut_154 (k_gM0_16 w) k_fX12_37 (Or.inl rfl) ?_
              refine k_iload C dX12_workOut_157 3 rfl ?_
              obtain ⟨q159, h⟩ := k_gd_e h
              refine k_iald C dX12_workOut_159 (k_aM10 w) q159 ?_
              refine k_i2l C dX12_workOut_160 ?_
              obtain ⟨v161, h161, h⟩ := k_bd_e h
              refine k_goI (k_runS C dX12_workOut_161 (e_X12_worked (d := 4) (Nat.le_refl _) h161) k_lX12_261 k_yX12_worked (by omega) rfl (Nat.le_of_ble_eq_true rfl)) ?_
              obtain ⟨q164, h⟩ := k_gd_e h
              refine k_iast C dX12_workOut_164 (k_aM10 w) q164 ?_
              refine k_st (fun s164 es164 => ?_)
              replace h := k_nm_e h s164 es164
              refine k_iinc C dX12_workOut_165 4 rfl (v := 1) rfl (by decide) [1, 2, 3, 4, 0] (L' := fun z9 => [(0, .ref (w.2.1 0)), (1, .int x1), (3, .int x3), (4, .int y125), (5, .int z9)]) (fun z9 => rfl) (fun y165 ey165 => ?_)
              replace h := k_nm_e h y165 ey165
              refine k_goto C dX12_workOut_168 (tgt := 12) (by decide) ?_
              exact ih12 _ _ _ h
            · replace h := k_if_t h c99
              refine k_aload_n C dX12_workOut_102 0 rfl ?_
              refine k_get C dX12_workOut_103 (k_gM0_16 w) k_fX12_37 (Or.inl rfl) ?_
              refine k_iload C dX12_workOut_106 3 rfl ?_
              refine k_iconst C dX12_workOut_108 (v := 1) rfl ?_
              refine k_isub C dX12_workOut_109 ?_
              refine k_iconst C dX12_workOut_110 (v := 1) rfl ?_
              refine k_aload_n C dX12_workOut_111 0 rfl ?_
              refine k_get C dX12_workOut_112 (k_gM0_16 w) k_fX12_37 (Or.inl rfl) ?_
              refine k_iload C dX12_workOut_115 3 rfl ?_
              refine k_iconst C dX12_workOut_117 (v := 1) rfl ?_
              refine k_isub C dX12_workOut_118 ?_
              obtain ⟨q119, h⟩ := k_gd_e h
              refine k_iald C dX12_workOut_119 (k_aM10 w) q119 ?_
              refine k_isub C dX12_workOut_120 ?_
              obtain ⟨q121, h⟩ := k_gd_e h
              refine k_iast C dX12_workOut_121 (k_aM10 w) q121 ?_
              refine k_st (fun s121 es121 => ?_)
              replace h := k_nm_e h s121 es121
              refine k_goto C dX12_workOut_122 (tgt := 165) (by decide) ?_
              refine k_iinc C dX12_workOut_165 4 rfl (v := 1) rfl (by decide) [1, 2, 3, 4, 0] (L' := fun z9 => [(0, .ref (w.2.1 0)), (1, .int x1), (3, .int x3), (4, .int v4_12), (5, .int z9)]) (fun z9 => rfl) (fun y165 ey165 => ?_)
              replace h := k_nm_e h y165 ey165
              refine k_goto C dX12_workOut_168 (tgt := 12) (by decide) ?_
              exact ih12 _ _ _ h
          · replace h := k_if_t h c42
            exact Jj45 h
  refine k_sub (L' := [(0, .ref (w.2.1 0)), (1, .int x1), (3, .int x3), (4, .int (0 : Int32)), (5, .int y10)]) [0, 1, 3, 4, 5] rfl ?_
  exact K12 _ _ _ _ h
def f_X12_worthOf (x1 : Int32) (σ : k_St) : Option (Int32 × k_St) :=
  k_nm (((90 : Int32) * x1)) fun y4 =>
  k_loop (fun (g5 : Int32 × k_St → Option (Int32 × k_St)) (z5 : Int32 × k_St) => match z5 with
    | (v2_5, s_5) =>
      k_gd (k_ix x1 5 = true) <|
      k_if ((((90 : Int32) * x1) + (k_rd s_5 5 x1.toNatClampNeg)) ≤ v2_5)
        (some ((0 : Int32), s_5))
        (k_gd (k_ix v2_5 450 = true) <|
        k_gd (k_ix v2_5 450 = true) <|
        k_jn (fun (s_55 : k_St) =>
          k_gd (k_ix v2_5 450 = true) <|
          k_gd (k_ix v2_5 450 = true) <|
          k_b2 (f_X12_workOut x1 (k_rd s_55 7 v2_5.toNatClampNeg) (k_rd s_55 8 v2_5.toNatClampNeg) s_55) fun v69 s69 =>
          some (v69, s69)) fun j55 =>
        k_if ((k_rd s_5 6 v2_5.toNatClampNeg) = (k_rd s_5 7 v2_5.toNatClampNeg))
          (j55 s_5)
          (k_gd (k_ix v2_5 450 = true) <|
          k_gd (k_ix v2_5 450 = true) <|
          k_b2 (f_X12_workOut x1 (k_rd s_5 6 v2_5.toNatClampNeg) (k_rd s_5 7 v2_5.toNatClampNeg) s_5) fun v49 s49 =>
          k_if (v49 = (0 : Int32))
            (k_nm (v2_5 + (1 : Int32)) fun y73 =>
            g5 (y73, s49))
            (j55 s49)))) 100000 (y4, σ)
set_option maxHeartbeats 4000000 in
set_option maxRecDepth 100000 in
theorem e_X12_worthOf {l : Launch} {w : k_WC} {d : Nat} (hd : 6 ≤ d) {x1 : Int32}  {σ σ' : k_St} {r : Int32} (h : f_X12_worthOf x1 σ = some (r, σ')) : k_EI l (k_PM w) yX12_worthOf cX12_worthOf 3 (some .int) d [.ref (w.2.1 0), .int x1] σ r σ' := by
  refine k_of (own := RX12) rfl (by decide) (Nat.le_of_ble_eq_true rfl) (fun X hX C hr => ?_)
  show k_K (k_PM w) X (k_MQ X (k_Qi (k_PM w) r σ') (k_PM w).2.2.1) 0 [(0, .ref (w.2.1 0)), (1, .int x1)] [] σ
  unfold f_X12_worthOf at h
  refine k_bipush C dX12_worthOf_0 (v := 90) rfl ?_
  refine k_iload_n C dX12_worthOf_2 1 rfl ?_
  refine k_imul C dX12_worthOf_3 ?_
  refine k_topi (fun y4 ey4 => ?_)
  replace h := k_nm_e h y4 ey4
  refine k_istore_n C dX12_worthOf_4 (by decide) [1, 2, 0] (L' := [(0, .ref (w.2.1 0)), (1, .int x1), (2, .int y4)]) rfl ?_
  obtain ⟨b5, eb5, h⟩ := k_lp_e h
  have K5 : ∀ (n : Nat) (v2_5 : Int32) (s_5 : k_St), k_loop b5 n (v2_5, s_5) = some (r, σ') → k_K (k_PM w) X (k_MQ X (k_Qi (k_PM w) r σ') (k_PM w).2.2.1) 5 [(0, .ref (w.2.1 0)), (1, .int x1), (2, .int v2_5)] [] s_5 := by
    intro n
    induction n with
    | zero => intro v2_5 s_5 h; cases h
    | succ n ih5 =>
      intro v2_5 s_5 h
      obtain ⟨g5, eg5, h⟩ := k_lp_s h
      rw [← eg5] at ih5
      rw [eb5] at h
      refine k_iload_n C dX12_worthOf_5 2 rfl ?_
      refine k_bipush C dX12_worthOf_6 (v := 90) rfl ?_
      refine k_iload_n C dX12_worthOf_8 1 rfl ?_
      refine k_imul C dX12_worthOf_9 ?_
      refine k_aload_n C dX12_worthOf_10 0 rfl ?_
      refine k_get C dX12_worthOf_11 (k_gM0_9 w) k_fX12_22 (Or.inl rfl) ?_
      refine k_iload_n C dX12_worthOf_14 1 rfl ?_
      obtain ⟨q15, h⟩ := k_gd_e h
      refine k_iald C dX12_worthOf_15 (k_aM5 w) q15 ?_
      refine k_iadd C dX12_worthOf_16 ?_
      refine k_icmp_ge C dX12_worthOf_17 (tgt := 79) (by decide) (fun c17 => ?_) (fun c17 => ?_)
      · replace h := k_if_t h c17
        refine k_iconst C dX12_worthOf_79 (v := 0) rfl ?_
        exact k_iret C dX12_worthOf_80 hr (Option.some.inj h)
      · replace h := k_if_f h c17
        refine k_aload_n C dX12_worthOf_20 0 rfl ?_
        refine k_get C dX12_worthOf_21 (k_gM0_10 w) k_fX12_25 (Or.inl rfl) ?_
        refine k_iload_n C dX12_worthOf_24 2 rfl ?_
        obtain ⟨q25, h⟩ := k_gd_e h
        refine k_iald C dX12_worthOf_25 (k_aM6 w) q25 ?_
        refine k_aload_n C dX12_worthOf_26 0 rfl ?_
        refine k_get C dX12_worthOf_27 (k_gM0_11 w) k_fX12_28 (Or.inl rfl) ?_
        refine k_iload_n C dX12_worthOf_30 2 rfl ?_
        obtain ⟨q31, h⟩ := k_gd_e h
        refine k_iald C dX12_worthOf_31 (k_aM7 w) q31 ?_
        obtain ⟨j55, ej55, h⟩ := k_jn_e h
        have Jj55 : ∀ (s_55 : k_St), j55 s_55 = some (r, σ') → k_K (k_PM w) X (k_MQ X (k_Qi (k_PM w) r σ') (k_PM w).2.2.1) 55 [(0, .ref (w.2.1 0)), (1, .int x1), (2, .int v2_5)] [] s_55 := by
          intro s_55 h
          rw [ej55] at h
          refine k_aload_n C dX12_worthOf_55 0 rfl ?_
          refine k_iload_n C dX12_worthOf_56 1 rfl ?_
          refine k_aload_n C dX12_worthOf_57 0 rfl ?_
          refine k_get C dX12_worthOf_58 (k_gM0_11 w) k_fX12_28 (Or.inl rfl) ?_
          refine k_iload_n C dX12_worthOf_61 2 rfl ?_
          obtain ⟨q62, h⟩ := k_gd_e h
          refine k_iald C dX12_worthOf_62 (k_aM7 w) q62 ?_
          refine k_aload_n C dX12_worthOf_63 0 rfl ?_
          refine k_get C dX12_worthOf_64 (k_gM0_12 w) k_fX12_31 (Or.inl rfl) ?_
          refine k_iload_n C dX12_worthOf_67 2 rfl ?_
          obtain ⟨q68, h⟩ := k_gd_e h
          refine k_iald C dX12_worthOf_68 (k_aM8 w) q68 ?_
          obtain ⟨v69, s69, h69, h⟩ := k_b2_e h
          refine k_goI (k_runV C dX12_worthOf_69 (e_X12_workOut (d := 5) (Nat.le_refl _) h69) k_lX12_265 k_yX12_workOut (k_oM0 w) (by omega) rfl (Nat.le_of_ble_eq_true rfl)) ?_
          exact k_iret C dX12_worthOf_72 hr (Option.some.inj h)
        refine k_icmp_eq C dX12_worthOf_32 (tgt := 55) (by decide) (fun c32 => ?_) (fun c32 => ?_)
        · replace h := k_if_t h c32
          exact Jj55 _ h
        · replace h := k_if_f h c32
          refine k_aload_n C dX12_worthOf_35 0 rfl ?_
          refine k_iload_n C dX12_worthOf_36 1 rfl ?_
          refine k_aload_n C dX12_worthOf_37 0 rfl ?_
          refine k_get C dX12_worthOf_38 (k_gM0_10 w) k_fX12_25 (Or.inl rfl) ?_
          refine k_iload_n C dX12_worthOf_41 2 rfl ?_
          obtain ⟨q42, h⟩ := k_gd_e h
          refine k_iald C dX12_worthOf_42 (k_aM6 w) q42 ?_
          refine k_aload_n C dX12_worthOf_43 0 rfl ?_
          refine k_get C dX12_worthOf_44 (k_gM0_11 w) k_fX12_28 (Or.inl rfl) ?_
          refine k_iload_n C dX12_worthOf_47 2 rfl ?_
          obtain ⟨q48, h⟩ := k_gd_e h
          refine k_iald C dX12_worthOf_48 (k_aM7 w) q48 ?_
          obtain ⟨v49, s49, h49, h⟩ := k_b2_e h
          refine k_goI (k_runV C dX12_worthOf_49 (e_X12_workOut (d := 5) (Nat.le_refl _) h49) k_lX12_265 k_yX12_workOut (k_oM0 w) (by omega) rfl (Nat.le_of_ble_eq_true rfl)) ?_
          refine k_if_eq C dX12_worthOf_52 (tgt := 73) (by decide) (fun c52 => ?_) (fun c52 => ?_)
          · replace h := k_if_t h c52
            refine k_iinc C dX12_worthOf_73 2 rfl (v := 1) rfl (by decide) [1, 2, 0] (L' := fun z9 => [(0, .ref (w.2.1 0)), (1, .int x1), (2, .int z9)]) (fun z9 => rfl) (fun y73 ey73 => ?_)
            replace h := k_nm_e h y73 ey73
            refine k_goto C dX12_worthOf_76 (tgt := 5) (by decide) ?_
            exact ih5 _ _ h
          · replace h := k_if_f h c52
            exact Jj55 _ h
  exact K5 _ _ _ h
def f_X12_number (x1 : Int32) (x2 : Int32) (σ : k_St) : Option (Int32 × k_St) :=
  k_b2 (f_X12_look σ) fun v1 s1 =>
  k_bd (f_X12_isDigit v1) fun v4 =>
  k_if (v4 = (0 : Int32))
    (k_bd (f_X12_bad s1) fun s11 =>
    some (x1, s11))
    (k_bd (f_X12_here s1) fun v17 =>
    k_nm ((v17 - (48 : Int32))) fun y23 =>
    k_nm (k_wr s1 0 3 ((k_rd s1 0 3) + (1 : Int32))) fun s31 =>
    k_bd (f_X12_here s31) fun v35 =>
    k_bd (f_X12_isDigit v35) fun v38 =>
    k_jn (fun (v3_67 : Int32) (s_67 : k_St) =>
      k_bd (f_X12_here s_67) fun v68 =>
      k_bd (f_X12_isDigit v68) fun v71 =>
      k_if (v71 = (0 : Int32))
        (k_bd (f_X12_in v3_67 x1 x2) fun v87 =>
        k_if (v87 = (0 : Int32))
          (k_nm (k_wr s_67 0 3 ((k_rd s_67 0 3) - (1 : Int32))) fun s100 =>
          k_bd (f_X12_bad s100) fun s104 =>
          some (v3_67, s104))
          (some (v3_67, s_67)))
        (k_bd (f_X12_bad s_67) fun s78 =>
        some (v3_67, s78))) fun j67 =>
    k_if (v38 = (0 : Int32))
      (j67 y23 s31)
      (k_bd (f_X12_here s31) fun v49 =>
      k_nm (((((10 : Int32) * y23) + v49) - (48 : Int32))) fun y56 =>
      k_nm (k_wr s31 0 3 ((k_rd s31 0 3) + (1 : Int32))) fun s64 =>
      j67 y56 s64))
set_option maxHeartbeats 4000000 in
set_option maxRecDepth 100000 in
theorem e_X12_number {l : Launch} {w : k_WC} {d : Nat} (hd : 4 ≤ d) {x1 : Int32} {x2 : Int32}  {σ σ' : k_St} {r : Int32} (h : f_X12_number x1 x2 σ = some (r, σ')) : k_EI l (k_PM w) yX12_number cX12_number 4 (some .int) d [.ref (w.2.1 0), .int x1, .int x2] σ r σ' := by
  refine k_of (own := RX12) rfl (by decide) (Nat.le_of_ble_eq_true rfl) (fun X hX C hr => ?_)
  show k_K (k_PM w) X (k_MQ X (k_Qi (k_PM w) r σ') (k_PM w).2.2.1) 0 [(0, .ref (w.2.1 0)), (1, .int x1), (2, .int x2)] [] σ
  unfold f_X12_number at h
  refine k_aload_n C dX12_number_0 0 rfl ?_
  obtain ⟨v1, s1, h1, h⟩ := k_b2_e h
  refine k_goI (k_runV C dX12_number_1 (e_X12_look (d := 3) (Nat.le_refl _) h1) k_lX12_183 k_yX12_look (k_oM0 w) (by omega) rfl (Nat.le_of_ble_eq_true rfl)) ?_
  obtain ⟨v4, h4, h⟩ := k_bd_e h
  refine k_goI (k_runS C dX12_number_4 (e_X12_isDigit (d := 2) (Nat.le_refl _) h4) k_lX12_186 k_yX12_isDigit (by omega) rfl (Nat.le_of_ble_eq_true rfl)) ?_
  refine k_if_ne C dX12_number_7 (tgt := 16) (by decide) (fun c7 => ?_) (fun c7 => ?_)
  · replace h := k_if_f h c7
    refine k_aload_n C dX12_number_16 0 rfl ?_
    obtain ⟨v17, h17, h⟩ := k_bd_e h
    refine k_goI (k_runV C dX12_number_17 (e_X12_here (d := 2) (Nat.le_refl _) h17) k_lX12_167 k_yX12_here (k_oM0 w) (by omega) rfl (Nat.le_of_ble_eq_true rfl)) ?_
    refine k_bipush C dX12_number_20 (v := 48) rfl ?_
    refine k_isub C dX12_number_22 ?_
    refine k_topi (fun y23 ey23 => ?_)
    replace h := k_nm_e h y23 ey23
    refine k_istore_n C dX12_number_23 (by decide) [1, 2, 3, 0] (L' := [(0, .ref (w.2.1 0)), (1, .int x1), (2, .int x2), (3, .int y23)]) rfl ?_
    refine k_aload_n C dX12_number_24 0 rfl ?_
    refine k_dup C dX12_number_25 rfl ?_
    refine k_get C dX12_number_26 (k_gM0_3 w) k_fX12_164 (Or.inl rfl) ?_
    refine k_iconst C dX12_number_29 (v := 1) rfl ?_
    refine k_iadd C dX12_number_30 ?_
    refine k_puti C dX12_number_31 (k_pM0_3 w) k_fX12_164 (Or.inl rfl) k_xi ?_
    refine k_st (fun s31 es31 => ?_)
    replace h := k_nm_e h s31 es31
    refine k_aload_n C dX12_number_34 0 rfl ?_
    obtain ⟨v35, h35, h⟩ := k_bd_e h
    refine k_goI (k_runV C dX12_number_35 (e_X12_here (d := 2) (Nat.le_refl _) h35) k_lX12_167 k_yX12_here (k_oM0 w) (by omega) rfl (Nat.le_of_ble_eq_true rfl)) ?_
    obtain ⟨v38, h38, h⟩ := k_bd_e h
    refine k_goI (k_runS C dX12_number_38 (e_X12_isDigit (d := 2) (Nat.le_refl _) h38) k_lX12_186 k_yX12_isDigit (by omega) rfl (Nat.le_of_ble_eq_true rfl)) ?_
    obtain ⟨j67, ej67, h⟩ := k_jn_e h
    have Jj67 : ∀ (v3_67 : Int32) (s_67 : k_St), j67 v3_67 s_67 = some (r, σ') → k_K (k_PM w) X (k_MQ X (k_Qi (k_PM w) r σ') (k_PM w).2.2.1) 67 [(0, .ref (w.2.1 0)), (1, .int x1), (2, .int x2), (3, .int v3_67)] [] s_67 := by
      intro v3_67 s_67 h
      rw [ej67] at h
      refine k_aload_n C dX12_number_67 0 rfl ?_
      obtain ⟨v68, h68, h⟩ := k_bd_e h
      refine k_goI (k_runV C dX12_number_68 (e_X12_here (d := 2) (Nat.le_refl _) h68) k_lX12_167 k_yX12_here (k_oM0 w) (by omega) rfl (Nat.le_of_ble_eq_true rfl)) ?_
      obtain ⟨v71, h71, h⟩ := k_bd_e h
      refine k_goI (k_runS C dX12_number_71 (e_X12_isDigit (d := 2) (Nat.le_refl _) h71) k_lX12_186 k_yX12_isDigit (by omega) rfl (Nat.le_of_ble_eq_true rfl)) ?_
      refine k_if_eq C dX12_number_74 (tgt := 84) (by decide) (fun c74 => ?_) (fun c74 => ?_)
      · replace h := k_if_t h c74
        refine k_iload_n C dX12_number_84 3 rfl ?_
        refine k_iload_n C dX12_number_85 1 rfl ?_
        refine k_iload_n C dX12_number_86 2 rfl ?_
        obtain ⟨v87, h87, h⟩ := k_bd_e h
        refine k_goI (k_runS C dX12_number_87 (e_X12_in (d := 2) (Nat.le_refl _) h87) k_lX12_269 k_yX12_in (by omega) rfl (Nat.le_of_ble_eq_true rfl)) ?_
        refine k_if_ne C dX12_number_90 (tgt := 107) (by decide) (fun c90 => ?_) (fun c90 => ?_)
        · replace h := k_if_f h c90
          refine k_iload_n C dX12_number_107 3 rfl ?_
          exact k_iret C dX12_number_108 hr (Option.some.inj h)
        · replace h := k_if_t h c90
          refine k_aload_n C dX12_number_93 0 rfl ?_
          refine k_dup C dX12_number_94 rfl ?_
          refine k_get C dX12_number_95 (k_gM0_3 w) k_fX12_164 (Or.inl rfl) ?_
          refine k_iconst C dX12_number_98 (v := 1) rfl ?_
          refine k_isub C dX12_number_99 ?_
          refine k_puti C dX12_number_100 (k_pM0_3 w) k_fX12_164 (Or.inl rfl) k_xi ?_
          refine k_st (fun s100 es100 => ?_)
          replace h := k_nm_e h s100 es100
          refine k_aload_n C dX12_number_103 0 rfl ?_
          obtain ⟨s104, h104, h⟩ := k_bd_e h
          refine k_goV (k_runV C dX12_number_104 (e_X12_bad (d := 2) (Nat.le_refl _) h104) k_lX12_180 k_yX12_bad (k_oM0 w) (by omega) rfl (Nat.le_of_ble_eq_true rfl)) ?_
          refine k_iload_n C dX12_number_107 3 rfl ?_
          exact k_iret C dX12_number_108 hr (Option.some.inj h)
      · replace h := k_if_f h c74
        refine k_aload_n C dX12_number_77 0 rfl ?_
        obtain ⟨s78, h78, h⟩ := k_bd_e h
        refine k_goV (k_runV C dX12_number_78 (e_X12_bad (d := 2) (Nat.le_refl _) h78) k_lX12_180 k_yX12_bad (k_oM0 w) (by omega) rfl (Nat.le_of_ble_eq_true rfl)) ?_
        refine k_goto C dX12_number_81 (tgt := 107) (by decide) ?_
        refine k_iload_n C dX12_number_107 3 rfl ?_
        exact k_iret C dX12_number_108 hr (Option.some.inj h)
    refine k_if_eq C dX12_number_41 (tgt := 67) (by decide) (fun c41 => ?_) (fun c41 => ?_)
    · replace h := k_if_t h c41
      exact Jj67 _ _ h
    · replace h := k_if_f h c41
      refine k_bipush C dX12_number_44 (v := 10) rfl ?_
      refine k_iload_n C dX12_number_46 3 rfl ?_
      refine k_imul C dX12_number_47 ?_
      refine k_aload_n C dX12_number_48 0 rfl ?_
      obtain ⟨v49, h49, h⟩ := k_bd_e h
      refine k_goI (k_runV C dX12_number_49 (e_X12_here (d := 2) (Nat.le_refl _) h49) k_lX12_167 k_yX12_here (k_oM0 w) (by omega) rfl (Nat.le_of_ble_eq_true rfl)) ?_
      refine k_iadd C dX12_number_52 ?_
      refine k_bipush C dX12_number_53 (v := 48) rfl ?_
      refine k_isub C dX12_number_55 ?_
      refine k_topi (fun y56 ey56 => ?_)
      replace h := k_nm_e h y56 ey56
      refine k_istore_n C dX12_number_56 (by decide) [1, 2, 3, 0] (L' := [(0, .ref (w.2.1 0)), (1, .int x1), (2, .int x2), (3, .int y56)]) rfl ?_
      refine k_aload_n C dX12_number_57 0 rfl ?_
      refine k_dup C dX12_number_58 rfl ?_
      refine k_get C dX12_number_59 (k_gM0_3 w) k_fX12_164 (Or.inl rfl) ?_
      refine k_iconst C dX12_number_62 (v := 1) rfl ?_
      refine k_iadd C dX12_number_63 ?_
      refine k_puti C dX12_number_64 (k_pM0_3 w) k_fX12_164 (Or.inl rfl) k_xi ?_
      refine k_st (fun s64 es64 => ?_)
      replace h := k_nm_e h s64 es64
      exact Jj67 _ _ h
  · replace h := k_if_t h c7
    refine k_aload_n C dX12_number_10 0 rfl ?_
    obtain ⟨s11, h11, h⟩ := k_bd_e h
    refine k_goV (k_runV C dX12_number_11 (e_X12_bad (d := 2) (Nat.le_refl _) h11) k_lX12_180 k_yX12_bad (k_oM0 w) (by omega) rfl (Nat.le_of_ble_eq_true rfl)) ?_
    refine k_iload_n C dX12_number_14 1 rfl ?_
    exact k_iret C dX12_number_15 hr (Option.some.inj h)
def f_X12_itemOf (x0 : Int32) (x1 : Int32) : Option (Int32) :=
  k_if (x0 = (112 : Int32))
    (k_if (x1 = (119 : Int32))
      (some (0 : Int32))
      (k_if (x1 = (115 : Int32))
        (some (1 : Int32))
        (k_if (x1 = (108 : Int32))
          (some (2 : Int32))
          (k_if (x1 = (102 : Int32))
            (some (3 : Int32))
            (some (-1 : Int32))))))
    (k_if (x1 = (107 : Int32))
      (some (0 : Int32))
      (k_if (x1 = (116 : Int32))
        (some (1 : Int32))
        (some (-1 : Int32))))
set_option maxHeartbeats 4000000 in
set_option maxRecDepth 100000 in
theorem e_X12_itemOf {l : Launch} {w : k_WC} {d : Nat} (hd : 2 ≤ d) {x0 : Int32} {x1 : Int32}  {σ : k_St} {r : Int32} (h : f_X12_itemOf x0 x1 = some r) : k_EI l (k_PM w) yX12_itemOf cX12_itemOf 2 (some .int) d [.int x0, .int x1] σ r σ := by
  refine k_of (own := RX12) rfl (by decide) (Nat.le_of_ble_eq_true rfl) (fun X hX C hr => ?_)
  show k_K (k_PM w) X (k_MQ X (k_Qi (k_PM w) r σ) (k_PM w).2.2.1) 0 [(0, .int x0), (1, .int x1)] [] σ
  unfold f_X12_itemOf at h
  refine k_iload_n C dX12_itemOf_0 0 rfl ?_
  refine k_bipush C dX12_itemOf_1 (v := 112) rfl ?_
  refine k_icmp_ne C dX12_itemOf_3 (tgt := 48) (by decide) (fun c3 => ?_) (fun c3 => ?_)
  · replace h := k_if_f h c3
    refine k_iload_n C dX12_itemOf_48 1 rfl ?_
    refine k_bipush C dX12_itemOf_49 (v := 107) rfl ?_
    refine k_icmp_ne C dX12_itemOf_51 (tgt := 58) (by decide) (fun c51 => ?_) (fun c51 => ?_)
    · replace h := k_if_f h c51
      refine k_iload_n C dX12_itemOf_58 1 rfl ?_
      refine k_bipush C dX12_itemOf_59 (v := 116) rfl ?_
      refine k_icmp_ne C dX12_itemOf_61 (tgt := 68) (by decide) (fun c61 => ?_) (fun c61 => ?_)
      · replace h := k_if_f h c61
        refine k_iconst C dX12_itemOf_68 (v := -1) rfl ?_
        exact k_iret C dX12_itemOf_69 hr (k_p1 h)
      · replace h := k_if_t h c61
        refine k_iconst C dX12_itemOf_64 (v := 1) rfl ?_
        refine k_goto C dX12_itemOf_65 (tgt := 69) (by decide) ?_
        exact k_iret C dX12_itemOf_69 hr (k_p1 h)
    · replace h := k_if_t h c51
      refine k_iconst C dX12_itemOf_54 (v := 0) rfl ?_
      refine k_goto C dX12_itemOf_55 (tgt := 69) (by decide) ?_
      exact k_iret C dX12_itemOf_69 hr (k_p1 h)
  · replace h := k_if_t h c3
    refine k_iload_n C dX12_itemOf_6 1 rfl ?_
    refine k_bipush C dX12_itemOf_7 (v := 119) rfl ?_
    refine k_icmp_ne C dX12_itemOf_9 (tgt := 16) (by decide) (fun c9 => ?_) (fun c9 => ?_)
    · replace h := k_if_f h c9
      refine k_iload_n C dX12_itemOf_16 1 rfl ?_
      refine k_bipush C dX12_itemOf_17 (v := 115) rfl ?_
      refine k_icmp_ne C dX12_itemOf_19 (tgt := 26) (by decide) (fun c19 => ?_) (fun c19 => ?_)
      · replace h := k_if_f h c19
        refine k_iload_n C dX12_itemOf_26 1 rfl ?_
        refine k_bipush C dX12_itemOf_27 (v := 108) rfl ?_
        refine k_icmp_ne C dX12_itemOf_29 (tgt := 36) (by decide) (fun c29 => ?_) (fun c29 => ?_)
        · replace h := k_if_f h c29
          refine k_iload_n C dX12_itemOf_36 1 rfl ?_
          refine k_bipush C dX12_itemOf_37 (v := 102) rfl ?_
          refine k_icmp_ne C dX12_itemOf_39 (tgt := 46) (by decide) (fun c39 => ?_) (fun c39 => ?_)
          · replace h := k_if_f h c39
            refine k_iconst C dX12_itemOf_46 (v := -1) rfl ?_
            exact k_iret C dX12_itemOf_47 hr (k_p1 h)
          · replace h := k_if_t h c39
            refine k_iconst C dX12_itemOf_42 (v := 3) rfl ?_
            refine k_goto C dX12_itemOf_43 (tgt := 47) (by decide) ?_
            exact k_iret C dX12_itemOf_47 hr (k_p1 h)
        · replace h := k_if_t h c29
          refine k_iconst C dX12_itemOf_32 (v := 2) rfl ?_
          refine k_goto C dX12_itemOf_33 (tgt := 47) (by decide) ?_
          exact k_iret C dX12_itemOf_47 hr (k_p1 h)
      · replace h := k_if_t h c19
        refine k_iconst C dX12_itemOf_22 (v := 1) rfl ?_
        refine k_goto C dX12_itemOf_23 (tgt := 47) (by decide) ?_
        exact k_iret C dX12_itemOf_47 hr (k_p1 h)
    · replace h := k_if_t h c9
      refine k_iconst C dX12_itemOf_12 (v := 0) rfl ?_
      refine k_goto C dX12_itemOf_13 (tgt := 47) (by decide) ?_
      exact k_iret C dX12_itemOf_47 hr (k_p1 h)
def f_X12_highest (x0 : Int32) (x1 : Int32) : Option (Int32) :=
  k_if (x0 = (112 : Int32))
    (k_if (x1 = (0 : Int32))
      (some (9 : Int32))
      (k_if (x1 = (3 : Int32))
        (some (99 : Int32))
        (some (3 : Int32))))
    (k_if (x1 = (0 : Int32))
      (some (4 : Int32))
      (some (99 : Int32)))
set_option maxHeartbeats 4000000 in
set_option maxRecDepth 100000 in
theorem e_X12_highest {l : Launch} {w : k_WC} {d : Nat} (hd : 2 ≤ d) {x0 : Int32} {x1 : Int32}  {σ : k_St} {r : Int32} (h : f_X12_highest x0 x1 = some r) : k_EI l (k_PM w) yX12_highest cX12_highest 2 (some .int) d [.int x0, .int x1] σ r σ := by
  refine k_of (own := RX12) rfl (by decide) (Nat.le_of_ble_eq_true rfl) (fun X hX C hr => ?_)
  show k_K (k_PM w) X (k_MQ X (k_Qi (k_PM w) r σ) (k_PM w).2.2.1) 0 [(0, .int x0), (1, .int x1)] [] σ
  unfold f_X12_highest at h
  refine k_iload_n C dX12_highest_0 0 rfl ?_
  refine k_bipush C dX12_highest_1 (v := 112) rfl ?_
  refine k_icmp_ne C dX12_highest_3 (tgt := 27) (by decide) (fun c3 => ?_) (fun c3 => ?_)
  · replace h := k_if_f h c3
    refine k_iload_n C dX12_highest_27 1 rfl ?_
    refine k_if_ne C dX12_highest_28 (tgt := 35) (by decide) (fun c28 => ?_) (fun c28 => ?_)
    · replace h := k_if_f h c28
      refine k_bipush C dX12_highest_35 (v := 99) rfl ?_
      exact k_iret C dX12_highest_37 hr (k_p1 h)
    · replace h := k_if_t h c28
      refine k_iconst C dX12_highest_31 (v := 4) rfl ?_
      refine k_goto C dX12_highest_32 (tgt := 37) (by decide) ?_
      exact k_iret C dX12_highest_37 hr (k_p1 h)
  · replace h := k_if_t h c3
    refine k_iload_n C dX12_highest_6 1 rfl ?_
    refine k_if_ne C dX12_highest_7 (tgt := 15) (by decide) (fun c7 => ?_) (fun c7 => ?_)
    · replace h := k_if_f h c7
      refine k_iload_n C dX12_highest_15 1 rfl ?_
      refine k_iconst C dX12_highest_16 (v := 3) rfl ?_
      refine k_icmp_ne C dX12_highest_17 (tgt := 25) (by decide) (fun c17 => ?_) (fun c17 => ?_)
      · replace h := k_if_f h c17
        refine k_iconst C dX12_highest_25 (v := 3) rfl ?_
        exact k_iret C dX12_highest_26 hr (k_p1 h)
      · replace h := k_if_t h c17
        refine k_bipush C dX12_highest_20 (v := 99) rfl ?_
        refine k_goto C dX12_highest_22 (tgt := 26) (by decide) ?_
        exact k_iret C dX12_highest_26 hr (k_p1 h)
    · replace h := k_if_t h c7
      refine k_bipush C dX12_highest_10 (v := 9) rfl ?_
      refine k_goto C dX12_highest_12 (tgt := 26) (by decide) ?_
      exact k_iret C dX12_highest_26 hr (k_p1 h)
def f_X12_usual (x0 : Int32) (x1 : Int32) : Option (Int32) :=
  k_if (x0 = (112 : Int32))
    (k_if (x1 = (0 : Int32))
      (some (1 : Int32))
      (k_if (x1 = (3 : Int32))
        (some (10 : Int32))
        (some (0 : Int32))))
    (k_if (x1 = (0 : Int32))
      (some (2 : Int32))
      (some (0 : Int32)))
set_option maxHeartbeats 4000000 in
set_option maxRecDepth 100000 in
theorem e_X12_usual {l : Launch} {w : k_WC} {d : Nat} (hd : 2 ≤ d) {x0 : Int32} {x1 : Int32}  {σ : k_St} {r : Int32} (h : f_X12_usual x0 x1 = some r) : k_EI l (k_PM w) yX12_usual cX12_usual 2 (some .int) d [.int x0, .int x1] σ r σ := by
  refine k_of (own := RX12) rfl (by decide) (Nat.le_of_ble_eq_true rfl) (fun X hX C hr => ?_)
  show k_K (k_PM w) X (k_MQ X (k_Qi (k_PM w) r σ) (k_PM w).2.2.1) 0 [(0, .int x0), (1, .int x1)] [] σ
  unfold f_X12_usual at h
  refine k_iload_n C dX12_usual_0 0 rfl ?_
  refine k_bipush C dX12_usual_1 (v := 112) rfl ?_
  refine k_icmp_ne C dX12_usual_3 (tgt := 26) (by decide) (fun c3 => ?_) (fun c3 => ?_)
  · replace h := k_if_f h c3
    refine k_iload_n C dX12_usual_26 1 rfl ?_
    refine k_if_ne C dX12_usual_27 (tgt := 34) (by decide) (fun c27 => ?_) (fun c27 => ?_)
    · replace h := k_if_f h c27
      refine k_iconst C dX12_usual_34 (v := 0) rfl ?_
      exact k_iret C dX12_usual_35 hr (k_p1 h)
    · replace h := k_if_t h c27
      refine k_iconst C dX12_usual_30 (v := 2) rfl ?_
      refine k_goto C dX12_usual_31 (tgt := 35) (by decide) ?_
      exact k_iret C dX12_usual_35 hr (k_p1 h)
  · replace h := k_if_t h c3
    refine k_iload_n C dX12_usual_6 1 rfl ?_
    refine k_if_ne C dX12_usual_7 (tgt := 14) (by decide) (fun c7 => ?_) (fun c7 => ?_)
    · replace h := k_if_f h c7
      refine k_iload_n C dX12_usual_14 1 rfl ?_
      refine k_iconst C dX12_usual_15 (v := 3) rfl ?_
      refine k_icmp_ne C dX12_usual_16 (tgt := 24) (by decide) (fun c16 => ?_) (fun c16 => ?_)
      · replace h := k_if_f h c16
        refine k_iconst C dX12_usual_24 (v := 0) rfl ?_
        exact k_iret C dX12_usual_25 hr (k_p1 h)
      · replace h := k_if_t h c16
        refine k_bipush C dX12_usual_19 (v := 10) rfl ?_
        refine k_goto C dX12_usual_21 (tgt := 25) (by decide) ?_
        exact k_iret C dX12_usual_25 hr (k_p1 h)
    · replace h := k_if_t h c7
      refine k_iconst C dX12_usual_10 (v := 1) rfl ?_
      refine k_goto C dX12_usual_11 (tgt := 25) (by decide) ?_
      exact k_iret C dX12_usual_25 hr (k_p1 h)
def f_X12_items (x1 : Int32) (a2 : Nat) (x3 : Int32) (x4 : Int32) (σ : k_St) : Option (k_St) :=
  k_loop (fun (g3 : Int32 × k_St → Option (k_St)) (z3 : Int32 × k_St) => match z3 with
    | (v5_3, s_3) =>
      k_if (x4 ≤ v5_3)
        (k_b2 (f_X12_look s_3) fun v33 s33 =>
        k_bd (f_X12_itemOf x1 v33) fun v36 =>
        k_loop (fun (g41 : Int32 × Int32 × k_St → Option (k_St)) (z41 : Int32 × Int32 × k_St) => match z41 with
          | (v5_41, v6_41, s_41) =>
            k_if ((k_rd s_41 0 4) = (-1 : Int32))
              (k_if (v6_41 = (-1 : Int32))
                (some s_41)
                (k_bd (f_X12_has v5_41 v6_41) fun v59 =>
                k_if (v59 = (0 : Int32))
                  (k_nm ((v5_41 ||| (o_shl (1 : Int32) v6_41))) fun y72 =>
                  k_nm (k_wr s_41 0 3 ((k_rd s_41 0 3) + (1 : Int32))) fun s81 =>
                  k_jn (fun (t3_106 : Int32) =>
                    k_bd (f_X12_highest x1 v6_41) fun v109 =>
                    k_b2 (f_X12_number t3_106 v109 s81) fun v112 s112 =>
                    k_gd (k_ix (x3 + v6_41) (k_nM a2) = true) <|
                    k_nm (k_wr s112 a2 (x3 + v6_41).toNatClampNeg v112) fun s115 =>
                    k_if ((k_rd s115 0 4) = (-1 : Int32))
                      (k_b2 (f_X12_look s115) fun v126 s126 =>
                      k_bd (f_X12_itemOf x1 v126) fun v129 =>
                      g41 (y72, v129, s126))
                      (g41 (y72, (-1 : Int32), s115))) fun j106 =>
                  k_jn (fun (_ : Unit) =>
                    j106 (0 : Int32)) fun j105 =>
                  k_if (x1 = (98 : Int32))
                    (k_if (v6_41 = (0 : Int32))
                      (j106 (1 : Int32))
                      (j105 ()))
                    (j105 ()))
                  (some s_41)))
              (some s_41)) 100000 ((0 : Int32), v36, s33))
        (k_bd (f_X12_usual x1 v5_3) fun v18 =>
        k_gd (k_ix (x3 + v5_3) (k_nM a2) = true) <|
        k_nm (k_wr s_3 a2 (x3 + v5_3).toNatClampNeg v18) fun s21 =>
        k_nm (v5_3 + (1 : Int32)) fun y22 =>
        g3 (y22, s21))) 100000 ((0 : Int32), σ)
set_option maxHeartbeats 4000000 in
set_option maxRecDepth 100000 in
theorem e_X12_items {l : Launch} {w : k_WC} {d : Nat} (hd : 5 ≤ d) {x1 : Int32} {a2 : Nat} {x3 : Int32} {x4 : Int32} (ha2 : k_AI (k_PM w) .int a2 (w.2.1 a2) (k_nM a2)) {σ σ' : k_St} (h : f_X12_items x1 a2 x3 x4 σ = some σ') : k_EV l (k_PM w) yX12_items cX12_items 7 d [.ref (w.2.1 0), .int x1, .ref (w.2.1 a2), .int x3, .int x4] σ σ' := by
  refine k_of (own := RX12) rfl (by decide) (Nat.le_of_ble_eq_true rfl) (fun X hX C hr => ?_)
  show k_K (k_PM w) X (k_MQ X (k_Qv (k_PM w) σ') (k_PM w).2.2.1) 0 [(0, .ref (w.2.1 0)), (1, .int x1), (2, .ref (w.2.1 a2)), (3, .int x3), (4, .int x4)] [] σ
  unfold f_X12_items at h
  refine k_iconst C dX12_items_0 (v := 0) rfl ?_
  refine k_istore C dX12_items_1 (by decide) [1, 2, 3, 4, 5, 0] (L' := [(0, .ref (w.2.1 0)), (1, .int x1), (2, .ref (w.2.1 a2)), (3, .int x3), (4, .int x4), (5, .int (0 : Int32))]) rfl ?_
  obtain ⟨b3, eb3, h⟩ := k_lp_e h
  have K3 : ∀ (n : Nat) (v5_3 : Int32) (s_3 : k_St), k_loop b3 n (v5_3, s_3) = some σ' → k_K (k_PM w) X (k_MQ X (k_Qv (k_PM w) σ') (k_PM w).2.2.1) 3 [(0, .ref (w.2.1 0)), (1, .int x1), (2, .ref (w.2.1 a2)), (3, .int x3), (4, .int x4), (5, .int v5_3)] [] s_3 := by
    intro n
    induction n with
    | zero => intro v5_3 s_3 h; cases h
    | succ n ih3 =>
      intro v5_3 s_3 h
      obtain ⟨g3, eg3, h⟩ := k_lp_s h
      rw [← eg3] at ih3
      rw [eb3] at h
      refine k_iload C dX12_items_3 5 rfl ?_
      refine k_iload C dX12_items_5 4 rfl ?_
      refine k_icmp_ge C dX12_items_7 (tgt := 28) (by decide) (fun c7 => ?_) (fun c7 => ?_)
      · replace h := k_if_t h c7
        refine k_iconst C dX12_items_28 (v := 0) rfl ?_
        refine k_istore C dX12_items_29 (by decide) [1, 2, 3, 4, 5, 0] (L' := [(0, .ref (w.2.1 0)), (1, .int x1), (2, .ref (w.2.1 a2)), (3, .int x3), (4, .int x4), (5, .int (0 : Int32))]) rfl ?_
        refine k_iload_n C dX12_items_31 1 rfl ?_
        refine k_aload_n C dX12_items_32 0 rfl ?_
        obtain ⟨v33, s33, h33, h⟩ := k_b2_e h
        refine k_goI (k_runV C dX12_items_33 (e_X12_look (d := 3) (Nat.le_refl _) h33) k_lX12_183 k_yX12_look (k_oM0 w) (by omega) rfl (Nat.le_of_ble_eq_true rfl)) ?_
        obtain ⟨v36, h36, h⟩ := k_bd_e h
        refine k_goI (k_runS C dX12_items_36 (e_X12_itemOf (d := 2) (Nat.le_refl _) h36) k_lX12_277 k_yX12_itemOf (by omega) rfl (Nat.le_of_ble_eq_true rfl)) ?_
        refine k_istore C dX12_items_39 (by decide) [1, 2, 3, 4, 5, 6, 0] (L' := [(0, .ref (w.2.1 0)), (1, .int x1), (2, .ref (w.2.1 a2)), (3, .int x3), (4, .int x4), (5, .int (0 : Int32)), (6, .int v36)]) rfl ?_
        obtain ⟨b41, eb41, h⟩ := k_lp_e h
        have K41 : ∀ (n : Nat) (v5_41 : Int32) (v6_41 : Int32) (s_41 : k_St), k_loop b41 n (v5_41, v6_41, s_41) = some σ' → k_K (k_PM w) X (k_MQ X (k_Qv (k_PM w) σ') (k_PM w).2.2.1) 41 [(0, .ref (w.2.1 0)), (1, .int x1), (2, .ref (w.2.1 a2)), (3, .int x3), (5, .int v5_41), (6, .int v6_41)] [] s_41 := by
          intro n
          induction n with
          | zero => intro v5_41 v6_41 s_41 h; cases h
          | succ n ih41 =>
            intro v5_41 v6_41 s_41 h
            obtain ⟨g41, eg41, h⟩ := k_lp_s h
            rw [← eg41] at ih41
            rw [eb41] at h
            refine k_aload_n C dX12_items_41 0 rfl ?_
            refine k_get C dX12_items_42 (k_gM0_4 w) k_fX12_171 (Or.inl rfl) ?_
            refine k_iconst C dX12_items_45 (v := -1) rfl ?_
            refine k_icmp_ne C dX12_items_46 (tgt := 141) (by decide) (fun c46 => ?_) (fun c46 => ?_)
            · replace h := k_if_f h c46
              exact k_vret C dX12_items_141 hr (Option.some.inj h)
            · replace h := k_if_t h c46
              refine k_iload C dX12_items_49 5 rfl ?_
              refine k_iconst C dX12_items_51 (v := -1) rfl ?_
              refine k_icmp_eq C dX12_items_52 (tgt := 141) (by decide) (fun c52 => ?_) (fun c52 => ?_)
              · replace h := k_if_t h c52
                exact k_vret C dX12_items_141 hr (Option.some.inj h)
              · replace h := k_if_f h c52
                refine k_iload C dX12_items_55 4 rfl ?_
                refine k_iload C dX12_items_57 5 rfl ?_
                obtain ⟨v59, h59, h⟩ := k_bd_e h
                refine k_goI (k_runS C dX12_items_59 (e_X12_has (d := 2) (Nat.le_refl _) h59) k_lX12_280 k_yX12_has (by omega) rfl (Nat.le_of_ble_eq_true rfl)) ?_
                refine k_if_ne C dX12_items_62 (tgt := 141) (by decide) (fun c62 => ?_) (fun c62 => ?_)
                · replace h := k_if_f h c62
                  exact k_vret C dX12_items_141 hr (Option.some.inj h)
                · replace h := k_if_t h c62
                  refine k_iload C dX12_items_65 4 rfl ?_
                  refine k_iconst C dX12_items_67 (v := 1) rfl ?_
                  refine k_iload C dX12_items_68 5 rfl ?_
                  refine k_ishl C dX12_items_70 ?_
                  refine k_ior C dX12_items_71 ?_
                  refine k_topi (fun y72 ey72 => ?_)
                  replace h := k_nm_e h y72 ey72
                  refine k_istore C dX12_items_72 (by decide) [1, 2, 3, 4, 0, 5] (L' := [(0, .ref (w.2.1 0)), (1, .int x1), (2, .ref (w.2.1 a2)), (3, .int x3), (5, .int y72), (6, .int v6_41)]) rfl ?_
                  refine k_aload_n C dX12_items_74 0 rfl ?_
                  refine k_dup C dX12_items_75 rfl ?_
                  refine k_get C dX12_items_76 (k_gM0_3 w) k_fX12_164 (Or.inl rfl) ?_
                  refine k_iconst C dX12_items_79 (v := 1) rfl ?_
                  refine k_iadd C dX12_items_80 ?_
                  refine k_puti C dX12_items_81 (k_pM0_3 w) k_fX12_164 (Or.inl rfl) k_xi ?_
                  refine k_st (fun s81 es81 => ?_)
                  replace h := k_nm_e h s81 es81
                  refine k_aload_n C dX12_items_84 2 rfl ?_
                  refine k_iload_n C dX12_items_85 3 rfl ?_
                  refine k_iload C dX12_items_86 5 rfl ?_
                  refine k_iadd C dX12_items_88 ?_
                  refine k_aload_n C dX12_items_89 0 rfl ?_
                  refine k_iload_n C dX12_items_90 1 rfl ?_
                  refine k_bipush C dX12_items_91 (v := 98) rfl ?_
                  obtain ⟨j106, ej106, h⟩ := k_jn_e h
                  have Jj106 : ∀ (t3_106 : Int32), j106 t3_106 = some σ' → k_K (k_PM w) X (k_MQ X (k_Qv (k_PM w) σ') (k_PM w).2.2.1) 106 [(0, .ref (w.2.1 0)), (1, .int x1), (2, .ref (w.2.1 a2)), (3, .int x3), (5, .int y72), (6, .int v6_41)] [.int t3_106, .ref (w.2.1 0), .int (x3 + v6_41), .ref (w.2.1 a2)] s81 := by
                    intro t3_106 h
                    rw [ej106] at h
                    refine k_iload_n C dX12_items_106 1 rfl ?_
                    refine k_iload C dX12_items_107 5 rfl ?_
                    obtain ⟨v109, h109, h⟩ := k_bd_e h
                    refine k_goI (k_runS C dX12_items_109 (e_X12_highest (d := 2) (Nat.le_refl _) h109) k_lX12_284 k_yX12_highest (by omega) rfl (Nat.le_of_ble_eq_true rfl)) ?_
                    obtain ⟨v112, s112, h112, h⟩ := k_b2_e h
                    refine k_goI (k_runV C dX12_items_112 (e_X12_number (d := 4) (Nat.le_refl _) h112) k_lX12_287 k_yX12_number (k_oM0 w) (by omega) rfl (Nat.le_of_ble_eq_true rfl)) ?_
                    obtain ⟨q115, h⟩ := k_gd_e h
                    refine k_iast C dX12_items_115 ha2 q115 ?_
                    refine k_st (fun s115 es115 => ?_)
                    replace h := k_nm_e h s115 es115
                    refine k_aload_n C dX12_items_116 0 rfl ?_
                    refine k_get C dX12_items_117 (k_gM0_4 w) k_fX12_171 (Or.inl rfl) ?_
                    refine k_iconst C dX12_items_120 (v := -1) rfl ?_
                    refine k_icmp_ne C dX12_items_121 (tgt := 135) (by decide) (fun c121 => ?_) (fun c121 => ?_)
                    · replace h := k_if_f h c121
                      refine k_iconst C dX12_items_135 (v := -1) rfl ?_
                      refine k_istore C dX12_items_136 (by decide) [1, 2, 3, 4, 5, 0] (L' := [(0, .ref (w.2.1 0)), (1, .int x1), (2, .ref (w.2.1 a2)), (3, .int x3), (5, .int y72), (6, .int (-1 : Int32))]) rfl ?_
                      refine k_goto C dX12_items_138 (tgt := 41) (by decide) ?_
                      exact ih41 _ _ _ h
                    · replace h := k_if_t h c121
                      refine k_iload_n C dX12_items_124 1 rfl ?_
                      refine k_aload_n C dX12_items_125 0 rfl ?_
                      obtain ⟨v126, s126, h126, h⟩ := k_b2_e h
                      refine k_goI (k_runV C dX12_items_126 (e_X12_look (d := 3) (Nat.le_refl _) h126) k_lX12_183 k_yX12_look (k_oM0 w) (by omega) rfl (Nat.le_of_ble_eq_true rfl)) ?_
                      obtain ⟨v129, h129, h⟩ := k_bd_e h
                      refine k_goI (k_runS C dX12_items_129 (e_X12_itemOf (d := 2) (Nat.le_refl _) h129) k_lX12_277 k_yX12_itemOf (by omega) rfl (Nat.le_of_ble_eq_true rfl)) ?_
                      refine k_goto C dX12_items_132 (tgt := 136) (by decide) ?_
                      refine k_istore C dX12_items_136 (by decide) [1, 2, 3, 4, 5, 0] (L' := [(0, .ref (w.2.1 0)), (1, .int x1), (2, .ref (w.2.1 a2)), (3, .int x3), (5, .int y72), (6, .int v129)]) rfl ?_
                      refine k_goto C dX12_items_138 (tgt := 41) (by decide) ?_
                      exact ih41 _ _ _ h
                  obtain ⟨j105, ej105, h⟩ := k_jn_e h
                  have Jj105 : j105 () = some σ' → k_K (k_PM w) X (k_MQ X (k_Qv (k_PM w) σ') (k_PM w).2.2.1) 105 [(0, .ref (w.2.1 0)), (1, .int x1), (2, .ref (w.2.1 a2)), (3, .int x3), (5, .int y72), (6, .int v6_41)] [.ref (w.2.1 0), .int (x3 + v6_41), .ref (w.2.1 a2)] s81 := by
                    intro  h
                    rw [ej105] at h
                    refine k_iconst C dX12_items_105 (v := 0) rfl ?_
                    exact Jj106 _ h
                  refine k_icmp_ne C dX12_items_93 (tgt := 105) (by decide) (fun c93 => ?_) (fun c93 => ?_)
                  · replace h := k_if_f h c93
                    exact Jj105 h
                  · replace h := k_if_t h c93
                    refine k_iload C dX12_items_96 5 rfl ?_
                    refine k_if_ne C dX12_items_98 (tgt := 105) (by decide) (fun c98 => ?_) (fun c98 => ?_)
                    · replace h := k_if_f h c98
                      exact Jj105 h
                    · replace h := k_if_t h c98
                      refine k_iconst C dX12_items_101 (v := 1) rfl ?_
                      refine k_goto C dX12_items_102 (tgt := 106) (by decide) ?_
                      exact Jj106 _ h
        refine k_sub (L' := [(0, .ref (w.2.1 0)), (1, .int x1), (2, .ref (w.2.1 a2)), (3, .int x3), (5, .int (0 : Int32)), (6, .int v36)]) [0, 1, 2, 3, 5, 6] rfl ?_
        exact K41 _ _ _ _ h
      · replace h := k_if_f h c7
        refine k_aload_n C dX12_items_10 2 rfl ?_
        refine k_iload_n C dX12_items_11 3 rfl ?_
        refine k_iload C dX12_items_12 5 rfl ?_
        refine k_iadd C dX12_items_14 ?_
        refine k_iload_n C dX12_items_15 1 rfl ?_
        refine k_iload C dX12_items_16 5 rfl ?_
        obtain ⟨v18, h18, h⟩ := k_bd_e h
        refine k_goI (k_runS C dX12_items_18 (e_X12_usual (d := 2) (Nat.le_refl _) h18) k_lX12_273 k_yX12_usual (by omega) rfl (Nat.le_of_ble_eq_true rfl)) ?_
        obtain ⟨q21, h⟩ := k_gd_e h
        refine k_iast C dX12_items_21 ha2 q21 ?_
        refine k_st (fun s21 es21 => ?_)
        replace h := k_nm_e h s21 es21
        refine k_iinc C dX12_items_22 5 rfl (v := 1) rfl (by decide) [1, 2, 3, 4, 5, 0] (L' := fun z9 => [(0, .ref (w.2.1 0)), (1, .int x1), (2, .ref (w.2.1 a2)), (3, .int x3), (4, .int x4), (5, .int z9)]) (fun z9 => rfl) (fun y22 ey22 => ?_)
        replace h := k_nm_e h y22 ey22
        refine k_goto C dX12_items_25 (tgt := 3) (by decide) ?_
        exact ih3 _ _ h
  exact K3 _ _ _ h
def f_X12_weightsRead  (σ : k_St) : Option (Int32) :=
  k_loop (fun (g4 : Int32 × Int32 → Option (Int32)) (z4 : Int32 × Int32) => match z4 with
    | (v1_4, v2_4) =>
      k_if ((k_rd σ 0 19) ≤ v2_4)
        (some v1_4)
        (k_gd (k_ix (((4 : Int32) * v2_4) + (0 : Int32)) 24 = true) <|
        k_nm ((v1_4 + (k_rd σ 11 (((4 : Int32) * v2_4) + (0 : Int32)).toNatClampNeg))) fun y24 =>
        k_nm (v2_4 + (1 : Int32)) fun y25 =>
        g4 (y24, y25))) 100000 ((0 : Int32), (0 : Int32))
set_option maxHeartbeats 4000000 in
set_option maxRecDepth 100000 in
theorem e_X12_weightsRead {l : Launch} {w : k_WC} {d : Nat} (hd : 2 ≤ d)   {σ : k_St} {r : Int32} (h : f_X12_weightsRead σ = some r) : k_EI l (k_PM w) yX12_weightsRead cX12_weightsRead 3 (some .int) d [.ref (w.2.1 0)] σ r σ := by
  refine k_of (own := RX12) rfl (by decide) (Nat.le_of_ble_eq_true rfl) (fun X hX C hr => ?_)
  show k_K (k_PM w) X (k_MQ X (k_Qi (k_PM w) r σ) (k_PM w).2.2.1) 0 [(0, .ref (w.2.1 0))] [] σ
  unfold f_X12_weightsRead at h
  refine k_iconst C dX12_weightsRead_0 (v := 0) rfl ?_
  refine k_istore_n C dX12_weightsRead_1 (by decide) [1, 0] (L' := [(0, .ref (w.2.1 0)), (1, .int (0 : Int32))]) rfl ?_
  refine k_iconst C dX12_weightsRead_2 (v := 0) rfl ?_
  refine k_istore_n C dX12_weightsRead_3 (by decide) [1, 2, 0] (L' := [(0, .ref (w.2.1 0)), (1, .int (0 : Int32)), (2, .int (0 : Int32))]) rfl ?_
  obtain ⟨b4, eb4, h⟩ := k_lp_e h
  have K4 : ∀ (n : Nat) (v1_4 : Int32) (v2_4 : Int32), k_loop b4 n (v1_4, v2_4) = some r → k_K (k_PM w) X (k_MQ X (k_Qi (k_PM w) r σ) (k_PM w).2.2.1) 4 [(0, .ref (w.2.1 0)), (1, .int v1_4), (2, .int v2_4)] [] σ := by
    intro n
    induction n with
    | zero => intro v1_4 v2_4 h; cases h
    | succ n ih4 =>
      intro v1_4 v2_4 h
      obtain ⟨g4, eg4, h⟩ := k_lp_s h
      rw [← eg4] at ih4
      rw [eb4] at h
      refine k_iload_n C dX12_weightsRead_4 2 rfl ?_
      refine k_aload_n C dX12_weightsRead_5 0 rfl ?_
      refine k_get C dX12_weightsRead_6 (k_gM0_19 w) k_fX12_290 (Or.inl rfl) ?_
      refine k_icmp_ge C dX12_weightsRead_9 (tgt := 31) (by decide) (fun c9 => ?_) (fun c9 => ?_)
      · replace h := k_if_t h c9
        refine k_iload_n C dX12_weightsRead_31 1 rfl ?_
        exact k_iret C dX12_weightsRead_32 hr (k_p1 h)
      · replace h := k_if_f h c9
        refine k_iload_n C dX12_weightsRead_12 1 rfl ?_
        refine k_aload_n C dX12_weightsRead_13 0 rfl ?_
        refine k_get C dX12_weightsRead_14 (k_gM0_17 w) k_fX12_40 (Or.inl rfl) ?_
        refine k_iconst C dX12_weightsRead_17 (v := 4) rfl ?_
        refine k_iload_n C dX12_weightsRead_18 2 rfl ?_
        refine k_imul C dX12_weightsRead_19 ?_
        refine k_iconst C dX12_weightsRead_20 (v := 0) rfl ?_
        refine k_iadd C dX12_weightsRead_21 ?_
        obtain ⟨q22, h⟩ := k_gd_e h
        refine k_iald C dX12_weightsRead_22 (k_aM11 w) q22 ?_
        refine k_iadd C dX12_weightsRead_23 ?_
        refine k_topi (fun y24 ey24 => ?_)
        replace h := k_nm_e h y24 ey24
        refine k_istore_n C dX12_weightsRead_24 (by decide) [1, 0, 2] (L' := [(0, .ref (w.2.1 0)), (1, .int y24), (2, .int v2_4)]) rfl ?_
        refine k_iinc C dX12_weightsRead_25 2 rfl (v := 1) rfl (by decide) [1, 2, 0] (L' := fun z9 => [(0, .ref (w.2.1 0)), (1, .int y24), (2, .int z9)]) (fun z9 => rfl) (fun y25 ey25 => ?_)
        replace h := k_nm_e h y25 ey25
        refine k_goto C dX12_weightsRead_28 (tgt := 4) (by decide) ?_
        exact ih4 _ _ h
  exact K4 _ _ _ h
def f_X12_readLake  (σ : k_St) : Option (Int32 × k_St) :=
  k_nm (k_wr σ 0 3 (0 : Int32)) fun s2 =>
  k_nm (k_wr s2 0 4 (-1 : Int32)) fun s7 =>
  k_nm (k_wr s7 0 19 (0 : Int32)) fun s12 =>
  k_gd (k_ix (0 : Int32) 2 = true) <|
  k_nm (k_wr s12 12 (0 : Int32).toNatClampNeg (2 : Int32)) fun s21 =>
  k_gd (k_ix (1 : Int32) 2 = true) <|
  k_nm (k_wr s21 12 (1 : Int32).toNatClampNeg (0 : Int32)) fun s28 =>
  k_loop (fun (g33 : Int32 × Int32 × k_St → Option (Int32 × k_St)) (z33 : Int32 × Int32 × k_St) => match z33 with
    | (v1_33, v2_33, s_33) =>
      k_jn (fun (_ : Unit) =>
        k_if ((k_rd s_33 0 4) = (-1 : Int32))
          (k_b2 (f_X12_look s_33) fun v197 s197 =>
          k_jn (fun (_ : Unit) =>
            k_bd (f_X12_bad s197) fun s220 =>
            some ((k_rd s220 0 4), s220)) fun j219 =>
          k_if (v197 = (-1 : Int32))
            (k_if ((k_rd s197 0 19) < (2 : Int32))
              (j219 ())
              (k_bd (f_X12_weightsRead s197) fun v213 =>
              k_if (v213 = (0 : Int32))
                (j219 ())
                (some ((k_rd s197 0 4), s197))))
            (j219 ()))
          (some ((k_rd s_33 0 4), s_33))) fun j188 =>
      k_if (v2_33 = (0 : Int32))
        (j188 ())
        (k_if ((k_rd s_33 0 4) = (-1 : Int32))
          (k_b2 (f_X12_look s_33) fun v46 s46 =>
          k_jn (fun (v1_144 : Int32) (s_144 : k_St) =>
            k_jn (fun (t0_166 : Int32) (s_166 : k_St) =>
              k_if (t0_166 = (0 : Int32))
                (k_nm (k_wr s_166 0 3 ((k_rd s_166 0 3) + (0 : Int32))) fun s182 =>
                g33 (v1_144, t0_166, s182))
                (k_nm (k_wr s_166 0 3 ((k_rd s_166 0 3) + (1 : Int32))) fun s182 =>
                g33 (v1_144, t0_166, s182))) fun j166 =>
            k_jn (fun (s_165 : k_St) =>
              j166 (0 : Int32) s_165) fun j165 =>
            k_if ((k_rd s_144 0 4) = (-1 : Int32))
              (k_b2 (f_X12_look s_144) fun v153 s153 =>
              k_if (v153 = (59 : Int32))
                (j166 (1 : Int32) s153)
                (j165 s153))
              (j165 s_144)) fun j144 =>
          k_jn (fun (_ : Unit) =>
            k_jn (fun (_ : Unit) =>
              k_bd (f_X12_bad s46) fun s141 =>
              j144 v1_33 s141) fun j140 =>
            k_if (v46 = (98 : Int32))
              (k_if (v1_33 = (0 : Int32))
                (k_nm (k_wr s46 0 3 ((k_rd s46 0 3) + (1 : Int32))) fun s123 =>
                k_bd (f_X12_items v46 12 (0 : Int32) (2 : Int32) s123) fun s134 =>
                j144 (1 : Int32) s134)
                (j140 ()))
              (j140 ())) fun j104 =>
          k_if (v46 = (112 : Int32))
            (k_if ((6 : Int32) ≤ (k_rd s46 0 19))
              (j104 ())
              (k_nm (k_wr s46 0 3 ((k_rd s46 0 3) + (1 : Int32))) fun s72 =>
              k_bd (f_X12_items v46 11 ((4 : Int32) * (k_rd s72 0 19)) (4 : Int32) s72) fun s88 =>
              k_nm (k_wr s88 0 19 ((k_rd s88 0 19) + (1 : Int32))) fun s98 =>
              j144 v1_33 s98))
            (j104 ()))
          (j188 ()))) 100000 ((0 : Int32), (1 : Int32), s28)
set_option maxHeartbeats 4000000 in
set_option maxRecDepth 100000 in
theorem e_X12_readLake {l : Launch} {w : k_WC} {d : Nat} (hd : 6 ≤ d)   {σ σ' : k_St} {r : Int32} (h : f_X12_readLake σ = some (r, σ')) : k_EI l (k_PM w) yX12_readLake cX12_readLake 4 (some .int) d [.ref (w.2.1 0)] σ r σ' := by
  refine k_of (own := RX12) rfl (by decide) (Nat.le_of_ble_eq_true rfl) (fun X hX C hr => ?_)
  show k_K (k_PM w) X (k_MQ X (k_Qi (k_PM w) r σ') (k_PM w).2.2.1) 0 [(0, .ref (w.2.1 0))] [] σ
  unfold f_X12_readLake at h
  refine k_aload_n C dX12_readLake_0 0 rfl ?_
  refine k_iconst C dX12_readLake_1 (v := 0) rfl ?_
  refine k_puti C dX12_readLake_2 (k_pM0_3 w) k_fX12_164 (Or.inl rfl) k_xi ?_
  refine k_st (fun s2 es2 => ?_)
  replace h := k_nm_e h s2 es2
  refine k_aload_n C dX12_readLake_5 0 rfl ?_
  refine k_iconst C dX12_readLake_6 (v := -1) rfl ?_
  refine k_puti C dX12_readLake_7 (k_pM0_4 w) k_fX12_171 (Or.inl rfl) k_xi ?_
  refine k_st (fun s7 es7 => ?_)
  replace h := k_nm_e h s7 es7
  refine k_aload_n C dX12_readLake_10 0 rfl ?_
  refine k_iconst C dX12_readLake_11 (v := 0) rfl ?_
  refine k_puti C dX12_readLake_12 (k_pM0_19 w) k_fX12_290 (Or.inl rfl) k_xi ?_
  refine k_st (fun s12 es12 => ?_)
  replace h := k_nm_e h s12 es12
  refine k_aload_n C dX12_readLake_15 0 rfl ?_
  refine k_get C dX12_readLake_16 (k_gM0_18 w) k_fX12_43 (Or.inl rfl) ?_
  refine k_iconst C dX12_readLake_19 (v := 0) rfl ?_
  refine k_iconst C dX12_readLake_20 (v := 2) rfl ?_
  obtain ⟨q21, h⟩ := k_gd_e h
  refine k_iast C dX12_readLake_21 (k_aM12 w) q21 ?_
  refine k_st (fun s21 es21 => ?_)
  replace h := k_nm_e h s21 es21
  refine k_aload_n C dX12_readLake_22 0 rfl ?_
  refine k_get C dX12_readLake_23 (k_gM0_18 w) k_fX12_43 (Or.inl rfl) ?_
  refine k_iconst C dX12_readLake_26 (v := 1) rfl ?_
  refine k_iconst C dX12_readLake_27 (v := 0) rfl ?_
  obtain ⟨q28, h⟩ := k_gd_e h
  refine k_iast C dX12_readLake_28 (k_aM12 w) q28 ?_
  refine k_st (fun s28 es28 => ?_)
  replace h := k_nm_e h s28 es28
  refine k_iconst C dX12_readLake_29 (v := 0) rfl ?_
  refine k_istore_n C dX12_readLake_30 (by decide) [1, 0] (L' := [(0, .ref (w.2.1 0)), (1, .int (0 : Int32))]) rfl ?_
  refine k_iconst C dX12_readLake_31 (v := 1) rfl ?_
  refine k_istore_n C dX12_readLake_32 (by decide) [1, 2, 0] (L' := [(0, .ref (w.2.1 0)), (1, .int (0 : Int32)), (2, .int (1 : Int32))]) rfl ?_
  obtain ⟨b33, eb33, h⟩ := k_lp_e h
  have K33 : ∀ (n : Nat) (v1_33 : Int32) (v2_33 : Int32) (s_33 : k_St), k_loop b33 n (v1_33, v2_33, s_33) = some (r, σ') → k_K (k_PM w) X (k_MQ X (k_Qi (k_PM w) r σ') (k_PM w).2.2.1) 33 [(0, .ref (w.2.1 0)), (1, .int v1_33), (2, .int v2_33)] [] s_33 := by
    intro n
    induction n with
    | zero => intro v1_33 v2_33 s_33 h; cases h
    | succ n ih33 =>
      intro v1_33 v2_33 s_33 h
      obtain ⟨g33, eg33, h⟩ := k_lp_s h
      rw [← eg33] at ih33
      rw [eb33] at h
      refine k_iload_n C dX12_readLake_33 2 rfl ?_
      obtain ⟨j188, ej188, h⟩ := k_jn_e h
      have Jj188 : j188 () = some (r, σ') → k_K (k_PM w) X (k_MQ X (k_Qi (k_PM w) r σ') (k_PM w).2.2.1) 188 [(0, .ref (w.2.1 0))] [] s_33 := by
        intro  h
        rw [ej188] at h
        refine k_aload_n C dX12_readLake_188 0 rfl ?_
        refine k_get C dX12_readLake_189 (k_gM0_4 w) k_fX12_171 (Or.inl rfl) ?_
        refine k_iconst C dX12_readLake_192 (v := -1) rfl ?_
        refine k_icmp_ne C dX12_readLake_193 (tgt := 223) (by decide) (fun c193 => ?_) (fun c193 => ?_)
        · replace h := k_if_f h c193
          refine k_aload_n C dX12_readLake_223 0 rfl ?_
          refine k_get C dX12_readLake_224 (k_gM0_4 w) k_fX12_171 (Or.inl rfl) ?_
          exact k_iret C dX12_readLake_227 hr (Option.some.inj h)
        · replace h := k_if_t h c193
          refine k_aload_n C dX12_readLake_196 0 rfl ?_
          obtain ⟨v197, s197, h197, h⟩ := k_b2_e h
          refine k_goI (k_runV C dX12_readLake_197 (e_X12_look (d := 3) (Nat.le_refl _) h197) k_lX12_183 k_yX12_look (k_oM0 w) (by omega) rfl (Nat.le_of_ble_eq_true rfl)) ?_
          refine k_iconst C dX12_readLake_200 (v := -1) rfl ?_
          obtain ⟨j219, ej219, h⟩ := k_jn_e h
          have Jj219 : j219 () = some (r, σ') → k_K (k_PM w) X (k_MQ X (k_Qi (k_PM w) r σ') (k_PM w).2.2.1) 219 [(0, .ref (w.2.1 0))] [] s197 := by
            intro  h
            rw [ej219] at h
            refine k_aload_n C dX12_readLake_219 0 rfl ?_
            obtain ⟨s220, h220, h⟩ := k_bd_e h
            refine k_goV (k_runV C dX12_readLake_220 (e_X12_bad (d := 2) (Nat.le_refl _) h220) k_lX12_180 k_yX12_bad (k_oM0 w) (by omega) rfl (Nat.le_of_ble_eq_true rfl)) ?_
            refine k_aload_n C dX12_readLake_223 0 rfl ?_
            refine k_get C dX12_readLake_224 (k_gM0_4 w) k_fX12_171 (Or.inl rfl) ?_
            exact k_iret C dX12_readLake_227 hr (Option.some.inj h)
          refine k_icmp_ne C dX12_readLake_201 (tgt := 219) (by decide) (fun c201 => ?_) (fun c201 => ?_)
          · replace h := k_if_f h c201
            exact Jj219 h
          · replace h := k_if_t h c201
            refine k_aload_n C dX12_readLake_204 0 rfl ?_
            refine k_get C dX12_readLake_205 (k_gM0_19 w) k_fX12_290 (Or.inl rfl) ?_
            refine k_iconst C dX12_readLake_208 (v := 2) rfl ?_
            refine k_icmp_lt C dX12_readLake_209 (tgt := 219) (by decide) (fun c209 => ?_) (fun c209 => ?_)
            · replace h := k_if_t h c209
              exact Jj219 h
            · replace h := k_if_f h c209
              refine k_aload_n C dX12_readLake_212 0 rfl ?_
              obtain ⟨v213, h213, h⟩ := k_bd_e h
              refine k_goI (k_runV C dX12_readLake_213 (e_X12_weightsRead (d := 2) (Nat.le_refl _) h213) k_lX12_297 k_yX12_weightsRead (k_oM0 w) (by omega) rfl (Nat.le_of_ble_eq_true rfl)) ?_
              refine k_if_ne C dX12_readLake_216 (tgt := 223) (by decide) (fun c216 => ?_) (fun c216 => ?_)
              · replace h := k_if_f h c216
                refine k_aload_n C dX12_readLake_223 0 rfl ?_
                refine k_get C dX12_readLake_224 (k_gM0_4 w) k_fX12_171 (Or.inl rfl) ?_
                exact k_iret C dX12_readLake_227 hr (Option.some.inj h)
              · replace h := k_if_t h c216
                exact Jj219 h
      refine k_if_eq C dX12_readLake_34 (tgt := 188) (by decide) (fun c34 => ?_) (fun c34 => ?_)
      · replace h := k_if_t h c34
        refine k_sub (L' := [(0, .ref (w.2.1 0))]) [0] rfl ?_
        exact Jj188 h
      · replace h := k_if_f h c34
        refine k_aload_n C dX12_readLake_37 0 rfl ?_
        refine k_get C dX12_readLake_38 (k_gM0_4 w) k_fX12_171 (Or.inl rfl) ?_
        refine k_iconst C dX12_readLake_41 (v := -1) rfl ?_
        refine k_icmp_ne C dX12_readLake_42 (tgt := 188) (by decide) (fun c42 => ?_) (fun c42 => ?_)
        · replace h := k_if_f h c42
          refine k_sub (L' := [(0, .ref (w.2.1 0))]) [0] rfl ?_
          exact Jj188 h
        · replace h := k_if_t h c42
          refine k_aload_n C dX12_readLake_45 0 rfl ?_
          obtain ⟨v46, s46, h46, h⟩ := k_b2_e h
          refine k_goI (k_runV C dX12_readLake_46 (e_X12_look (d := 3) (Nat.le_refl _) h46) k_lX12_183 k_yX12_look (k_oM0 w) (by omega) rfl (Nat.le_of_ble_eq_true rfl)) ?_
          refine k_istore_n C dX12_readLake_49 (by decide) [1, 2, 3, 0] (L' := [(0, .ref (w.2.1 0)), (1, .int v1_33), (2, .int v2_33), (3, .int v46)]) rfl ?_
          refine k_iload_n C dX12_readLake_50 3 rfl ?_
          refine k_bipush C dX12_readLake_51 (v := 112) rfl ?_
          obtain ⟨j144, ej144, h⟩ := k_jn_e h
          have Jj144 : ∀ (v1_144 : Int32) (s_144 : k_St), j144 v1_144 s_144 = some (r, σ') → k_K (k_PM w) X (k_MQ X (k_Qi (k_PM w) r σ') (k_PM w).2.2.1) 144 [(0, .ref (w.2.1 0)), (1, .int v1_144)] [] s_144 := by
            intro v1_144 s_144 h
            rw [ej144] at h
            refine k_aload_n C dX12_readLake_144 0 rfl ?_
            refine k_get C dX12_readLake_145 (k_gM0_4 w) k_fX12_171 (Or.inl rfl) ?_
            refine k_iconst C dX12_readLake_148 (v := -1) rfl ?_
            obtain ⟨j166, ej166, h⟩ := k_jn_e h
            have Jj166 : ∀ (t0_166 : Int32) (s_166 : k_St), j166 t0_166 s_166 = some (r, σ') → k_K (k_PM w) X (k_MQ X (k_Qi (k_PM w) r σ') (k_PM w).2.2.1) 166 [(0, .ref (w.2.1 0)), (1, .int v1_144)] [.int t0_166] s_166 := by
              intro t0_166 s_166 h
              rw [ej166] at h
              refine k_istore_n C dX12_readLake_166 (by decide) [1, 2, 0] (L' := [(0, .ref (w.2.1 0)), (1, .int v1_144), (2, .int t0_166)]) rfl ?_
              refine k_aload_n C dX12_readLake_167 0 rfl ?_
              refine k_dup C dX12_readLake_168 rfl ?_
              refine k_get C dX12_readLake_169 (k_gM0_3 w) k_fX12_164 (Or.inl rfl) ?_
              refine k_iload_n C dX12_readLake_172 2 rfl ?_
              refine k_if_eq C dX12_readLake_173 (tgt := 180) (by decide) (fun c173 => ?_) (fun c173 => ?_)
              · replace h := k_if_t h c173
                refine k_iconst C dX12_readLake_180 (v := 0) rfl ?_
                refine k_iadd C dX12_readLake_181 ?_
                refine k_puti C dX12_readLake_182 (k_pM0_3 w) k_fX12_164 (Or.inl rfl) k_xi ?_
                refine k_st (fun s182 es182 => ?_)
                replace h := k_nm_e h s182 es182
                refine k_goto C dX12_readLake_185 (tgt := 33) (by decide) ?_
                exact ih33 _ _ _ h
              · replace h := k_if_f h c173
                refine k_iconst C dX12_readLake_176 (v := 1) rfl ?_
                refine k_goto C dX12_readLake_177 (tgt := 181) (by decide) ?_
                refine k_iadd C dX12_readLake_181 ?_
                refine k_puti C dX12_readLake_182 (k_pM0_3 w) k_fX12_164 (Or.inl rfl) k_xi ?_
                refine k_st (fun s182 es182 => ?_)
                replace h := k_nm_e h s182 es182
                refine k_goto C dX12_readLake_185 (tgt := 33) (by decide) ?_
                exact ih33 _ _ _ h
            obtain ⟨j165, ej165, h⟩ := k_jn_e h
            have Jj165 : ∀ (s_165 : k_St), j165 s_165 = some (r, σ') → k_K (k_PM w) X (k_MQ X (k_Qi (k_PM w) r σ') (k_PM w).2.2.1) 165 [(0, .ref (w.2.1 0)), (1, .int v1_144)] [] s_165 := by
              intro s_165 h
              rw [ej165] at h
              refine k_iconst C dX12_readLake_165 (v := 0) rfl ?_
              exact Jj166 _ _ h
            refine k_icmp_ne C dX12_readLake_149 (tgt := 165) (by decide) (fun c149 => ?_) (fun c149 => ?_)
            · replace h := k_if_f h c149
              exact Jj165 _ h
            · replace h := k_if_t h c149
              refine k_aload_n C dX12_readLake_152 0 rfl ?_
              obtain ⟨v153, s153, h153, h⟩ := k_b2_e h
              refine k_goI (k_runV C dX12_readLake_153 (e_X12_look (d := 3) (Nat.le_refl _) h153) k_lX12_183 k_yX12_look (k_oM0 w) (by omega) rfl (Nat.le_of_ble_eq_true rfl)) ?_
              refine k_bipush C dX12_readLake_156 (v := 59) rfl ?_
              refine k_icmp_ne C dX12_readLake_158 (tgt := 165) (by decide) (fun c158 => ?_) (fun c158 => ?_)
              · replace h := k_if_f h c158
                exact Jj165 _ h
              · replace h := k_if_t h c158
                refine k_iconst C dX12_readLake_161 (v := 1) rfl ?_
                refine k_goto C dX12_readLake_162 (tgt := 166) (by decide) ?_
                exact Jj166 _ _ h
          obtain ⟨j104, ej104, h⟩ := k_jn_e h
          have Jj104 : j104 () = some (r, σ') → k_K (k_PM w) X (k_MQ X (k_Qi (k_PM w) r σ') (k_PM w).2.2.1) 104 [(0, .ref (w.2.1 0)), (1, .int v1_33), (3, .int v46)] [] s46 := by
            intro  h
            rw [ej104] at h
            refine k_iload_n C dX12_readLake_104 2 rfl ?_
            refine k_bipush C dX12_readLake_105 (v := 98) rfl ?_
            obtain ⟨j140, ej140, h⟩ := k_jn_e h
            have Jj140 : j140 () = some (r, σ') → k_K (k_PM w) X (k_MQ X (k_Qi (k_PM w) r σ') (k_PM w).2.2.1) 140 [(0, .ref (w.2.1 0)), (1, .int v1_33)] [] s46 := by
              intro  h
              rw [ej140] at h
              refine k_aload_n C dX12_readLake_140 0 rfl ?_
              obtain ⟨s141, h141, h⟩ := k_bd_e h
              refine k_goV (k_runV C dX12_readLake_141 (e_X12_bad (d := 2) (Nat.le_refl _) h141) k_lX12_180 k_yX12_bad (k_oM0 w) (by omega) rfl (Nat.le_of_ble_eq_true rfl)) ?_
              exact Jj144 _ _ h
            refine k_icmp_ne C dX12_readLake_107 (tgt := 140) (by decide) (fun c107 => ?_) (fun c107 => ?_)
            · replace h := k_if_f h c107
              refine k_sub (L' := [(0, .ref (w.2.1 0)), (1, .int v1_33)]) [0, 1] rfl ?_
              exact Jj140 h
            · replace h := k_if_t h c107
              refine k_iload_n C dX12_readLake_110 1 rfl ?_
              refine k_if_ne C dX12_readLake_111 (tgt := 140) (by decide) (fun c111 => ?_) (fun c111 => ?_)
              · replace h := k_if_f h c111
                refine k_sub (L' := [(0, .ref (w.2.1 0)), (1, .int v1_33)]) [0, 1] rfl ?_
                exact Jj140 h
              · replace h := k_if_t h c111
                refine k_iconst C dX12_readLake_114 (v := 1) rfl ?_
                refine k_istore_n C dX12_readLake_115 (by decide) [1, 0, 2] (L' := [(0, .ref (w.2.1 0)), (1, .int (1 : Int32)), (3, .int v46)]) rfl ?_
                refine k_aload_n C dX12_readLake_116 0 rfl ?_
                refine k_dup C dX12_readLake_117 rfl ?_
                refine k_get C dX12_readLake_118 (k_gM0_3 w) k_fX12_164 (Or.inl rfl) ?_
                refine k_iconst C dX12_readLake_121 (v := 1) rfl ?_
                refine k_iadd C dX12_readLake_122 ?_
                refine k_puti C dX12_readLake_123 (k_pM0_3 w) k_fX12_164 (Or.inl rfl) k_xi ?_
                refine k_st (fun s123 es123 => ?_)
                replace h := k_nm_e h s123 es123
                refine k_aload_n C dX12_readLake_126 0 rfl ?_
                refine k_iload_n C dX12_readLake_127 2 rfl ?_
                refine k_aload_n C dX12_readLake_128 0 rfl ?_
                refine k_get C dX12_readLake_129 (k_gM0_18 w) k_fX12_43 (Or.inl rfl) ?_
                refine k_iconst C dX12_readLake_132 (v := 0) rfl ?_
                refine k_iconst C dX12_readLake_133 (v := 2) rfl ?_
                obtain ⟨s134, h134, h⟩ := k_bd_e h
                refine k_goV (k_runV C dX12_readLake_134 (e_X12_items (d := 5) (Nat.le_refl _) (k_aM12 w) h134) k_lX12_293 k_yX12_items (k_oM0 w) (by omega) rfl (Nat.le_of_ble_eq_true rfl)) ?_
                refine k_goto C dX12_readLake_137 (tgt := 144) (by decide) ?_
                refine k_sub (L' := [(0, .ref (w.2.1 0)), (1, .int (1 : Int32))]) [0, 1] rfl ?_
                exact Jj144 _ _ h
          refine k_icmp_ne C dX12_readLake_53 (tgt := 104) (by decide) (fun c53 => ?_) (fun c53 => ?_)
          · replace h := k_if_f h c53
            refine k_sub (L' := [(0, .ref (w.2.1 0)), (1, .int v1_33), (3, .int v46)]) [0, 1, 3] rfl ?_
            exact Jj104 h
          · replace h := k_if_t h c53
            refine k_aload_n C dX12_readLake_56 0 rfl ?_
            refine k_get C dX12_readLake_57 (k_gM0_19 w) k_fX12_290 (Or.inl rfl) ?_
            refine k_bipush C dX12_readLake_60 (v := 6) rfl ?_
            refine k_icmp_ge C dX12_readLake_62 (tgt := 104) (by decide) (fun c62 => ?_) (fun c62 => ?_)
            · replace h := k_if_t h c62
              refine k_sub (L' := [(0, .ref (w.2.1 0)), (1, .int v1_33), (3, .int v46)]) [0, 1, 3] rfl ?_
              exact Jj104 h
            · replace h := k_if_f h c62
              refine k_aload_n C dX12_readLake_65 0 rfl ?_
              refine k_dup C dX12_readLake_66 rfl ?_
              refine k_get C dX12_readLake_67 (k_gM0_3 w) k_fX12_164 (Or.inl rfl) ?_
              refine k_iconst C dX12_readLake_70 (v := 1) rfl ?_
              refine k_iadd C dX12_readLake_71 ?_
              refine k_puti C dX12_readLake_72 (k_pM0_3 w) k_fX12_164 (Or.inl rfl) k_xi ?_
              refine k_st (fun s72 es72 => ?_)
              replace h := k_nm_e h s72 es72
              refine k_aload_n C dX12_readLake_75 0 rfl ?_
              refine k_iload_n C dX12_readLake_76 3 rfl ?_
              refine k_aload_n C dX12_readLake_77 0 rfl ?_
              refine k_get C dX12_readLake_78 (k_gM0_17 w) k_fX12_40 (Or.inl rfl) ?_
              refine k_iconst C dX12_readLake_81 (v := 4) rfl ?_
              refine k_aload_n C dX12_readLake_82 0 rfl ?_
              refine k_get C dX12_readLake_83 (k_gM0_19 w) k_fX12_290 (Or.inl rfl) ?_
              refine k_imul C dX12_readLake_86 ?_
              refine k_iconst C dX12_readLake_87 (v := 4) rfl ?_
              obtain ⟨s88, h88, h⟩ := k_bd_e h
              refine k_goV (k_runV C dX12_readLake_88 (e_X12_items (d := 5) (Nat.le_refl _) (k_aM11 w) h88) k_lX12_293 k_yX12_items (k_oM0 w) (by omega) rfl (Nat.le_of_ble_eq_true rfl)) ?_
              refine k_aload_n C dX12_readLake_91 0 rfl ?_
              refine k_dup C dX12_readLake_92 rfl ?_
              refine k_get C dX12_readLake_93 (k_gM0_19 w) k_fX12_290 (Or.inl rfl) ?_
              refine k_iconst C dX12_readLake_96 (v := 1) rfl ?_
              refine k_iadd C dX12_readLake_97 ?_
              refine k_puti C dX12_readLake_98 (k_pM0_19 w) k_fX12_290 (Or.inl rfl) k_xi ?_
              refine k_st (fun s98 es98 => ?_)
              replace h := k_nm_e h s98 es98
              refine k_goto C dX12_readLake_101 (tgt := 144) (by decide) ?_
              refine k_sub (L' := [(0, .ref (w.2.1 0)), (1, .int v1_33)]) [0, 1] rfl ?_
              exact Jj144 _ _ h
  exact K33 _ _ _ _ h
def f_X12_fault (x1 : Int32) (σ : k_St) : Option (Int32 × k_St) :=
  k_if (x1 = (0 : Int32))
    (k_b2 (f_X12_readLake σ) fun v5 s5 =>
    some (v5, s5))
    (k_if (x1 = (1 : Int32))
      (k_b2 (f_X12_readLaw (4 : Int32) σ) fun v18 s18 =>
      some (v18, s18))
      (some ((-2 : Int32), σ)))
set_option maxHeartbeats 4000000 in
set_option maxRecDepth 100000 in
theorem e_X12_fault {l : Launch} {w : k_WC} {d : Nat} (hd : 153 ≤ d) {x1 : Int32}  {σ σ' : k_St} {r : Int32} (h : f_X12_fault x1 σ = some (r, σ')) : k_EI l (k_PM w) yX12_fault cX12_fault 2 (some .int) d [.ref (w.2.1 0), .int x1] σ r σ' := by
  refine k_of (own := RX12) rfl (by decide) (Nat.le_of_ble_eq_true rfl) (fun X hX C hr => ?_)
  show k_K (k_PM w) X (k_MQ X (k_Qi (k_PM w) r σ') (k_PM w).2.2.1) 0 [(0, .ref (w.2.1 0)), (1, .int x1)] [] σ
  unfold f_X12_fault at h
  refine k_iload_n C dX12_fault_0 1 rfl ?_
  refine k_if_ne C dX12_fault_1 (tgt := 11) (by decide) (fun c1 => ?_) (fun c1 => ?_)
  · replace h := k_if_f h c1
    refine k_iload_n C dX12_fault_11 1 rfl ?_
    refine k_iconst C dX12_fault_12 (v := 1) rfl ?_
    refine k_icmp_ne C dX12_fault_13 (tgt := 24) (by decide) (fun c13 => ?_) (fun c13 => ?_)
    · replace h := k_if_f h c13
      refine k_bipush C dX12_fault_24 (v := -2) rfl ?_
      exact k_iret C dX12_fault_26 hr (Option.some.inj h)
    · replace h := k_if_t h c13
      refine k_aload_n C dX12_fault_16 0 rfl ?_
      refine k_iconst C dX12_fault_17 (v := 4) rfl ?_
      obtain ⟨v18, s18, h18, h⟩ := k_b2_e h
      refine k_goI (k_runV C dX12_fault_18 (e_X12_readLaw (d := 152) (Nat.le_refl _) h18) k_lX12_303 k_yX12_readLaw (k_oM0 w) (by omega) rfl (Nat.le_of_ble_eq_true rfl)) ?_
      refine k_goto C dX12_fault_21 (tgt := 26) (by decide) ?_
      exact k_iret C dX12_fault_26 hr (Option.some.inj h)
  · replace h := k_if_t h c1
    refine k_aload_n C dX12_fault_4 0 rfl ?_
    obtain ⟨v5, s5, h5, h⟩ := k_b2_e h
    refine k_goI (k_runV C dX12_fault_5 (e_X12_readLake (d := 6) (Nat.le_refl _) h5) k_lX12_300 k_yX12_readLake (k_oM0 w) (by omega) rfl (Nat.le_of_ble_eq_true rfl)) ?_
    refine k_goto C dX12_fault_8 (tgt := 26) (by decide) ?_
    exact k_iret C dX12_fault_26 hr (Option.some.inj h)
