def f_X1_told (x1 : Int32) (x2 : Int32) (σ : k_St) : Option (Int32) :=
  k_jn (fun (t0_24 : Int32) =>
    k_if (t0_24 = (0 : Int32))
      (some (0 : Int32))
      (k_gd (k_ix ((x1 * (4 : Int32)) + x2) 24 = true) <|
      some (k_rd σ 13 ((x1 * (4 : Int32)) + x2).toNatClampNeg))) fun j24 =>
  k_jn (fun (_ : Unit) =>
    j24 (0 : Int32)) fun j23 =>
  k_if (x1 < (0 : Int32))
    (j23 ())
    (k_if ((6 : Int32) ≤ x1)
      (j23 ())
      (k_if (x2 < (0 : Int32))
        (j23 ())
        (k_if ((4 : Int32) ≤ x2)
          (j23 ())
          (j24 (1 : Int32)))))
set_option maxHeartbeats 4000000 in
set_option maxRecDepth 100000 in
theorem e_X1_told {l : Launch} {w : k_WC} {d : Nat} (hd : 2 ≤ d) {x1 : Int32} {x2 : Int32}  {σ : k_St} {r : Int32} (h : f_X1_told x1 x2 σ = some r) : k_EI l (k_PX w) yX1_told cX1_told 4 (some .int) d [.ref (w.2.1 12), .int x1, .int x2] σ r σ := by
  refine k_of (own := RX1) rfl (by decide) (Nat.le_of_ble_eq_true rfl) (fun X hX C hr => ?_)
  show k_K (k_PX w) X (k_MQ X (k_Qi (k_PX w) r σ) (k_PX w).2.2.1) 0 [(0, .ref (w.2.1 12)), (1, .int x1), (2, .int x2)] [] σ
  unfold f_X1_told at h
  refine k_iload_n C dX1_told_0 1 rfl ?_
  obtain ⟨j24, ej24, h⟩ := k_jn_e h
  have Jj24 : ∀ (t0_24 : Int32), j24 t0_24 = some r → k_K (k_PX w) X (k_MQ X (k_Qi (k_PX w) r σ) (k_PX w).2.2.1) 24 [(0, .ref (w.2.1 12)), (1, .int x1), (2, .int x2)] [.int t0_24] σ := by
    intro t0_24 h
    rw [ej24] at h
    refine k_istore_n C dX1_told_24 (by decide) [1, 2, 3, 0] (L' := [(0, .ref (w.2.1 12)), (1, .int x1), (2, .int x2), (3, .int t0_24)]) rfl ?_
    refine k_iload_n C dX1_told_25 3 rfl ?_
    refine k_if_eq C dX1_told_26 (tgt := 42) (by decide) (fun c26 => ?_) (fun c26 => ?_)
    · replace h := k_if_t h c26
      refine k_iconst C dX1_told_42 (v := 0) rfl ?_
      exact k_iret C dX1_told_43 hr (k_p1 h)
    · replace h := k_if_f h c26
      refine k_aload_n C dX1_told_29 0 rfl ?_
      refine k_get C dX1_told_30 (k_gX12_3 w) k_fX1_21 (Or.inl rfl) ?_
      refine k_iload_n C dX1_told_33 1 rfl ?_
      refine k_iconst C dX1_told_34 (v := 4) rfl ?_
      refine k_imul C dX1_told_35 ?_
      refine k_iload_n C dX1_told_36 2 rfl ?_
      refine k_iadd C dX1_told_37 ?_
      obtain ⟨q38, h⟩ := k_gd_e h
      refine k_iald C dX1_told_38 (k_aX13 w) q38 ?_
      refine k_goto C dX1_told_39 (tgt := 43) (by decide) ?_
      exact k_iret C dX1_told_43 hr (k_p1 h)
  obtain ⟨j23, ej23, h⟩ := k_jn_e h
  have Jj23 : j23 () = some r → k_K (k_PX w) X (k_MQ X (k_Qi (k_PX w) r σ) (k_PX w).2.2.1) 23 [(0, .ref (w.2.1 12)), (1, .int x1), (2, .int x2)] [] σ := by
    intro  h
    rw [ej23] at h
    refine k_iconst C dX1_told_23 (v := 0) rfl ?_
    exact Jj24 _ h
  refine k_if_lt C dX1_told_1 (tgt := 23) (by decide) (fun c1 => ?_) (fun c1 => ?_)
  · replace h := k_if_t h c1
    exact Jj23 h
  · replace h := k_if_f h c1
    refine k_iload_n C dX1_told_4 1 rfl ?_
    refine k_bipush C dX1_told_5 (v := 6) rfl ?_
    refine k_icmp_ge C dX1_told_7 (tgt := 23) (by decide) (fun c7 => ?_) (fun c7 => ?_)
    · replace h := k_if_t h c7
      exact Jj23 h
    · replace h := k_if_f h c7
      refine k_iload_n C dX1_told_10 2 rfl ?_
      refine k_if_lt C dX1_told_11 (tgt := 23) (by decide) (fun c11 => ?_) (fun c11 => ?_)
      · replace h := k_if_t h c11
        exact Jj23 h
      · replace h := k_if_f h c11
        refine k_iload_n C dX1_told_14 2 rfl ?_
        refine k_iconst C dX1_told_15 (v := 4) rfl ?_
        refine k_icmp_ge C dX1_told_16 (tgt := 23) (by decide) (fun c16 => ?_) (fun c16 => ?_)
        · replace h := k_if_t h c16
          exact Jj23 h
        · replace h := k_if_f h c16
          refine k_iconst C dX1_told_19 (v := 1) rfl ?_
          refine k_goto C dX1_told_20 (tgt := 24) (by decide) ?_
          exact Jj24 _ h
def f_X1_seen (x1 : Int32) (x2 : Int32) (σ : k_St) : Option (Int32) :=
  k_if (x2 = (0 : Int32))
    (k_bd (f_X1_told x1 (2 : Int32) σ) fun v11 =>
    some v11)
    (some (0 : Int32))
set_option maxHeartbeats 4000000 in
set_option maxRecDepth 100000 in
theorem e_X1_seen {l : Launch} {w : k_WC} {d : Nat} (hd : 3 ≤ d) {x1 : Int32} {x2 : Int32}  {σ : k_St} {r : Int32} (h : f_X1_seen x1 x2 σ = some r) : k_EI l (k_PX w) yX1_seen cX1_seen 3 (some .int) d [.ref (w.2.1 12), .int x1, .int x2] σ r σ := by
  refine k_of (own := RX1) rfl (by decide) (Nat.le_of_ble_eq_true rfl) (fun X hX C hr => ?_)
  show k_K (k_PX w) X (k_MQ X (k_Qi (k_PX w) r σ) (k_PX w).2.2.1) 0 [(0, .ref (w.2.1 12)), (1, .int x1), (2, .int x2)] [] σ
  unfold f_X1_seen at h
  refine k_iload_n C dX1_seen_0 2 rfl ?_
  refine k_if_eq C dX1_seen_1 (tgt := 8) (by decide) (fun c1 => ?_) (fun c1 => ?_)
  · replace h := k_if_t h c1
    refine k_aload_n C dX1_seen_8 0 rfl ?_
    refine k_iload_n C dX1_seen_9 1 rfl ?_
    refine k_iconst C dX1_seen_10 (v := 2) rfl ?_
    obtain ⟨v11, h11, h⟩ := k_bd_e h
    refine k_goI (k_runV C dX1_seen_11 (e_X1_told (d := 2) (Nat.le_refl _) h11) k_lX1_53 k_yX1_told (k_oX12 w) (by omega) rfl (Nat.le_of_ble_eq_true rfl)) ?_
    exact k_iret C dX1_seen_14 hr (k_p1 h)
  · replace h := k_if_f h c1
    refine k_iconst C dX1_seen_4 (v := 0) rfl ?_
    refine k_goto C dX1_seen_5 (tgt := 14) (by decide) ?_
    exact k_iret C dX1_seen_14 hr (k_p1 h)
def f_X0_hit (x1 : Int32) (x2 : Int32) (x3 : Int64) (x5 : Int32) (σ : k_St) : Option (Int32) :=
  k_bd (f_X1_seen x1 x5 σ) fun v7 =>
  k_bd (f_X11_placeOf x3 v7 x2) fun v19 =>
  k_jn (fun (v7_50 : Int32) =>
    k_if (x2 = (0 : Int32))
      (some v7_50)
      (k_bd (f_X11_placeOf x3 v7 (0 : Int32)) fun v58 =>
      k_if (v58 = x1)
        (k_nm ((v7_50 + (k_rd σ 16 5))) fun y75 =>
        some y75)
        (some v7_50))) fun j50 =>
  k_if (v19 = x1)
    (k_if (x2 = (0 : Int32))
      (k_nm (((0 : Int32) + (100 : Int32))) fun y48 =>
      j50 y48)
      (k_nm (((0 : Int32) + ((100 : Int32) - (k_rd σ 16 5)))) fun y48 =>
      j50 y48))
    (j50 (0 : Int32))
set_option maxHeartbeats 4000000 in
set_option maxRecDepth 100000 in
theorem e_X0_hit {l : Launch} {w : k_WC} {d : Nat} (hd : 4 ≤ d) {x1 : Int32} {x2 : Int32} {x3 : Int64} {x5 : Int32}  {σ : k_St} {r : Int32} (h : f_X0_hit x1 x2 x3 x5 σ = some r) : k_EI l (k_PX w) yX0_hit cX0_hit 8 (some .int) d [.ref (w.2.1 30), .int x1, .int x2, .long x3, .int x5] σ r σ := by
  refine k_of (own := RX0) rfl (by decide) (Nat.le_of_ble_eq_true rfl) (fun X hX C hr => ?_)
  show k_K (k_PX w) X (k_MQ X (k_Qi (k_PX w) r σ) (k_PX w).2.2.1) 0 [(0, .ref (w.2.1 30)), (1, .int x1), (2, .int x2), (3, .long x3), (5, .int x5)] [] σ
  unfold f_X0_hit at h
  refine k_aload_n C dX0_hit_0 0 rfl ?_
  refine k_get C dX0_hit_1 (k_gX30_0 w) k_fX0_18 (Or.inl rfl) ?_
  refine k_iload_n C dX0_hit_4 1 rfl ?_
  refine k_iload C dX0_hit_5 4 rfl ?_
  obtain ⟨v7, h7, h⟩ := k_bd_e h
  refine k_goI (k_runV C dX0_hit_7 (e_X1_seen (d := 3) (Nat.le_refl _) h7) k_lX0_26 k_yX1_seen (k_oX12 w) (by omega) rfl (Nat.le_of_ble_eq_true rfl)) ?_
  refine k_istore C dX0_hit_10 (by decide) [1, 2, 3, 4, 5, 0] (L' := [(0, .ref (w.2.1 30)), (1, .int x1), (2, .int x2), (3, .long x3), (5, .int x5), (6, .int v7)]) rfl ?_
  refine k_iconst C dX0_hit_12 (v := 0) rfl ?_
  refine k_istore C dX0_hit_13 (by decide) [1, 2, 3, 4, 5, 6, 0] (L' := [(0, .ref (w.2.1 30)), (1, .int x1), (2, .int x2), (3, .long x3), (5, .int x5), (6, .int v7), (7, .int (0 : Int32))]) rfl ?_
  refine k_lload_n C dX0_hit_15 3 rfl ?_
  refine k_iload C dX0_hit_16 5 rfl ?_
  refine k_iload_n C dX0_hit_18 2 rfl ?_
  obtain ⟨v19, h19, h⟩ := k_bd_e h
  refine k_goI (k_runSN C dX0_hit_19 (e_X11_placeOf (d := 2) (Nat.le_refl _) h19) k_lX0_32 k_yX11_placeOf (by omega) rfl (Nat.le_of_ble_eq_true rfl)) ?_
  refine k_iload_n C dX0_hit_22 1 rfl ?_
  obtain ⟨j50, ej50, h⟩ := k_jn_e h
  have Jj50 : ∀ (v7_50 : Int32), j50 v7_50 = some r → k_K (k_PX w) X (k_MQ X (k_Qi (k_PX w) r σ) (k_PX w).2.2.1) 50 [(0, .ref (w.2.1 30)), (1, .int x1), (2, .int x2), (3, .long x3), (6, .int v7), (7, .int v7_50)] [] σ := by
    intro v7_50 h
    rw [ej50] at h
    refine k_iload_n C dX0_hit_50 2 rfl ?_
    refine k_if_eq C dX0_hit_51 (tgt := 77) (by decide) (fun c51 => ?_) (fun c51 => ?_)
    · replace h := k_if_t h c51
      refine k_iload C dX0_hit_77 5 rfl ?_
      exact k_iret C dX0_hit_79 hr (k_p1 h)
    · replace h := k_if_f h c51
      refine k_lload_n C dX0_hit_54 3 rfl ?_
      refine k_iload C dX0_hit_55 4 rfl ?_
      refine k_iconst C dX0_hit_57 (v := 0) rfl ?_
      obtain ⟨v58, h58, h⟩ := k_bd_e h
      refine k_goI (k_runSN C dX0_hit_58 (e_X11_placeOf (d := 2) (Nat.le_refl _) h58) k_lX0_32 k_yX11_placeOf (by omega) rfl (Nat.le_of_ble_eq_true rfl)) ?_
      refine k_iload_n C dX0_hit_61 1 rfl ?_
      refine k_icmp_ne C dX0_hit_62 (tgt := 77) (by decide) (fun c62 => ?_) (fun c62 => ?_)
      · replace h := k_if_f h c62
        refine k_iload C dX0_hit_77 5 rfl ?_
        exact k_iret C dX0_hit_79 hr (k_p1 h)
      · replace h := k_if_t h c62
        refine k_iload C dX0_hit_65 5 rfl ?_
        refine k_aload_n C dX0_hit_67 0 rfl ?_
        refine k_get C dX0_hit_68 (k_gX30_1 w) k_fX0_22 (Or.inl rfl) ?_
        refine k_get C dX0_hit_71 (k_gX16_5 w) k_fX0_36 (Or.inl rfl) ?_
        refine k_iadd C dX0_hit_74 ?_
        refine k_topi (fun y75 ey75 => ?_)
        replace h := k_nm_e h y75 ey75
        refine k_istore C dX0_hit_75 (by decide) [1, 2, 3, 4, 5, 0] (L' := [(0, .ref (w.2.1 30)), (1, .int x1), (2, .int x2), (3, .long x3), (6, .int v7), (7, .int y75)]) rfl ?_
        refine k_iload C dX0_hit_77 5 rfl ?_
        exact k_iret C dX0_hit_79 hr (k_p1 h)
  refine k_icmp_ne C dX0_hit_23 (tgt := 50) (by decide) (fun c23 => ?_) (fun c23 => ?_)
  · replace h := k_if_f h c23
    refine k_sub (L' := [(0, .ref (w.2.1 30)), (1, .int x1), (2, .int x2), (3, .long x3), (6, .int v7), (7, .int (0 : Int32))]) [0, 1, 2, 3, 5, 6] rfl ?_
    exact Jj50 _ h
  · replace h := k_if_t h c23
    refine k_iload C dX0_hit_26 6 rfl ?_
    refine k_iload_n C dX0_hit_28 2 rfl ?_
    refine k_if_ne C dX0_hit_29 (tgt := 37) (by decide) (fun c29 => ?_) (fun c29 => ?_)
    · replace h := k_if_f h c29
      refine k_bipush C dX0_hit_37 (v := 100) rfl ?_
      refine k_aload_n C dX0_hit_39 0 rfl ?_
      refine k_get C dX0_hit_40 (k_gX30_1 w) k_fX0_22 (Or.inl rfl) ?_
      refine k_get C dX0_hit_43 (k_gX16_5 w) k_fX0_36 (Or.inl rfl) ?_
      refine k_isub C dX0_hit_46 ?_
      refine k_iadd C dX0_hit_47 ?_
      refine k_topi (fun y48 ey48 => ?_)
      replace h := k_nm_e h y48 ey48
      refine k_istore C dX0_hit_48 (by decide) [1, 2, 3, 4, 5, 6, 0] (L' := [(0, .ref (w.2.1 30)), (1, .int x1), (2, .int x2), (3, .long x3), (5, .int x5), (6, .int v7), (7, .int y48)]) rfl ?_
      refine k_sub (L' := [(0, .ref (w.2.1 30)), (1, .int x1), (2, .int x2), (3, .long x3), (6, .int v7), (7, .int y48)]) [0, 1, 2, 3, 5, 6] rfl ?_
      exact Jj50 _ h
    · replace h := k_if_t h c29
      refine k_bipush C dX0_hit_32 (v := 100) rfl ?_
      refine k_goto C dX0_hit_34 (tgt := 47) (by decide) ?_
      refine k_iadd C dX0_hit_47 ?_
      refine k_topi (fun y48 ey48 => ?_)
      replace h := k_nm_e h y48 ey48
      refine k_istore C dX0_hit_48 (by decide) [1, 2, 3, 4, 5, 6, 0] (L' := [(0, .ref (w.2.1 30)), (1, .int x1), (2, .int x2), (3, .long x3), (5, .int x5), (6, .int v7), (7, .int y48)]) rfl ?_
      refine k_sub (L' := [(0, .ref (w.2.1 30)), (1, .int x1), (2, .int x2), (3, .long x3), (6, .int v7), (7, .int y48)]) [0, 1, 2, 3, 5, 6] rfl ?_
      exact Jj50 _ h
def f_X1_heard (x1 : Int32) (x2 : Int32) (σ : k_St) : Option (Int32) :=
  k_if (x2 = (0 : Int32))
    (k_bd (f_X1_told x1 (1 : Int32) σ) fun v11 =>
    some v11)
    (some (0 : Int32))
set_option maxHeartbeats 4000000 in
set_option maxRecDepth 100000 in
theorem e_X1_heard {l : Launch} {w : k_WC} {d : Nat} (hd : 3 ≤ d) {x1 : Int32} {x2 : Int32}  {σ : k_St} {r : Int32} (h : f_X1_heard x1 x2 σ = some r) : k_EI l (k_PX w) yX1_heard cX1_heard 3 (some .int) d [.ref (w.2.1 12), .int x1, .int x2] σ r σ := by
  refine k_of (own := RX1) rfl (by decide) (Nat.le_of_ble_eq_true rfl) (fun X hX C hr => ?_)
  show k_K (k_PX w) X (k_MQ X (k_Qi (k_PX w) r σ) (k_PX w).2.2.1) 0 [(0, .ref (w.2.1 12)), (1, .int x1), (2, .int x2)] [] σ
  unfold f_X1_heard at h
  refine k_iload_n C dX1_heard_0 2 rfl ?_
  refine k_if_eq C dX1_heard_1 (tgt := 8) (by decide) (fun c1 => ?_) (fun c1 => ?_)
  · replace h := k_if_t h c1
    refine k_aload_n C dX1_heard_8 0 rfl ?_
    refine k_iload_n C dX1_heard_9 1 rfl ?_
    refine k_iconst C dX1_heard_10 (v := 1) rfl ?_
    obtain ⟨v11, h11, h⟩ := k_bd_e h
    refine k_goI (k_runV C dX1_heard_11 (e_X1_told (d := 2) (Nat.le_refl _) h11) k_lX1_53 k_yX1_told (k_oX12 w) (by omega) rfl (Nat.le_of_ble_eq_true rfl)) ?_
    exact k_iret C dX1_heard_14 hr (k_p1 h)
  · replace h := k_if_f h c1
    refine k_iconst C dX1_heard_4 (v := 0) rfl ?_
    refine k_goto C dX1_heard_5 (tgt := 14) (by decide) ?_
    exact k_iret C dX1_heard_14 hr (k_p1 h)
def f_X0_hitBy (x1 : Int32) (x2 : Int32) (x3 : Int64) (σ : k_St) : Option (Int32) :=
  k_bd (f_X1_heard x1 (k_rd σ 16 4) σ) fun v13 =>
  k_bd (f_X11_signOf x2 v13) fun v16 =>
  k_bd (f_X0_hit x1 v16 x3 (k_rd σ 16 3) σ) fun v33 =>
  some v33
set_option maxHeartbeats 4000000 in
set_option maxRecDepth 100000 in
theorem e_X0_hitBy {l : Launch} {w : k_WC} {d : Nat} (hd : 5 ≤ d) {x1 : Int32} {x2 : Int32} {x3 : Int64}  {σ : k_St} {r : Int32} (h : f_X0_hitBy x1 x2 x3 σ = some r) : k_EI l (k_PX w) yX0_hitBy cX0_hitBy 6 (some .int) d [.ref (w.2.1 30), .int x1, .int x2, .long x3] σ r σ := by
  refine k_of (own := RX0) rfl (by decide) (Nat.le_of_ble_eq_true rfl) (fun X hX C hr => ?_)
  show k_K (k_PX w) X (k_MQ X (k_Qi (k_PX w) r σ) (k_PX w).2.2.1) 0 [(0, .ref (w.2.1 30)), (1, .int x1), (2, .int x2), (3, .long x3)] [] σ
  unfold f_X0_hitBy at h
  refine k_iload_n C dX0_hitBy_0 2 rfl ?_
  refine k_aload_n C dX0_hitBy_1 0 rfl ?_
  refine k_get C dX0_hitBy_2 (k_gX30_0 w) k_fX0_18 (Or.inl rfl) ?_
  refine k_iload_n C dX0_hitBy_5 1 rfl ?_
  refine k_aload_n C dX0_hitBy_6 0 rfl ?_
  refine k_get C dX0_hitBy_7 (k_gX30_1 w) k_fX0_22 (Or.inl rfl) ?_
  refine k_get C dX0_hitBy_10 (k_gX16_4 w) k_fX0_42 (Or.inl rfl) ?_
  obtain ⟨v13, h13, h⟩ := k_bd_e h
  refine k_goI (k_runV C dX0_hitBy_13 (e_X1_heard (d := 3) (Nat.le_refl _) h13) k_lX0_46 k_yX1_heard (k_oX12 w) (by omega) rfl (Nat.le_of_ble_eq_true rfl)) ?_
  obtain ⟨v16, h16, h⟩ := k_bd_e h
  refine k_goI (k_runSN C dX0_hitBy_16 (e_X11_signOf (d := 2) (Nat.le_refl _) h16) k_lX0_49 k_yX11_signOf (by omega) rfl (Nat.le_of_ble_eq_true rfl)) ?_
  refine k_istore C dX0_hitBy_19 (by decide) [1, 2, 3, 4, 0] (L' := [(0, .ref (w.2.1 30)), (1, .int x1), (2, .int x2), (3, .long x3), (5, .int v16)]) rfl ?_
  refine k_aload_n C dX0_hitBy_21 0 rfl ?_
  refine k_iload_n C dX0_hitBy_22 1 rfl ?_
  refine k_iload C dX0_hitBy_23 4 rfl ?_
  refine k_lload_n C dX0_hitBy_25 3 rfl ?_
  refine k_aload_n C dX0_hitBy_26 0 rfl ?_
  refine k_get C dX0_hitBy_27 (k_gX30_1 w) k_fX0_22 (Or.inl rfl) ?_
  refine k_get C dX0_hitBy_30 (k_gX16_3 w) k_fX0_53 (Or.inl rfl) ?_
  obtain ⟨v33, h33, h⟩ := k_bd_e h
  refine k_goI (k_runV C dX0_hitBy_33 (e_X0_hit (d := 4) (Nat.le_refl _) h33) k_lX0_56 k_yX0_hit (k_oX30 w) (by omega) rfl (Nat.le_of_ble_eq_true rfl)) ?_
  exact k_iret C dX0_hitBy_36 hr (k_p1 h)
def f_X1_stakeOf (x1 : Int32) (σ : k_St) : Option (Int32) :=
  k_if (x1 < (0 : Int32))
    (some (0 : Int32))
    (k_if ((6 : Int32) ≤ x1)
      (some (0 : Int32))
      (k_gd (k_ix x1 6 = true) <|
      some (k_rd σ 15 x1.toNatClampNeg)))
set_option maxHeartbeats 4000000 in
set_option maxRecDepth 100000 in
theorem e_X1_stakeOf {l : Launch} {w : k_WC} {d : Nat} (hd : 2 ≤ d) {x1 : Int32}  {σ : k_St} {r : Int32} (h : f_X1_stakeOf x1 σ = some r) : k_EI l (k_PX w) yX1_stakeOf cX1_stakeOf 2 (some .int) d [.ref (w.2.1 12), .int x1] σ r σ := by
  refine k_of (own := RX1) rfl (by decide) (Nat.le_of_ble_eq_true rfl) (fun X hX C hr => ?_)
  show k_K (k_PX w) X (k_MQ X (k_Qi (k_PX w) r σ) (k_PX w).2.2.1) 0 [(0, .ref (w.2.1 12)), (1, .int x1)] [] σ
  unfold f_X1_stakeOf at h
  refine k_iload_n C dX1_stakeOf_0 1 rfl ?_
  refine k_if_lt C dX1_stakeOf_1 (tgt := 19) (by decide) (fun c1 => ?_) (fun c1 => ?_)
  · replace h := k_if_t h c1
    refine k_iconst C dX1_stakeOf_19 (v := 0) rfl ?_
    exact k_iret C dX1_stakeOf_20 hr (k_p1 h)
  · replace h := k_if_f h c1
    refine k_iload_n C dX1_stakeOf_4 1 rfl ?_
    refine k_bipush C dX1_stakeOf_5 (v := 6) rfl ?_
    refine k_icmp_ge C dX1_stakeOf_7 (tgt := 19) (by decide) (fun c7 => ?_) (fun c7 => ?_)
    · replace h := k_if_t h c7
      refine k_iconst C dX1_stakeOf_19 (v := 0) rfl ?_
      exact k_iret C dX1_stakeOf_20 hr (k_p1 h)
    · replace h := k_if_f h c7
      refine k_aload_n C dX1_stakeOf_10 0 rfl ?_
      refine k_get C dX1_stakeOf_11 (k_gX12_5 w) k_fX1_28 (Or.inl rfl) ?_
      refine k_iload_n C dX1_stakeOf_14 1 rfl ?_
      obtain ⟨q15, h⟩ := k_gd_e h
      refine k_iald C dX1_stakeOf_15 (k_aX15 w) q15 ?_
      refine k_goto C dX1_stakeOf_16 (tgt := 20) (by decide) ?_
      exact k_iret C dX1_stakeOf_20 hr (k_p1 h)
def f_X0_aboveIn (x1 : Int32) (x2 : Int64) (x4 : Int32) (x5 : Int32) (σ : k_St) : Option (Int64) :=
  k_loop (fun (g6 : Int64 × Int32 → Option (Int64)) (z6 : Int64 × Int32) => match z6 with
    | (v6_6, v8_6) =>
      k_if ((k_rd σ 12 0) ≤ v8_6)
        (some v6_6)
        (k_bd (f_X1_heard v8_6 x5 σ) fun v27 =>
        k_bd (f_X11_signOf x1 v27) fun v30 =>
        k_bd (f_X1_stakeOf v8_6 σ) fun v43 =>
        k_bd (f_X0_hit v8_6 v30 x2 x4 σ) fun v55 =>
        k_nm ((v6_6 + (v43.toInt64 * v55.toInt64))) fun y61 =>
        k_nm (v8_6 + (1 : Int32)) fun y63 =>
        g6 (y61, y63))) 100000 ((0 : Int64), (0 : Int32))
set_option maxHeartbeats 4000000 in
set_option maxRecDepth 100000 in
theorem e_X0_aboveIn {l : Launch} {w : k_WC} {d : Nat} (hd : 5 ≤ d) {x1 : Int32} {x2 : Int64} {x4 : Int32} {x5 : Int32}  {σ : k_St} {r : Int64} (h : f_X0_aboveIn x1 x2 x4 x5 σ = some r) : k_EL l (k_PX w) yX0_aboveIn cX0_aboveIn 10 d [.ref (w.2.1 30), .int x1, .long x2, .int x4, .int x5] σ r σ := by
  refine k_of (own := RX0) rfl (by decide) (Nat.le_of_ble_eq_true rfl) (fun X hX C hr => ?_)
  show k_K (k_PX w) X (k_MQ X (k_Ql (k_PX w) r σ) (k_PX w).2.2.1) 0 [(0, .ref (w.2.1 30)), (1, .int x1), (2, .long x2), (4, .int x4), (5, .int x5)] [] σ
  unfold f_X0_aboveIn at h
  refine k_lconst C dX0_aboveIn_0 (v := 0) rfl ?_
  refine k_lstore C dX0_aboveIn_1 (by decide) [1, 2, 3, 4, 5, 0] (L' := [(0, .ref (w.2.1 30)), (1, .int x1), (2, .long x2), (4, .int x4), (5, .int x5), (6, .long (0 : Int64))]) rfl ?_
  refine k_iconst C dX0_aboveIn_3 (v := 0) rfl ?_
  refine k_istore C dX0_aboveIn_4 (by decide) [1, 2, 3, 4, 5, 6, 0] (L' := [(0, .ref (w.2.1 30)), (1, .int x1), (2, .long x2), (4, .int x4), (5, .int x5), (6, .long (0 : Int64)), (8, .int (0 : Int32))]) rfl ?_
  obtain ⟨b6, eb6, h⟩ := k_lp_e h
  have K6 : ∀ (n : Nat) (v6_6 : Int64) (v8_6 : Int32), k_loop b6 n (v6_6, v8_6) = some r → k_K (k_PX w) X (k_MQ X (k_Ql (k_PX w) r σ) (k_PX w).2.2.1) 6 [(0, .ref (w.2.1 30)), (1, .int x1), (2, .long x2), (4, .int x4), (5, .int x5), (6, .long v6_6), (8, .int v8_6)] [] σ := by
    intro n
    induction n with
    | zero => intro v6_6 v8_6 h; cases h
    | succ n ih6 =>
      intro v6_6 v8_6 h
      obtain ⟨g6, eg6, h⟩ := k_lp_s h
      rw [← eg6] at ih6
      rw [eb6] at h
      refine k_iload C dX0_aboveIn_6 6 rfl ?_
      refine k_aload_n C dX0_aboveIn_8 0 rfl ?_
      refine k_get C dX0_aboveIn_9 (k_gX30_0 w) k_fX0_18 (Or.inl rfl) ?_
      refine k_get C dX0_aboveIn_12 (k_gX12_0 w) k_fX0_64 (Or.inl rfl) ?_
      refine k_icmp_ge C dX0_aboveIn_15 (tgt := 69) (by decide) (fun c15 => ?_) (fun c15 => ?_)
      · replace h := k_if_t h c15
        refine k_lload C dX0_aboveIn_69 5 rfl ?_
        exact k_lret C dX0_aboveIn_71 hr (k_p1 h)
      · replace h := k_if_f h c15
        refine k_iload_n C dX0_aboveIn_18 1 rfl ?_
        refine k_aload_n C dX0_aboveIn_19 0 rfl ?_
        refine k_get C dX0_aboveIn_20 (k_gX30_0 w) k_fX0_18 (Or.inl rfl) ?_
        refine k_iload C dX0_aboveIn_23 6 rfl ?_
        refine k_iload C dX0_aboveIn_25 4 rfl ?_
        obtain ⟨v27, h27, h⟩ := k_bd_e h
        refine k_goI (k_runV C dX0_aboveIn_27 (e_X1_heard (d := 3) (Nat.le_refl _) h27) k_lX0_46 k_yX1_heard (k_oX12 w) (by omega) rfl (Nat.le_of_ble_eq_true rfl)) ?_
        obtain ⟨v30, h30, h⟩ := k_bd_e h
        refine k_goI (k_runSN C dX0_aboveIn_30 (e_X11_signOf (d := 2) (Nat.le_refl _) h30) k_lX0_49 k_yX11_signOf (by omega) rfl (Nat.le_of_ble_eq_true rfl)) ?_
        refine k_istore C dX0_aboveIn_33 (by decide) [1, 2, 3, 4, 5, 6, 7, 0] (L' := [(0, .ref (w.2.1 30)), (1, .int x1), (2, .long x2), (4, .int x4), (5, .int x5), (6, .long v6_6), (8, .int v8_6), (9, .int v30)]) rfl ?_
        refine k_lload C dX0_aboveIn_35 5 rfl ?_
        refine k_aload_n C dX0_aboveIn_37 0 rfl ?_
        refine k_get C dX0_aboveIn_38 (k_gX30_0 w) k_fX0_18 (Or.inl rfl) ?_
        refine k_iload C dX0_aboveIn_41 6 rfl ?_
        obtain ⟨v43, h43, h⟩ := k_bd_e h
        refine k_goI (k_runV C dX0_aboveIn_43 (e_X1_stakeOf (d := 2) (Nat.le_refl _) h43) k_lX0_67 k_yX1_stakeOf (k_oX12 w) (by omega) rfl (Nat.le_of_ble_eq_true rfl)) ?_
        refine k_i2l C dX0_aboveIn_46 ?_
        refine k_aload_n C dX0_aboveIn_47 0 rfl ?_
        refine k_iload C dX0_aboveIn_48 6 rfl ?_
        refine k_iload C dX0_aboveIn_50 7 rfl ?_
        refine k_lload_n C dX0_aboveIn_52 2 rfl ?_
        refine k_iload C dX0_aboveIn_53 3 rfl ?_
        obtain ⟨v55, h55, h⟩ := k_bd_e h
        refine k_goI (k_runV C dX0_aboveIn_55 (e_X0_hit (d := 4) (Nat.le_refl _) h55) k_lX0_56 k_yX0_hit (k_oX30 w) (by omega) rfl (Nat.le_of_ble_eq_true rfl)) ?_
        refine k_i2l C dX0_aboveIn_58 ?_
        refine k_lmul C dX0_aboveIn_59 ?_
        refine k_ladd C dX0_aboveIn_60 ?_
        refine k_topl (fun y61 ey61 => ?_)
        replace h := k_nm_e h y61 ey61
        refine k_lstore C dX0_aboveIn_61 (by decide) [1, 2, 3, 4, 5, 0, 6, 7] (L' := [(0, .ref (w.2.1 30)), (1, .int x1), (2, .long x2), (4, .int x4), (5, .int x5), (6, .long y61), (8, .int v8_6), (9, .int v30)]) rfl ?_
        refine k_iinc C dX0_aboveIn_63 6 rfl (v := 1) rfl (by decide) [1, 2, 3, 4, 5, 6, 0, 7] (L' := fun z9 => [(0, .ref (w.2.1 30)), (1, .int x1), (2, .long x2), (4, .int x4), (5, .int x5), (6, .long y61), (8, .int z9), (9, .int v30)]) (fun z9 => rfl) (fun y63 ey63 => ?_)
        replace h := k_nm_e h y63 ey63
        refine k_goto C dX0_aboveIn_66 (tgt := 6) (by decide) ?_
        refine k_sub (L' := [(0, .ref (w.2.1 30)), (1, .int x1), (2, .long x2), (4, .int x4), (5, .int x5), (6, .long y61), (8, .int y63)]) [0, 1, 2, 3, 4, 5, 6] rfl ?_
        exact ih6 _ _ h
  exact K6 _ _ _ h
def f_X0_above (x1 : Int32) (x2 : Int64) (σ : k_St) : Option (Int64) :=
  k_bd (f_X0_aboveIn x1 x2 (k_rd σ 16 3) (k_rd σ 16 4) σ) fun v17 =>
  some v17
set_option maxHeartbeats 4000000 in
set_option maxRecDepth 100000 in
theorem e_X0_above {l : Launch} {w : k_WC} {d : Nat} (hd : 6 ≤ d) {x1 : Int32} {x2 : Int64}  {σ : k_St} {r : Int64} (h : f_X0_above x1 x2 σ = some r) : k_EL l (k_PX w) yX0_above cX0_above 4 d [.ref (w.2.1 30), .int x1, .long x2] σ r σ := by
  refine k_of (own := RX0) rfl (by decide) (Nat.le_of_ble_eq_true rfl) (fun X hX C hr => ?_)
  show k_K (k_PX w) X (k_MQ X (k_Ql (k_PX w) r σ) (k_PX w).2.2.1) 0 [(0, .ref (w.2.1 30)), (1, .int x1), (2, .long x2)] [] σ
  unfold f_X0_above at h
  refine k_aload_n C dX0_above_0 0 rfl ?_
  refine k_iload_n C dX0_above_1 1 rfl ?_
  refine k_lload_n C dX0_above_2 2 rfl ?_
  refine k_aload_n C dX0_above_3 0 rfl ?_
  refine k_get C dX0_above_4 (k_gX30_1 w) k_fX0_22 (Or.inl rfl) ?_
  refine k_get C dX0_above_7 (k_gX16_3 w) k_fX0_53 (Or.inl rfl) ?_
  refine k_aload_n C dX0_above_10 0 rfl ?_
  refine k_get C dX0_above_11 (k_gX30_1 w) k_fX0_22 (Or.inl rfl) ?_
  refine k_get C dX0_above_14 (k_gX16_4 w) k_fX0_42 (Or.inl rfl) ?_
  obtain ⟨v17, h17, h⟩ := k_bd_e h
  refine k_goL (k_runV C dX0_above_17 (e_X0_aboveIn (d := 5) (Nat.le_refl _) h17) k_lX0_60 k_yX0_aboveIn (k_oX30 w) (by omega) rfl (Nat.le_of_ble_eq_true rfl)) ?_
  exact k_lret C dX0_above_20 hr (k_p1 h)
def f_X0_offer (x1 : Int64) (x3 : Int32) (x4 : Int32) (x5 : Int32) (σ : k_St) : Option (Int64 × k_St) :=
  k_bd (f_X1_seen x3 (k_rd σ 16 3) σ) fun v12 =>
  k_nm (((v12 * (4 : Int32)) + x4)) fun y24 =>
  k_bd (f_X1_stakeOf x3 σ) fun v31 =>
  k_nm ((v31 * x5)) fun y37 =>
  k_bd (f_X11_within y24 (0 : Int32) ((16 : Int32) - (1 : Int32))) fun v49 =>
  k_if (v49 = (0 : Int32))
    (some (x1, σ))
    (k_gd (k_ix y24 16 = true) <|
    k_if ((k_rd σ 31 y24.toNatClampNeg) < y37)
      (k_gd (k_ix y24 16 = true) <|
      k_nm (k_wr σ 31 y24.toNatClampNeg y37) fun s77 =>
      k_bd (f_X11_withPlace x1 v12 x4 x3) fun v84 =>
      some (v84, s77))
      (some (x1, σ)))
set_option maxHeartbeats 4000000 in
set_option maxRecDepth 100000 in
theorem e_X0_offer {l : Launch} {w : k_WC} {d : Nat} (hd : 4 ≤ d) {x1 : Int64} {x3 : Int32} {x4 : Int32} {x5 : Int32}  {σ σ' : k_St} {r : Int64} (h : f_X0_offer x1 x3 x4 x5 σ = some (r, σ')) : k_EL l (k_PX w) yX0_offer cX0_offer 9 d [.ref (w.2.1 30), .long x1, .int x3, .int x4, .int x5] σ r σ' := by
  refine k_of (own := RX0) rfl (by decide) (Nat.le_of_ble_eq_true rfl) (fun X hX C hr => ?_)
  show k_K (k_PX w) X (k_MQ X (k_Ql (k_PX w) r σ') (k_PX w).2.2.1) 0 [(0, .ref (w.2.1 30)), (1, .long x1), (3, .int x3), (4, .int x4), (5, .int x5)] [] σ
  unfold f_X0_offer at h
  refine k_aload_n C dX0_offer_0 0 rfl ?_
  refine k_get C dX0_offer_1 (k_gX30_0 w) k_fX0_18 (Or.inl rfl) ?_
  refine k_iload_n C dX0_offer_4 2 rfl ?_
  refine k_aload_n C dX0_offer_5 0 rfl ?_
  refine k_get C dX0_offer_6 (k_gX30_1 w) k_fX0_22 (Or.inl rfl) ?_
  refine k_get C dX0_offer_9 (k_gX16_3 w) k_fX0_53 (Or.inl rfl) ?_
  obtain ⟨v12, h12, h⟩ := k_bd_e h
  refine k_goI (k_runV C dX0_offer_12 (e_X1_seen (d := 3) (Nat.le_refl _) h12) k_lX0_26 k_yX1_seen (k_oX12 w) (by omega) rfl (Nat.le_of_ble_eq_true rfl)) ?_
  refine k_istore C dX0_offer_15 (by decide) [1, 2, 3, 4, 5, 0] (L' := [(0, .ref (w.2.1 30)), (1, .long x1), (3, .int x3), (4, .int x4), (5, .int x5), (6, .int v12)]) rfl ?_
  refine k_iload C dX0_offer_17 5 rfl ?_
  refine k_iconst C dX0_offer_19 (v := 4) rfl ?_
  refine k_imul C dX0_offer_20 ?_
  refine k_iload C dX0_offer_21 3 rfl ?_
  refine k_iadd C dX0_offer_23 ?_
  refine k_topi (fun y24 ey24 => ?_)
  replace h := k_nm_e h y24 ey24
  refine k_istore C dX0_offer_24 (by decide) [1, 2, 3, 4, 5, 6, 0] (L' := [(0, .ref (w.2.1 30)), (1, .long x1), (3, .int x3), (4, .int x4), (5, .int x5), (6, .int v12), (7, .int y24)]) rfl ?_
  refine k_aload_n C dX0_offer_26 0 rfl ?_
  refine k_get C dX0_offer_27 (k_gX30_0 w) k_fX0_18 (Or.inl rfl) ?_
  refine k_iload_n C dX0_offer_30 2 rfl ?_
  obtain ⟨v31, h31, h⟩ := k_bd_e h
  refine k_goI (k_runV C dX0_offer_31 (e_X1_stakeOf (d := 2) (Nat.le_refl _) h31) k_lX0_67 k_yX1_stakeOf (k_oX12 w) (by omega) rfl (Nat.le_of_ble_eq_true rfl)) ?_
  refine k_iload C dX0_offer_34 4 rfl ?_
  refine k_imul C dX0_offer_36 ?_
  refine k_topi (fun y37 ey37 => ?_)
  replace h := k_nm_e h y37 ey37
  refine k_istore C dX0_offer_37 (by decide) [1, 2, 3, 4, 5, 6, 7, 0] (L' := [(0, .ref (w.2.1 30)), (1, .long x1), (3, .int x3), (4, .int x4), (5, .int x5), (6, .int v12), (7, .int y24), (8, .int y37)]) rfl ?_
  refine k_iload C dX0_offer_39 6 rfl ?_
  refine k_iconst C dX0_offer_41 (v := 0) rfl ?_
  refine k_aload_n C dX0_offer_42 0 rfl ?_
  refine k_get C dX0_offer_43 (k_gX30_2 w) k_fX0_9 (Or.inl rfl) ?_
  refine k_alen C dX0_offer_46 (k_aX31 w) (v := 16) rfl ?_
  refine k_iconst C dX0_offer_47 (v := 1) rfl ?_
  refine k_isub C dX0_offer_48 ?_
  obtain ⟨v49, h49, h⟩ := k_bd_e h
  refine k_goI (k_runSN C dX0_offer_49 (e_X11_within (d := 2) (Nat.le_refl _) h49) k_lX0_81 k_yX11_within (by omega) rfl (Nat.le_of_ble_eq_true rfl)) ?_
  refine k_if_eq C dX0_offer_52 (tgt := 67) (by decide) (fun c52 => ?_) (fun c52 => ?_)
  · replace h := k_if_t h c52
    refine k_lload_n C dX0_offer_67 1 rfl ?_
    exact k_lret C dX0_offer_68 hr (Option.some.inj h)
  · replace h := k_if_f h c52
    refine k_iload C dX0_offer_55 7 rfl ?_
    refine k_aload_n C dX0_offer_57 0 rfl ?_
    refine k_get C dX0_offer_58 (k_gX30_2 w) k_fX0_9 (Or.inl rfl) ?_
    refine k_iload C dX0_offer_61 6 rfl ?_
    obtain ⟨q63, h⟩ := k_gd_e h
    refine k_iald C dX0_offer_63 (k_aX31 w) q63 ?_
    refine k_icmp_gt C dX0_offer_64 (tgt := 69) (by decide) (fun c64 => ?_) (fun c64 => ?_)
    · replace h := k_if_t h c64
      refine k_aload_n C dX0_offer_69 0 rfl ?_
      refine k_get C dX0_offer_70 (k_gX30_2 w) k_fX0_9 (Or.inl rfl) ?_
      refine k_iload C dX0_offer_73 6 rfl ?_
      refine k_iload C dX0_offer_75 7 rfl ?_
      obtain ⟨q77, h⟩ := k_gd_e h
      refine k_iast C dX0_offer_77 (k_aX31 w) q77 ?_
      refine k_st (fun s77 es77 => ?_)
      replace h := k_nm_e h s77 es77
      refine k_lload_n C dX0_offer_78 1 rfl ?_
      refine k_iload C dX0_offer_79 5 rfl ?_
      refine k_iload C dX0_offer_81 3 rfl ?_
      refine k_iload_n C dX0_offer_83 2 rfl ?_
      obtain ⟨v84, h84, h⟩ := k_bd_e h
      refine k_goL (k_runSN C dX0_offer_84 (e_X11_withPlace (d := 2) (Nat.le_refl _) h84) k_lX0_85 k_yX11_withPlace (by omega) rfl (Nat.le_of_ble_eq_true rfl)) ?_
      exact k_lret C dX0_offer_87 hr (Option.some.inj h)
    · replace h := k_if_f h c64
      refine k_lload_n C dX0_offer_67 1 rfl ?_
      exact k_lret C dX0_offer_68 hr (Option.some.inj h)
def f_X0_answerOf (x1 : Int32) (σ : k_St) : Option (Int64 × k_St) :=
  k_bd (f_J7_fill_53178 31 (0 : Int32) σ) fun s5 =>
  k_loop (fun (g13 : Int64 × Int32 × k_St → Option (Int64 × k_St)) (z13 : Int64 × Int32 × k_St) => match z13 with
    | (v2_13, v4_13, s_13) =>
      k_if ((k_rd s_13 12 0) ≤ v4_13)
        (some (v2_13, s_13))
        (k_bd (f_X1_heard v4_13 (k_rd s_13 16 4) s_13) fun v39 =>
        k_bd (f_X11_signOf x1 v39) fun v42 =>
        k_jn (fun (t4_69 : Int32) =>
          k_b2 (f_X0_offer v2_13 v4_13 (0 : Int32) t4_69 s_13) fun v69 s69 =>
          k_if (v42 = (0 : Int32))
            (k_nm (v4_13 + (1 : Int32)) fun y98 =>
            g13 (v69, y98, s69))
            (k_b2 (f_X0_offer v69 v4_13 v42 ((100 : Int32) - (k_rd s69 16 5)) s69) fun v94 s94 =>
            k_nm (v4_13 + (1 : Int32)) fun y98 =>
            g13 (v94, y98, s94))) fun j69 =>
        k_if (v42 = (0 : Int32))
          (j69 (100 : Int32))
          (j69 (k_rd s_13 16 5)))) 100000 ((0 : Int64), (0 : Int32), s5)
set_option maxHeartbeats 4000000 in
set_option maxRecDepth 100000 in
theorem e_X0_answerOf {l : Launch} {w : k_WC} {d : Nat} (hd : 5 ≤ d) {x1 : Int32}  {σ σ' : k_St} {r : Int64} (h : f_X0_answerOf x1 σ = some (r, σ')) : k_EL l (k_PX w) yX0_answerOf cX0_answerOf 6 d [.ref (w.2.1 30), .int x1] σ r σ' := by
  refine k_of (own := RX0) rfl (by decide) (Nat.le_of_ble_eq_true rfl) (fun X hX C hr => ?_)
  show k_K (k_PX w) X (k_MQ X (k_Ql (k_PX w) r σ') (k_PX w).2.2.1) 0 [(0, .ref (w.2.1 30)), (1, .int x1)] [] σ
  unfold f_X0_answerOf at h
  refine k_aload_n C dX0_answerOf_0 0 rfl ?_
  refine k_get C dX0_answerOf_1 (k_gX30_2 w) k_fX0_9 (Or.inl rfl) ?_
  refine k_iconst C dX0_answerOf_4 (v := 0) rfl ?_
  obtain ⟨s5, h5, h⟩ := k_bd_e h
  refine k_goV (k_runS C dX0_answerOf_5 (e_J7_fill_53178 (d := 2) (Nat.le_refl _) (k_aX31 w) h5) k_lX0_71 k_yJ7_fill_53178 (by omega) rfl (Nat.le_of_ble_eq_true rfl)) ?_
  refine k_lconst C dX0_answerOf_8 (v := 0) rfl ?_
  refine k_lstore_n C dX0_answerOf_9 (by decide) [1, 2, 0] (L' := [(0, .ref (w.2.1 30)), (1, .int x1), (2, .long (0 : Int64))]) rfl ?_
  refine k_iconst C dX0_answerOf_10 (v := 0) rfl ?_
  refine k_istore C dX0_answerOf_11 (by decide) [1, 2, 3, 0] (L' := [(0, .ref (w.2.1 30)), (1, .int x1), (2, .long (0 : Int64)), (4, .int (0 : Int32))]) rfl ?_
  obtain ⟨b13, eb13, h⟩ := k_lp_e h
  have K13 : ∀ (n : Nat) (v2_13 : Int64) (v4_13 : Int32) (s_13 : k_St), k_loop b13 n (v2_13, v4_13, s_13) = some (r, σ') → k_K (k_PX w) X (k_MQ X (k_Ql (k_PX w) r σ') (k_PX w).2.2.1) 13 [(0, .ref (w.2.1 30)), (1, .int x1), (2, .long v2_13), (4, .int v4_13)] [] s_13 := by
    intro n
    induction n with
    | zero => intro v2_13 v4_13 s_13 h; cases h
    | succ n ih13 =>
      intro v2_13 v4_13 s_13 h
      obtain ⟨g13, eg13, h⟩ := k_lp_s h
      rw [← eg13] at ih13
      rw [eb13] at h
      refine k_iload C dX0_answerOf_13 3 rfl ?_
      refine k_aload_n C dX0_answerOf_15 0 rfl ?_
      refine k_get C dX0_answerOf_16 (k_gX30_0 w) k_fX0_18 (Or.inl rfl) ?_
      refine k_get C dX0_answerOf_19 (k_gX12_0 w) k_fX0_64 (Or.inl rfl) ?_
      refine k_icmp_ge C dX0_answerOf_22 (tgt := 104) (by decide) (fun c22 => ?_) (fun c22 => ?_)
      · replace h := k_if_t h c22
        refine k_lload_n C dX0_answerOf_104 2 rfl ?_
        exact k_lret C dX0_answerOf_105 hr (Option.some.inj h)
      · replace h := k_if_f h c22
        refine k_iload_n C dX0_answerOf_25 1 rfl ?_
        refine k_aload_n C dX0_answerOf_26 0 rfl ?_
        refine k_get C dX0_answerOf_27 (k_gX30_0 w) k_fX0_18 (Or.inl rfl) ?_
        refine k_iload C dX0_answerOf_30 3 rfl ?_
        refine k_aload_n C dX0_answerOf_32 0 rfl ?_
        refine k_get C dX0_answerOf_33 (k_gX30_1 w) k_fX0_22 (Or.inl rfl) ?_
        refine k_get C dX0_answerOf_36 (k_gX16_4 w) k_fX0_42 (Or.inl rfl) ?_
        obtain ⟨v39, h39, h⟩ := k_bd_e h
        refine k_goI (k_runV C dX0_answerOf_39 (e_X1_heard (d := 3) (Nat.le_refl _) h39) k_lX0_46 k_yX1_heard (k_oX12 w) (by omega) rfl (Nat.le_of_ble_eq_true rfl)) ?_
        obtain ⟨v42, h42, h⟩ := k_bd_e h
        refine k_goI (k_runSN C dX0_answerOf_42 (e_X11_signOf (d := 2) (Nat.le_refl _) h42) k_lX0_49 k_yX11_signOf (by omega) rfl (Nat.le_of_ble_eq_true rfl)) ?_
        refine k_istore C dX0_answerOf_45 (by decide) [1, 2, 3, 4, 0] (L' := [(0, .ref (w.2.1 30)), (1, .int x1), (2, .long v2_13), (4, .int v4_13), (5, .int v42)]) rfl ?_
        refine k_aload_n C dX0_answerOf_47 0 rfl ?_
        refine k_lload_n C dX0_answerOf_48 2 rfl ?_
        refine k_iload C dX0_answerOf_49 3 rfl ?_
        refine k_iconst C dX0_answerOf_51 (v := 0) rfl ?_
        refine k_iload C dX0_answerOf_52 4 rfl ?_
        obtain ⟨j69, ej69, h⟩ := k_jn_e h
        have Jj69 : ∀ (t4_69 : Int32), j69 t4_69 = some (r, σ') → k_K (k_PX w) X (k_MQ X (k_Ql (k_PX w) r σ') (k_PX w).2.2.1) 69 [(0, .ref (w.2.1 30)), (1, .int x1), (4, .int v4_13), (5, .int v42)] [.int t4_69, .int (0 : Int32), .int v4_13, .long v2_13, .ref (w.2.1 30)] s_13 := by
          intro t4_69 h
          rw [ej69] at h
          obtain ⟨v69, s69, h69, h⟩ := k_b2_e h
          refine k_goL (k_runV C dX0_answerOf_69 (e_X0_offer (d := 4) (Nat.le_refl _) h69) k_lX0_77 k_yX0_offer (k_oX30 w) (by omega) rfl (Nat.le_of_ble_eq_true rfl)) ?_
          refine k_lstore_n C dX0_answerOf_72 (by decide) [1, 2, 0, 3, 4] (L' := [(0, .ref (w.2.1 30)), (1, .int x1), (2, .long v69), (4, .int v4_13), (5, .int v42)]) rfl ?_
          refine k_iload C dX0_answerOf_73 4 rfl ?_
          refine k_if_eq C dX0_answerOf_75 (tgt := 98) (by decide) (fun c75 => ?_) (fun c75 => ?_)
          · replace h := k_if_t h c75
            refine k_iinc C dX0_answerOf_98 3 rfl (v := 1) rfl (by decide) [1, 2, 3, 0, 4] (L' := fun z9 => [(0, .ref (w.2.1 30)), (1, .int x1), (2, .long v69), (4, .int z9), (5, .int v42)]) (fun z9 => rfl) (fun y98 ey98 => ?_)
            replace h := k_nm_e h y98 ey98
            refine k_goto C dX0_answerOf_101 (tgt := 13) (by decide) ?_
            refine k_sub (L' := [(0, .ref (w.2.1 30)), (1, .int x1), (2, .long v69), (4, .int y98)]) [0, 1, 2, 3] rfl ?_
            exact ih13 _ _ _ h
          · replace h := k_if_f h c75
            refine k_aload_n C dX0_answerOf_78 0 rfl ?_
            refine k_lload_n C dX0_answerOf_79 2 rfl ?_
            refine k_iload C dX0_answerOf_80 3 rfl ?_
            refine k_iload C dX0_answerOf_82 4 rfl ?_
            refine k_bipush C dX0_answerOf_84 (v := 100) rfl ?_
            refine k_aload_n C dX0_answerOf_86 0 rfl ?_
            refine k_get C dX0_answerOf_87 (k_gX30_1 w) k_fX0_22 (Or.inl rfl) ?_
            refine k_get C dX0_answerOf_90 (k_gX16_5 w) k_fX0_36 (Or.inl rfl) ?_
            refine k_isub C dX0_answerOf_93 ?_
            obtain ⟨v94, s94, h94, h⟩ := k_b2_e h
            refine k_goL (k_runV C dX0_answerOf_94 (e_X0_offer (d := 4) (Nat.le_refl _) h94) k_lX0_77 k_yX0_offer (k_oX30 w) (by omega) rfl (Nat.le_of_ble_eq_true rfl)) ?_
            refine k_lstore_n C dX0_answerOf_97 (by decide) [1, 2, 0, 3, 4] (L' := [(0, .ref (w.2.1 30)), (1, .int x1), (2, .long v94), (4, .int v4_13), (5, .int v42)]) rfl ?_
            refine k_iinc C dX0_answerOf_98 3 rfl (v := 1) rfl (by decide) [1, 2, 3, 0, 4] (L' := fun z9 => [(0, .ref (w.2.1 30)), (1, .int x1), (2, .long v94), (4, .int z9), (5, .int v42)]) (fun z9 => rfl) (fun y98 ey98 => ?_)
            replace h := k_nm_e h y98 ey98
            refine k_goto C dX0_answerOf_101 (tgt := 13) (by decide) ?_
            refine k_sub (L' := [(0, .ref (w.2.1 30)), (1, .int x1), (2, .long v94), (4, .int y98)]) [0, 1, 2, 3] rfl ?_
            exact ih13 _ _ _ h
        refine k_if_ne C dX0_answerOf_54 (tgt := 62) (by decide) (fun c54 => ?_) (fun c54 => ?_)
        · replace h := k_if_f h c54
          refine k_aload_n C dX0_answerOf_62 0 rfl ?_
          refine k_get C dX0_answerOf_63 (k_gX30_1 w) k_fX0_22 (Or.inl rfl) ?_
          refine k_get C dX0_answerOf_66 (k_gX16_5 w) k_fX0_36 (Or.inl rfl) ?_
          refine k_sub (L' := [(0, .ref (w.2.1 30)), (1, .int x1), (4, .int v4_13), (5, .int v42)]) [0, 1, 3, 4] rfl ?_
          exact Jj69 _ h
        · replace h := k_if_t h c54
          refine k_bipush C dX0_answerOf_57 (v := 100) rfl ?_
          refine k_goto C dX0_answerOf_59 (tgt := 69) (by decide) ?_
          refine k_sub (L' := [(0, .ref (w.2.1 30)), (1, .int x1), (4, .int v4_13), (5, .int v42)]) [0, 1, 3, 4] rfl ?_
          exact Jj69 _ h
  exact K13 _ _ _ _ h
def f_X0_reckonGains (x1 : Int64) (σ : k_St) : Option (k_St) :=
  k_bd (f_J7_fill_53178 32 (0 : Int32) σ) fun s5 =>
  k_nm ((o_min (4 : Int32) (k_rd s5 12 1))) fun y19 =>
  k_loop (fun (g23 : Int32 × k_St → Option (k_St)) (z23 : Int32 × k_St) => match z23 with
    | (v4_23, s_23) =>
      k_if ((k_rd s_23 12 0) ≤ v4_23)
        (some s_23)
        (k_bd (f_X1_heard v4_23 (k_rd s_23 16 4) s_23) fun v48 =>
        k_nm ((v48 * (4 : Int32))) fun y53 =>
        k_bd (f_X11_within y53 (0 : Int32) ((16 : Int32) - (4 : Int32))) fun v65 =>
        k_if (v65 = (0 : Int32))
          (k_nm (v4_23 + (1 : Int32)) fun y129 =>
          g23 (y129, s_23))
          (k_bd (f_X1_stakeOf v4_23 s_23) fun v77 =>
          k_loop (fun (g85 : Int32 × k_St → Option (k_St)) (z85 : Int32 × k_St) => match z85 with
            | (v7_85, s_85) =>
              k_if (y19 ≤ v7_85)
                (k_nm (v4_23 + (1 : Int32)) fun y129 =>
                g23 (y129, s_85))
                (k_nm ((y53 + v7_85)) fun y100 =>
                k_gd (k_ix y100 16 = true) <|
                k_bd (f_X0_hit v4_23 v7_85 x1 (k_rd s_85 16 3) s_85) fun v117 =>
                k_gd (k_ix y100 16 = true) <|
                k_nm (k_wr s_85 32 y100.toNatClampNeg ((k_rd s_85 32 y100.toNatClampNeg) + (v77 * v117))) fun s122 =>
                k_nm (v7_85 + (1 : Int32)) fun y123 =>
                g85 (y123, s122))) 100000 ((0 : Int32), s_23)))) 100000 ((0 : Int32), s5)
set_option maxHeartbeats 4000000 in
set_option maxRecDepth 100000 in
theorem e_X0_reckonGains {l : Launch} {w : k_WC} {d : Nat} (hd : 5 ≤ d) {x1 : Int64}  {σ σ' : k_St} (h : f_X0_reckonGains x1 σ = some σ') : k_EV l (k_PX w) yX0_reckonGains cX0_reckonGains 8 d [.ref (w.2.1 30), .long x1] σ σ' := by
  refine k_of (own := RX0) rfl (by decide) (Nat.le_of_ble_eq_true rfl) (fun X hX C hr => ?_)
  show k_K (k_PX w) X (k_MQ X (k_Qv (k_PX w) σ') (k_PX w).2.2.1) 0 [(0, .ref (w.2.1 30)), (1, .long x1)] [] σ
  unfold f_X0_reckonGains at h
  refine k_aload_n C dX0_reckonGains_0 0 rfl ?_
  refine k_get C dX0_reckonGains_1 (k_gX30_3 w) k_fX0_15 (Or.inl rfl) ?_
  refine k_iconst C dX0_reckonGains_4 (v := 0) rfl ?_
  obtain ⟨s5, h5, h⟩ := k_bd_e h
  refine k_goV (k_runS C dX0_reckonGains_5 (e_J7_fill_53178 (d := 2) (Nat.le_refl _) (k_aX32 w) h5) k_lX0_71 k_yJ7_fill_53178 (by omega) rfl (Nat.le_of_ble_eq_true rfl)) ?_
  refine k_iconst C dX0_reckonGains_8 (v := 4) rfl ?_
  refine k_aload_n C dX0_reckonGains_9 0 rfl ?_
  refine k_get C dX0_reckonGains_10 (k_gX30_0 w) k_fX0_18 (Or.inl rfl) ?_
  refine k_get C dX0_reckonGains_13 (k_gX12_1 w) k_fX0_96 (Or.inl rfl) ?_
  refine k_mmin C dX0_reckonGains_16 k_lX0_99 k_ym_min (by omega) (Nat.le_of_ble_eq_true rfl) ?_
  refine k_topi (fun y19 ey19 => ?_)
  replace h := k_nm_e h y19 ey19
  refine k_istore_n C dX0_reckonGains_19 (by decide) [1, 2, 0] (L' := [(0, .ref (w.2.1 30)), (1, .long x1), (3, .int y19)]) rfl ?_
  refine k_iconst C dX0_reckonGains_20 (v := 0) rfl ?_
  refine k_istore C dX0_reckonGains_21 (by decide) [1, 2, 3, 0] (L' := [(0, .ref (w.2.1 30)), (1, .long x1), (3, .int y19), (4, .int (0 : Int32))]) rfl ?_
  obtain ⟨b23, eb23, h⟩ := k_lp_e h
  have K23 : ∀ (n : Nat) (v4_23 : Int32) (s_23 : k_St), k_loop b23 n (v4_23, s_23) = some σ' → k_K (k_PX w) X (k_MQ X (k_Qv (k_PX w) σ') (k_PX w).2.2.1) 23 [(0, .ref (w.2.1 30)), (1, .long x1), (3, .int y19), (4, .int v4_23)] [] s_23 := by
    intro n
    induction n with
    | zero => intro v4_23 s_23 h; cases h
    | succ n ih23 =>
      intro v4_23 s_23 h
      obtain ⟨g23, eg23, h⟩ := k_lp_s h
      rw [← eg23] at ih23
      rw [eb23] at h
      refine k_iload C dX0_reckonGains_23 3 rfl ?_
      refine k_aload_n C dX0_reckonGains_25 0 rfl ?_
      refine k_get C dX0_reckonGains_26 (k_gX30_0 w) k_fX0_18 (Or.inl rfl) ?_
      refine k_get C dX0_reckonGains_29 (k_gX12_0 w) k_fX0_64 (Or.inl rfl) ?_
      refine k_icmp_ge C dX0_reckonGains_32 (tgt := 135) (by decide) (fun c32 => ?_) (fun c32 => ?_)
      · replace h := k_if_t h c32
        exact k_vret C dX0_reckonGains_135 hr (Option.some.inj h)
      · replace h := k_if_f h c32
        refine k_aload_n C dX0_reckonGains_35 0 rfl ?_
        refine k_get C dX0_reckonGains_36 (k_gX30_0 w) k_fX0_18 (Or.inl rfl) ?_
        refine k_iload C dX0_reckonGains_39 3 rfl ?_
        refine k_aload_n C dX0_reckonGains_41 0 rfl ?_
        refine k_get C dX0_reckonGains_42 (k_gX30_1 w) k_fX0_22 (Or.inl rfl) ?_
        refine k_get C dX0_reckonGains_45 (k_gX16_4 w) k_fX0_42 (Or.inl rfl) ?_
        obtain ⟨v48, h48, h⟩ := k_bd_e h
        refine k_goI (k_runV C dX0_reckonGains_48 (e_X1_heard (d := 3) (Nat.le_refl _) h48) k_lX0_46 k_yX1_heard (k_oX12 w) (by omega) rfl (Nat.le_of_ble_eq_true rfl)) ?_
        refine k_iconst C dX0_reckonGains_51 (v := 4) rfl ?_
        refine k_imul C dX0_reckonGains_52 ?_
        refine k_topi (fun y53 ey53 => ?_)
        replace h := k_nm_e h y53 ey53
        refine k_istore C dX0_reckonGains_53 (by decide) [1, 2, 3, 4, 0] (L' := [(0, .ref (w.2.1 30)), (1, .long x1), (3, .int y19), (4, .int v4_23), (5, .int y53)]) rfl ?_
        refine k_iload C dX0_reckonGains_55 4 rfl ?_
        refine k_iconst C dX0_reckonGains_57 (v := 0) rfl ?_
        refine k_aload_n C dX0_reckonGains_58 0 rfl ?_
        refine k_get C dX0_reckonGains_59 (k_gX30_3 w) k_fX0_15 (Or.inl rfl) ?_
        refine k_alen C dX0_reckonGains_62 (k_aX32 w) (v := 16) rfl ?_
        refine k_iconst C dX0_reckonGains_63 (v := 4) rfl ?_
        refine k_isub C dX0_reckonGains_64 ?_
        obtain ⟨v65, h65, h⟩ := k_bd_e h
        refine k_goI (k_runSN C dX0_reckonGains_65 (e_X11_within (d := 2) (Nat.le_refl _) h65) k_lX0_81 k_yX11_within (by omega) rfl (Nat.le_of_ble_eq_true rfl)) ?_
        refine k_if_eq C dX0_reckonGains_68 (tgt := 129) (by decide) (fun c68 => ?_) (fun c68 => ?_)
        · replace h := k_if_t h c68
          refine k_iinc C dX0_reckonGains_129 3 rfl (v := 1) rfl (by decide) [1, 2, 3, 0, 4] (L' := fun z9 => [(0, .ref (w.2.1 30)), (1, .long x1), (3, .int y19), (4, .int z9), (5, .int y53)]) (fun z9 => rfl) (fun y129 ey129 => ?_)
          replace h := k_nm_e h y129 ey129
          refine k_goto C dX0_reckonGains_132 (tgt := 23) (by decide) ?_
          refine k_sub (L' := [(0, .ref (w.2.1 30)), (1, .long x1), (3, .int y19), (4, .int y129)]) [0, 1, 2, 3] rfl ?_
          exact ih23 _ _ h
        · replace h := k_if_f h c68
          refine k_aload_n C dX0_reckonGains_71 0 rfl ?_
          refine k_get C dX0_reckonGains_72 (k_gX30_0 w) k_fX0_18 (Or.inl rfl) ?_
          refine k_iload C dX0_reckonGains_75 3 rfl ?_
          obtain ⟨v77, h77, h⟩ := k_bd_e h
          refine k_goI (k_runV C dX0_reckonGains_77 (e_X1_stakeOf (d := 2) (Nat.le_refl _) h77) k_lX0_67 k_yX1_stakeOf (k_oX12 w) (by omega) rfl (Nat.le_of_ble_eq_true rfl)) ?_
          refine k_istore C dX0_reckonGains_80 (by decide) [1, 2, 3, 4, 5, 0] (L' := [(0, .ref (w.2.1 30)), (1, .long x1), (3, .int y19), (4, .int v4_23), (5, .int y53), (6, .int v77)]) rfl ?_
          refine k_iconst C dX0_reckonGains_82 (v := 0) rfl ?_
          refine k_istore C dX0_reckonGains_83 (by decide) [1, 2, 3, 4, 5, 6, 0] (L' := [(0, .ref (w.2.1 30)), (1, .long x1), (3, .int y19), (4, .int v4_23), (5, .int y53), (6, .int v77), (7, .int (0 : Int32))]) rfl ?_
          obtain ⟨b85, eb85, h⟩ := k_lp_e h
          have K85 : ∀ (n : Nat) (v7_85 : Int32) (s_85 : k_St), k_loop b85 n (v7_85, s_85) = some σ' → k_K (k_PX w) X (k_MQ X (k_Qv (k_PX w) σ') (k_PX w).2.2.1) 85 [(0, .ref (w.2.1 30)), (1, .long x1), (3, .int y19), (4, .int v4_23), (5, .int y53), (6, .int v77), (7, .int v7_85)] [] s_85 := by
            intro n
            induction n with
            | zero => intro v7_85 s_85 h; cases h
            | succ n ih85 =>
              intro v7_85 s_85 h
              obtain ⟨g85, eg85, h⟩ := k_lp_s h
              rw [← eg85] at ih85
              rw [eb85] at h
              refine k_iload C dX0_reckonGains_85 6 rfl ?_
              refine k_iload_n C dX0_reckonGains_87 2 rfl ?_
              refine k_icmp_ge C dX0_reckonGains_88 (tgt := 129) (by decide) (fun c88 => ?_) (fun c88 => ?_)
              · replace h := k_if_t h c88
                refine k_iinc C dX0_reckonGains_129 3 rfl (v := 1) rfl (by decide) [1, 2, 3, 0, 4, 5, 6] (L' := fun z9 => [(0, .ref (w.2.1 30)), (1, .long x1), (3, .int y19), (4, .int z9), (5, .int y53), (6, .int v77), (7, .int v7_85)]) (fun z9 => rfl) (fun y129 ey129 => ?_)
                replace h := k_nm_e h y129 ey129
                refine k_goto C dX0_reckonGains_132 (tgt := 23) (by decide) ?_
                refine k_sub (L' := [(0, .ref (w.2.1 30)), (1, .long x1), (3, .int y19), (4, .int y129)]) [0, 1, 2, 3] rfl ?_
                exact ih23 _ _ h
              · replace h := k_if_f h c88
                refine k_aload_n C dX0_reckonGains_91 0 rfl ?_
                refine k_get C dX0_reckonGains_92 (k_gX30_3 w) k_fX0_15 (Or.inl rfl) ?_
                refine k_iload C dX0_reckonGains_95 4 rfl ?_
                refine k_iload C dX0_reckonGains_97 6 rfl ?_
                refine k_iadd C dX0_reckonGains_99 ?_
                refine k_topi (fun y100 ey100 => ?_)
                replace h := k_nm_e h y100 ey100
                refine k_dup2 C dX0_reckonGains_100 rfl rfl ?_
                obtain ⟨q101, h⟩ := k_gd_e h
                refine k_iald C dX0_reckonGains_101 (k_aX32 w) q101 ?_
                refine k_iload C dX0_reckonGains_102 5 rfl ?_
                refine k_aload_n C dX0_reckonGains_104 0 rfl ?_
                refine k_iload C dX0_reckonGains_105 3 rfl ?_
                refine k_iload C dX0_reckonGains_107 6 rfl ?_
                refine k_lload_n C dX0_reckonGains_109 1 rfl ?_
                refine k_aload_n C dX0_reckonGains_110 0 rfl ?_
                refine k_get C dX0_reckonGains_111 (k_gX30_1 w) k_fX0_22 (Or.inl rfl) ?_
                refine k_get C dX0_reckonGains_114 (k_gX16_3 w) k_fX0_53 (Or.inl rfl) ?_
                obtain ⟨v117, h117, h⟩ := k_bd_e h
                refine k_goI (k_runV C dX0_reckonGains_117 (e_X0_hit (d := 4) (Nat.le_refl _) h117) k_lX0_56 k_yX0_hit (k_oX30 w) (by omega) rfl (Nat.le_of_ble_eq_true rfl)) ?_
                refine k_imul C dX0_reckonGains_120 ?_
                refine k_iadd C dX0_reckonGains_121 ?_
                obtain ⟨q122, h⟩ := k_gd_e h
                refine k_iast C dX0_reckonGains_122 (k_aX32 w) q122 ?_
                refine k_st (fun s122 es122 => ?_)
                replace h := k_nm_e h s122 es122
                refine k_iinc C dX0_reckonGains_123 6 rfl (v := 1) rfl (by decide) [1, 2, 3, 4, 5, 6, 0] (L' := fun z9 => [(0, .ref (w.2.1 30)), (1, .long x1), (3, .int y19), (4, .int v4_23), (5, .int y53), (6, .int v77), (7, .int z9)]) (fun z9 => rfl) (fun y123 ey123 => ?_)
                replace h := k_nm_e h y123 ey123
                refine k_goto C dX0_reckonGains_126 (tgt := 85) (by decide) ?_
                exact ih85 _ _ h
          exact K85 _ _ _ h
  exact K23 _ _ _ h
def f_X0_isSettled (x1 : Int32) (σ : k_St) : Option (Int32 × k_St) :=
  k_b2 (f_X0_answerOf x1 σ) fun v3 s3 =>
  k_bd (f_X0_reckonGains v3 s3) fun s6 =>
  k_loop (fun (g11 : Int32 → Option (Int32 × k_St)) (z11 : Int32) => match z11 with
    | v2_11 =>
      k_if ((4 : Int32) ≤ v2_11)
        (some ((1 : Int32), s6))
        (k_bd (f_X11_signOf x1 v2_11) fun v25 =>
        k_gd (k_ix ((v2_11 * (4 : Int32)) + v25) 16 = true) <|
        k_nm ((k_rd s6 32 ((v2_11 * (4 : Int32)) + v25).toNatClampNeg)) fun y30 =>
        k_loop (fun (g34 : Int32 → Option (Int32 × k_St)) (z34 : Int32) => match z34 with
          | v4_34 =>
            k_if ((4 : Int32) ≤ v4_34)
              (k_nm (v2_11 + (1 : Int32)) fun y63 =>
              g11 y63)
              (k_gd (k_ix ((v2_11 * (4 : Int32)) + v4_34) 16 = true) <|
              k_if ((k_rd s6 32 ((v2_11 * (4 : Int32)) + v4_34).toNatClampNeg) ≤ y30)
                (k_nm (v4_34 + (1 : Int32)) fun y57 =>
                g34 y57)
                (some ((0 : Int32), s6)))) 100000 (0 : Int32))) 100000 (0 : Int32)
set_option maxHeartbeats 4000000 in
set_option maxRecDepth 100000 in
theorem e_X0_isSettled {l : Launch} {w : k_WC} {d : Nat} (hd : 6 ≤ d) {x1 : Int32}  {σ σ' : k_St} {r : Int32} (h : f_X0_isSettled x1 σ = some (r, σ')) : k_EI l (k_PX w) yX0_isSettled cX0_isSettled 5 (some .boolean) d [.ref (w.2.1 30), .int x1] σ r σ' := by
  refine k_of (own := RX0) rfl (by decide) (Nat.le_of_ble_eq_true rfl) (fun X hX C hr => ?_)
  show k_K (k_PX w) X (k_MQ X (k_Qi (k_PX w) r σ') (k_PX w).2.2.1) 0 [(0, .ref (w.2.1 30)), (1, .int x1)] [] σ
  unfold f_X0_isSettled at h
  refine k_aload_n C dX0_isSettled_0 0 rfl ?_
  refine k_aload_n C dX0_isSettled_1 0 rfl ?_
  refine k_iload_n C dX0_isSettled_2 1 rfl ?_
  obtain ⟨v3, s3, h3, h⟩ := k_b2_e h
  refine k_goL (k_runV C dX0_isSettled_3 (e_X0_answerOf (d := 5) (Nat.le_refl _) h3) k_lX0_88 k_yX0_answerOf (k_oX30 w) (by omega) rfl (Nat.le_of_ble_eq_true rfl)) ?_
  obtain ⟨s6, h6, h⟩ := k_bd_e h
  refine k_goV (k_runV C dX0_isSettled_6 (e_X0_reckonGains (d := 5) (Nat.le_refl _) h6) k_lX0_92 k_yX0_reckonGains (k_oX30 w) (by omega) rfl (Nat.le_of_ble_eq_true rfl)) ?_
  refine k_iconst C dX0_isSettled_9 (v := 0) rfl ?_
  refine k_istore_n C dX0_isSettled_10 (by decide) [1, 2, 0] (L' := [(0, .ref (w.2.1 30)), (1, .int x1), (2, .int (0 : Int32))]) rfl ?_
  obtain ⟨b11, eb11, h⟩ := k_lp_e h
  have K11 : ∀ (n : Nat) (v2_11 : Int32), k_loop b11 n v2_11 = some (r, σ') → k_K (k_PX w) X (k_MQ X (k_Qi (k_PX w) r σ') (k_PX w).2.2.1) 11 [(0, .ref (w.2.1 30)), (1, .int x1), (2, .int v2_11)] [] s6 := by
    intro n
    induction n with
    | zero => intro v2_11 h; cases h
    | succ n ih11 =>
      intro v2_11 h
      obtain ⟨g11, eg11, h⟩ := k_lp_s h
      rw [← eg11] at ih11
      rw [eb11] at h
      refine k_iload_n C dX0_isSettled_11 2 rfl ?_
      refine k_iconst C dX0_isSettled_12 (v := 4) rfl ?_
      refine k_icmp_ge C dX0_isSettled_13 (tgt := 69) (by decide) (fun c13 => ?_) (fun c13 => ?_)
      · replace h := k_if_t h c13
        refine k_iconst C dX0_isSettled_69 (v := 1) rfl ?_
        exact k_zret C dX0_isSettled_70 hr rfl (Option.some.inj h)
      · replace h := k_if_f h c13
        refine k_aload_n C dX0_isSettled_16 0 rfl ?_
        refine k_get C dX0_isSettled_17 (k_gX30_3 w) k_fX0_15 (Or.inl rfl) ?_
        refine k_iload_n C dX0_isSettled_20 2 rfl ?_
        refine k_iconst C dX0_isSettled_21 (v := 4) rfl ?_
        refine k_imul C dX0_isSettled_22 ?_
        refine k_iload_n C dX0_isSettled_23 1 rfl ?_
        refine k_iload_n C dX0_isSettled_24 2 rfl ?_
        obtain ⟨v25, h25, h⟩ := k_bd_e h
        refine k_goI (k_runSN C dX0_isSettled_25 (e_X11_signOf (d := 2) (Nat.le_refl _) h25) k_lX0_49 k_yX11_signOf (by omega) rfl (Nat.le_of_ble_eq_true rfl)) ?_
        refine k_iadd C dX0_isSettled_28 ?_
        obtain ⟨q29, h⟩ := k_gd_e h
        refine k_iald C dX0_isSettled_29 (k_aX32 w) q29 ?_
        refine k_topi (fun y30 ey30 => ?_)
        replace h := k_nm_e h y30 ey30
        refine k_istore_n C dX0_isSettled_30 (by decide) [1, 2, 3, 0] (L' := [(0, .ref (w.2.1 30)), (1, .int x1), (2, .int v2_11), (3, .int y30)]) rfl ?_
        refine k_iconst C dX0_isSettled_31 (v := 0) rfl ?_
        refine k_istore C dX0_isSettled_32 (by decide) [1, 2, 3, 4, 0] (L' := [(0, .ref (w.2.1 30)), (1, .int x1), (2, .int v2_11), (3, .int y30), (4, .int (0 : Int32))]) rfl ?_
        obtain ⟨b34, eb34, h⟩ := k_lp_e h
        have K34 : ∀ (n : Nat) (v4_34 : Int32), k_loop b34 n v4_34 = some (r, σ') → k_K (k_PX w) X (k_MQ X (k_Qi (k_PX w) r σ') (k_PX w).2.2.1) 34 [(0, .ref (w.2.1 30)), (1, .int x1), (2, .int v2_11), (3, .int y30), (4, .int v4_34)] [] s6 := by
          intro n
          induction n with
          | zero => intro v4_34 h; cases h
          | succ n ih34 =>
            intro v4_34 h
            obtain ⟨g34, eg34, h⟩ := k_lp_s h
            rw [← eg34] at ih34
            rw [eb34] at h
            refine k_iload C dX0_isSettled_34 4 rfl ?_
            refine k_iconst C dX0_isSettled_36 (v := 4) rfl ?_
            refine k_icmp_ge C dX0_isSettled_37 (tgt := 63) (by decide) (fun c37 => ?_) (fun c37 => ?_)
            · replace h := k_if_t h c37
              refine k_iinc C dX0_isSettled_63 2 rfl (v := 1) rfl (by decide) [1, 2, 0, 3, 4] (L' := fun z9 => [(0, .ref (w.2.1 30)), (1, .int x1), (2, .int z9), (3, .int y30), (4, .int v4_34)]) (fun z9 => rfl) (fun y63 ey63 => ?_)
              replace h := k_nm_e h y63 ey63
              refine k_goto C dX0_isSettled_66 (tgt := 11) (by decide) ?_
              refine k_sub (L' := [(0, .ref (w.2.1 30)), (1, .int x1), (2, .int y63)]) [0, 1, 2] rfl ?_
              exact ih11 _ h
            · replace h := k_if_f h c37
              refine k_aload_n C dX0_isSettled_40 0 rfl ?_
              refine k_get C dX0_isSettled_41 (k_gX30_3 w) k_fX0_15 (Or.inl rfl) ?_
              refine k_iload_n C dX0_isSettled_44 2 rfl ?_
              refine k_iconst C dX0_isSettled_45 (v := 4) rfl ?_
              refine k_imul C dX0_isSettled_46 ?_
              refine k_iload C dX0_isSettled_47 4 rfl ?_
              refine k_iadd C dX0_isSettled_49 ?_
              obtain ⟨q50, h⟩ := k_gd_e h
              refine k_iald C dX0_isSettled_50 (k_aX32 w) q50 ?_
              refine k_iload_n C dX0_isSettled_51 3 rfl ?_
              refine k_icmp_le C dX0_isSettled_52 (tgt := 57) (by decide) (fun c52 => ?_) (fun c52 => ?_)
              · replace h := k_if_t h c52
                refine k_iinc C dX0_isSettled_57 4 rfl (v := 1) rfl (by decide) [1, 2, 3, 4, 0] (L' := fun z9 => [(0, .ref (w.2.1 30)), (1, .int x1), (2, .int v2_11), (3, .int y30), (4, .int z9)]) (fun z9 => rfl) (fun y57 ey57 => ?_)
                replace h := k_nm_e h y57 ey57
                refine k_goto C dX0_isSettled_60 (tgt := 34) (by decide) ?_
                exact ih34 _ h
              · replace h := k_if_f h c52
                refine k_iconst C dX0_isSettled_55 (v := 0) rfl ?_
                exact k_zret C dX0_isSettled_56 hr rfl (Option.some.inj h)
        exact K34 _ _ h
  exact K11 _ _ h
def f_X0_perceives (x1 : Int32) (x2 : Int32) (x3 : Int32) (x4 : Int32) (σ : k_St) : Option (Int32) :=
  k_jn (fun (t0_29 : Int32) =>
    k_if (t0_29 = (0 : Int32))
      (some (0 : Int32))
      (k_if (x1 = (0 : Int32))
        (some (1 : Int32))
        (k_bd (f_X1_seen x2 (k_rd σ 16 3) σ) fun v52 =>
        k_if (v52 = x4)
          (some (1 : Int32))
          (some (0 : Int32))))) fun j29 =>
  k_jn (fun (_ : Unit) =>
    j29 (1 : Int32)) fun j24 =>
  k_if (x1 = (1 : Int32))
    (j24 ())
    (k_bd (f_X1_heard x2 (k_rd σ 16 4) σ) fun v17 =>
    k_if (v17 = x3)
      (j24 ())
      (j29 (0 : Int32)))
set_option maxHeartbeats 4000000 in
set_option maxRecDepth 100000 in
theorem e_X0_perceives {l : Launch} {w : k_WC} {d : Nat} (hd : 4 ≤ d) {x1 : Int32} {x2 : Int32} {x3 : Int32} {x4 : Int32}  {σ : k_St} {r : Int32} (h : f_X0_perceives x1 x2 x3 x4 σ = some r) : k_EI l (k_PX w) yX0_perceives cX0_perceives 6 (some .boolean) d [.ref (w.2.1 30), .int x1, .int x2, .int x3, .int x4] σ r σ := by
  refine k_of (own := RX0) rfl (by decide) (Nat.le_of_ble_eq_true rfl) (fun X hX C hr => ?_)
  show k_K (k_PX w) X (k_MQ X (k_Qi (k_PX w) r σ) (k_PX w).2.2.1) 0 [(0, .ref (w.2.1 30)), (1, .int x1), (2, .int x2), (3, .int x3), (4, .int x4)] [] σ
  unfold f_X0_perceives at h
  refine k_iload_n C dX0_perceives_0 1 rfl ?_
  refine k_iconst C dX0_perceives_1 (v := 1) rfl ?_
  obtain ⟨j29, ej29, h⟩ := k_jn_e h
  have Jj29 : ∀ (t0_29 : Int32), j29 t0_29 = some r → k_K (k_PX w) X (k_MQ X (k_Qi (k_PX w) r σ) (k_PX w).2.2.1) 29 [(0, .ref (w.2.1 30)), (1, .int x1), (2, .int x2), (4, .int x4)] [.int t0_29] σ := by
    intro t0_29 h
    rw [ej29] at h
    refine k_istore C dX0_perceives_29 (by decide) [1, 2, 3, 4, 0] (L' := [(0, .ref (w.2.1 30)), (1, .int x1), (2, .int x2), (4, .int x4), (5, .int t0_29)]) rfl ?_
    refine k_iload C dX0_perceives_31 4 rfl ?_
    refine k_if_eq C dX0_perceives_33 (tgt := 64) (by decide) (fun c33 => ?_) (fun c33 => ?_)
    · replace h := k_if_t h c33
      refine k_iconst C dX0_perceives_64 (v := 0) rfl ?_
      exact k_zret C dX0_perceives_65 hr rfl (k_p1 h)
    · replace h := k_if_f h c33
      refine k_iload_n C dX0_perceives_36 1 rfl ?_
      refine k_if_eq C dX0_perceives_37 (tgt := 60) (by decide) (fun c37 => ?_) (fun c37 => ?_)
      · replace h := k_if_t h c37
        refine k_iconst C dX0_perceives_60 (v := 1) rfl ?_
        refine k_goto C dX0_perceives_61 (tgt := 65) (by decide) ?_
        exact k_zret C dX0_perceives_65 hr rfl (k_p1 h)
      · replace h := k_if_f h c37
        refine k_aload_n C dX0_perceives_40 0 rfl ?_
        refine k_get C dX0_perceives_41 (k_gX30_0 w) k_fX0_18 (Or.inl rfl) ?_
        refine k_iload_n C dX0_perceives_44 2 rfl ?_
        refine k_aload_n C dX0_perceives_45 0 rfl ?_
        refine k_get C dX0_perceives_46 (k_gX30_1 w) k_fX0_22 (Or.inl rfl) ?_
        refine k_get C dX0_perceives_49 (k_gX16_3 w) k_fX0_53 (Or.inl rfl) ?_
        obtain ⟨v52, h52, h⟩ := k_bd_e h
        refine k_goI (k_runV C dX0_perceives_52 (e_X1_seen (d := 3) (Nat.le_refl _) h52) k_lX0_26 k_yX1_seen (k_oX12 w) (by omega) rfl (Nat.le_of_ble_eq_true rfl)) ?_
        refine k_iload C dX0_perceives_55 3 rfl ?_
        refine k_icmp_ne C dX0_perceives_57 (tgt := 64) (by decide) (fun c57 => ?_) (fun c57 => ?_)
        · replace h := k_if_f h c57
          refine k_iconst C dX0_perceives_64 (v := 0) rfl ?_
          exact k_zret C dX0_perceives_65 hr rfl (k_p1 h)
        · replace h := k_if_t h c57
          refine k_iconst C dX0_perceives_60 (v := 1) rfl ?_
          refine k_goto C dX0_perceives_61 (tgt := 65) (by decide) ?_
          exact k_zret C dX0_perceives_65 hr rfl (k_p1 h)
  obtain ⟨j24, ej24, h⟩ := k_jn_e h
  have Jj24 : j24 () = some r → k_K (k_PX w) X (k_MQ X (k_Qi (k_PX w) r σ) (k_PX w).2.2.1) 24 [(0, .ref (w.2.1 30)), (1, .int x1), (2, .int x2), (4, .int x4)] [] σ := by
    intro  h
    rw [ej24] at h
    refine k_iconst C dX0_perceives_24 (v := 1) rfl ?_
    refine k_goto C dX0_perceives_25 (tgt := 29) (by decide) ?_
    exact Jj29 _ h
  refine k_icmp_eq C dX0_perceives_2 (tgt := 24) (by decide) (fun c2 => ?_) (fun c2 => ?_)
  · replace h := k_if_t h c2
    refine k_sub (L' := [(0, .ref (w.2.1 30)), (1, .int x1), (2, .int x2), (4, .int x4)]) [0, 1, 2, 4] rfl ?_
    exact Jj24 h
  · replace h := k_if_f h c2
    refine k_aload_n C dX0_perceives_5 0 rfl ?_
    refine k_get C dX0_perceives_6 (k_gX30_0 w) k_fX0_18 (Or.inl rfl) ?_
    refine k_iload_n C dX0_perceives_9 2 rfl ?_
    refine k_aload_n C dX0_perceives_10 0 rfl ?_
    refine k_get C dX0_perceives_11 (k_gX30_1 w) k_fX0_22 (Or.inl rfl) ?_
    refine k_get C dX0_perceives_14 (k_gX16_4 w) k_fX0_42 (Or.inl rfl) ?_
    obtain ⟨v17, h17, h⟩ := k_bd_e h
    refine k_goI (k_runV C dX0_perceives_17 (e_X1_heard (d := 3) (Nat.le_refl _) h17) k_lX0_46 k_yX1_heard (k_oX12 w) (by omega) rfl (Nat.le_of_ble_eq_true rfl)) ?_
    refine k_iload_n C dX0_perceives_20 3 rfl ?_
    refine k_icmp_ne C dX0_perceives_21 (tgt := 28) (by decide) (fun c21 => ?_) (fun c21 => ?_)
    · replace h := k_if_f h c21
      refine k_iconst C dX0_perceives_28 (v := 0) rfl ?_
      refine k_sub (L' := [(0, .ref (w.2.1 30)), (1, .int x1), (2, .int x2), (4, .int x4)]) [0, 1, 2, 4] rfl ?_
      exact Jj29 _ h
    · replace h := k_if_t h c21
      refine k_sub (L' := [(0, .ref (w.2.1 30)), (1, .int x1), (2, .int x2), (4, .int x4)]) [0, 1, 2, 4] rfl ?_
      exact Jj24 h
def f_X0_lonePlace (x1 : Int32) (x2 : Int32) (x3 : Int32) (σ : k_St) : Option (Int32) :=
  k_loop (fun (g9 : Int32 × Int32 × Int32 → Option (Int32)) (z9 : Int32 × Int32 × Int32) => match z9 with
    | (v4_9, v5_9, v6_9) =>
      k_if ((k_rd σ 12 0) ≤ v6_9)
        (some v5_9)
        (k_bd (f_X1_stakeOf v6_9 σ) fun v27 =>
        k_if (v27 ≤ v4_9)
          (k_nm (v6_9 + (1 : Int32)) fun y62 =>
          g9 (v4_9, v5_9, y62))
          (k_bd (f_X0_perceives x1 v6_9 x2 x3 σ) fun v41 =>
          k_if (v41 = (0 : Int32))
            (k_nm (v6_9 + (1 : Int32)) fun y62 =>
            g9 (v4_9, v5_9, y62))
            (k_bd (f_X1_stakeOf v6_9 σ) fun v53 =>
            k_nm (v6_9 + (1 : Int32)) fun y62 =>
            g9 (v53, v6_9, y62))))) 100000 ((0 : Int32), (0 : Int32), (0 : Int32))
set_option maxHeartbeats 4000000 in
set_option maxRecDepth 100000 in
theorem e_X0_lonePlace {l : Launch} {w : k_WC} {d : Nat} (hd : 5 ≤ d) {x1 : Int32} {x2 : Int32} {x3 : Int32}  {σ : k_St} {r : Int32} (h : f_X0_lonePlace x1 x2 x3 σ = some r) : k_EI l (k_PX w) yX0_lonePlace cX0_lonePlace 7 (some .int) d [.ref (w.2.1 30), .int x1, .int x2, .int x3] σ r σ := by
  refine k_of (own := RX0) rfl (by decide) (Nat.le_of_ble_eq_true rfl) (fun X hX C hr => ?_)
  show k_K (k_PX w) X (k_MQ X (k_Qi (k_PX w) r σ) (k_PX w).2.2.1) 0 [(0, .ref (w.2.1 30)), (1, .int x1), (2, .int x2), (3, .int x3)] [] σ
  unfold f_X0_lonePlace at h
  refine k_iconst C dX0_lonePlace_0 (v := 0) rfl ?_
  refine k_istore C dX0_lonePlace_1 (by decide) [1, 2, 3, 4, 0] (L' := [(0, .ref (w.2.1 30)), (1, .int x1), (2, .int x2), (3, .int x3), (4, .int (0 : Int32))]) rfl ?_
  refine k_iconst C dX0_lonePlace_3 (v := 0) rfl ?_
  refine k_istore C dX0_lonePlace_4 (by decide) [1, 2, 3, 4, 5, 0] (L' := [(0, .ref (w.2.1 30)), (1, .int x1), (2, .int x2), (3, .int x3), (4, .int (0 : Int32)), (5, .int (0 : Int32))]) rfl ?_
  refine k_iconst C dX0_lonePlace_6 (v := 0) rfl ?_
  refine k_istore C dX0_lonePlace_7 (by decide) [1, 2, 3, 4, 5, 6, 0] (L' := [(0, .ref (w.2.1 30)), (1, .int x1), (2, .int x2), (3, .int x3), (4, .int (0 : Int32)), (5, .int (0 : Int32)), (6, .int (0 : Int32))]) rfl ?_
  obtain ⟨b9, eb9, h⟩ := k_lp_e h
  have K9 : ∀ (n : Nat) (v4_9 : Int32) (v5_9 : Int32) (v6_9 : Int32), k_loop b9 n (v4_9, v5_9, v6_9) = some r → k_K (k_PX w) X (k_MQ X (k_Qi (k_PX w) r σ) (k_PX w).2.2.1) 9 [(0, .ref (w.2.1 30)), (1, .int x1), (2, .int x2), (3, .int x3), (4, .int v4_9), (5, .int v5_9), (6, .int v6_9)] [] σ := by
    intro n
    induction n with
    | zero => intro v4_9 v5_9 v6_9 h; cases h
    | succ n ih9 =>
      intro v4_9 v5_9 v6_9 h
      obtain ⟨g9, eg9, h⟩ := k_lp_s h
      rw [← eg9] at ih9
      rw [eb9] at h
      refine k_iload C dX0_lonePlace_9 6 rfl ?_
      refine k_aload_n C dX0_lonePlace_11 0 rfl ?_
      refine k_get C dX0_lonePlace_12 (k_gX30_0 w) k_fX0_18 (Or.inl rfl) ?_
      refine k_get C dX0_lonePlace_15 (k_gX12_0 w) k_fX0_64 (Or.inl rfl) ?_
      refine k_icmp_ge C dX0_lonePlace_18 (tgt := 68) (by decide) (fun c18 => ?_) (fun c18 => ?_)
      · replace h := k_if_t h c18
        refine k_iload C dX0_lonePlace_68 5 rfl ?_
        exact k_iret C dX0_lonePlace_70 hr (k_p1 h)
      · replace h := k_if_f h c18
        refine k_aload_n C dX0_lonePlace_21 0 rfl ?_
        refine k_get C dX0_lonePlace_22 (k_gX30_0 w) k_fX0_18 (Or.inl rfl) ?_
        refine k_iload C dX0_lonePlace_25 6 rfl ?_
        obtain ⟨v27, h27, h⟩ := k_bd_e h
        refine k_goI (k_runV C dX0_lonePlace_27 (e_X1_stakeOf (d := 2) (Nat.le_refl _) h27) k_lX0_67 k_yX1_stakeOf (k_oX12 w) (by omega) rfl (Nat.le_of_ble_eq_true rfl)) ?_
        refine k_iload C dX0_lonePlace_30 4 rfl ?_
        refine k_icmp_le C dX0_lonePlace_32 (tgt := 62) (by decide) (fun c32 => ?_) (fun c32 => ?_)
        · replace h := k_if_t h c32
          refine k_iinc C dX0_lonePlace_62 6 rfl (v := 1) rfl (by decide) [1, 2, 3, 4, 5, 6, 0] (L' := fun z9 => [(0, .ref (w.2.1 30)), (1, .int x1), (2, .int x2), (3, .int x3), (4, .int v4_9), (5, .int v5_9), (6, .int z9)]) (fun z9 => rfl) (fun y62 ey62 => ?_)
          replace h := k_nm_e h y62 ey62
          refine k_goto C dX0_lonePlace_65 (tgt := 9) (by decide) ?_
          exact ih9 _ _ _ h
        · replace h := k_if_f h c32
          refine k_aload_n C dX0_lonePlace_35 0 rfl ?_
          refine k_iload_n C dX0_lonePlace_36 1 rfl ?_
          refine k_iload C dX0_lonePlace_37 6 rfl ?_
          refine k_iload_n C dX0_lonePlace_39 2 rfl ?_
          refine k_iload_n C dX0_lonePlace_40 3 rfl ?_
          obtain ⟨v41, h41, h⟩ := k_bd_e h
          refine k_goI (k_runV C dX0_lonePlace_41 (e_X0_perceives (d := 4) (Nat.le_refl _) h41) k_lX0_104 k_yX0_perceives (k_oX30 w) (by omega) rfl (Nat.le_of_ble_eq_true rfl)) ?_
          refine k_if_eq C dX0_lonePlace_44 (tgt := 62) (by decide) (fun c44 => ?_) (fun c44 => ?_)
          · replace h := k_if_t h c44
            refine k_iinc C dX0_lonePlace_62 6 rfl (v := 1) rfl (by decide) [1, 2, 3, 4, 5, 6, 0] (L' := fun z9 => [(0, .ref (w.2.1 30)), (1, .int x1), (2, .int x2), (3, .int x3), (4, .int v4_9), (5, .int v5_9), (6, .int z9)]) (fun z9 => rfl) (fun y62 ey62 => ?_)
            replace h := k_nm_e h y62 ey62
            refine k_goto C dX0_lonePlace_65 (tgt := 9) (by decide) ?_
            exact ih9 _ _ _ h
          · replace h := k_if_f h c44
            refine k_aload_n C dX0_lonePlace_47 0 rfl ?_
            refine k_get C dX0_lonePlace_48 (k_gX30_0 w) k_fX0_18 (Or.inl rfl) ?_
            refine k_iload C dX0_lonePlace_51 6 rfl ?_
            obtain ⟨v53, h53, h⟩ := k_bd_e h
            refine k_goI (k_runV C dX0_lonePlace_53 (e_X1_stakeOf (d := 2) (Nat.le_refl _) h53) k_lX0_67 k_yX1_stakeOf (k_oX12 w) (by omega) rfl (Nat.le_of_ble_eq_true rfl)) ?_
            refine k_istore C dX0_lonePlace_56 (by decide) [1, 2, 3, 4, 0, 5, 6] (L' := [(0, .ref (w.2.1 30)), (1, .int x1), (2, .int x2), (3, .int x3), (4, .int v53), (5, .int v5_9), (6, .int v6_9)]) rfl ?_
            refine k_iload C dX0_lonePlace_58 6 rfl ?_
            refine k_istore C dX0_lonePlace_60 (by decide) [1, 2, 3, 4, 5, 0, 6] (L' := [(0, .ref (w.2.1 30)), (1, .int x1), (2, .int x2), (3, .int x3), (4, .int v53), (5, .int v6_9), (6, .int v6_9)]) rfl ?_
            refine k_iinc C dX0_lonePlace_62 6 rfl (v := 1) rfl (by decide) [1, 2, 3, 4, 5, 6, 0] (L' := fun z9 => [(0, .ref (w.2.1 30)), (1, .int x1), (2, .int x2), (3, .int x3), (4, .int v53), (5, .int v6_9), (6, .int z9)]) (fun z9 => rfl) (fun y62 ey62 => ?_)
            replace h := k_nm_e h y62 ey62
            refine k_goto C dX0_lonePlace_65 (tgt := 9) (by decide) ?_
            exact ih9 _ _ _ h
  exact K9 _ _ _ _ h
def f_X0_loneStake (x1 : Int32) (x2 : Int32) (x3 : Int32) (σ : k_St) : Option (Int32) :=
  k_bd (f_X0_lonePlace x1 x2 x3 σ) fun v4 =>
  k_bd (f_X0_perceives x1 v4 x2 x3 σ) fun v15 =>
  k_if (v15 = (0 : Int32))
    (some (0 : Int32))
    (k_bd (f_X1_stakeOf v4 σ) fun v27 =>
    some v27)
set_option maxHeartbeats 4000000 in
set_option maxRecDepth 100000 in
theorem e_X0_loneStake {l : Launch} {w : k_WC} {d : Nat} (hd : 6 ≤ d) {x1 : Int32} {x2 : Int32} {x3 : Int32}  {σ : k_St} {r : Int32} (h : f_X0_loneStake x1 x2 x3 σ = some r) : k_EI l (k_PX w) yX0_loneStake cX0_loneStake 5 (some .int) d [.ref (w.2.1 30), .int x1, .int x2, .int x3] σ r σ := by
  refine k_of (own := RX0) rfl (by decide) (Nat.le_of_ble_eq_true rfl) (fun X hX C hr => ?_)
  show k_K (k_PX w) X (k_MQ X (k_Qi (k_PX w) r σ) (k_PX w).2.2.1) 0 [(0, .ref (w.2.1 30)), (1, .int x1), (2, .int x2), (3, .int x3)] [] σ
  unfold f_X0_loneStake at h
  refine k_aload_n C dX0_loneStake_0 0 rfl ?_
  refine k_iload_n C dX0_loneStake_1 1 rfl ?_
  refine k_iload_n C dX0_loneStake_2 2 rfl ?_
  refine k_iload_n C dX0_loneStake_3 3 rfl ?_
  obtain ⟨v4, h4, h⟩ := k_bd_e h
  refine k_goI (k_runV C dX0_loneStake_4 (e_X0_lonePlace (d := 5) (Nat.le_refl _) h4) k_lX0_108 k_yX0_lonePlace (k_oX30 w) (by omega) rfl (Nat.le_of_ble_eq_true rfl)) ?_
  refine k_istore C dX0_loneStake_7 (by decide) [1, 2, 3, 4, 0] (L' := [(0, .ref (w.2.1 30)), (1, .int x1), (2, .int x2), (3, .int x3), (4, .int v4)]) rfl ?_
  refine k_aload_n C dX0_loneStake_9 0 rfl ?_
  refine k_iload_n C dX0_loneStake_10 1 rfl ?_
  refine k_iload C dX0_loneStake_11 4 rfl ?_
  refine k_iload_n C dX0_loneStake_13 2 rfl ?_
  refine k_iload_n C dX0_loneStake_14 3 rfl ?_
  obtain ⟨v15, h15, h⟩ := k_bd_e h
  refine k_goI (k_runV C dX0_loneStake_15 (e_X0_perceives (d := 4) (Nat.le_refl _) h15) k_lX0_104 k_yX0_perceives (k_oX30 w) (by omega) rfl (Nat.le_of_ble_eq_true rfl)) ?_
  refine k_if_eq C dX0_loneStake_18 (tgt := 33) (by decide) (fun c18 => ?_) (fun c18 => ?_)
  · replace h := k_if_t h c18
    refine k_iconst C dX0_loneStake_33 (v := 0) rfl ?_
    exact k_iret C dX0_loneStake_34 hr (k_p1 h)
  · replace h := k_if_f h c18
    refine k_aload_n C dX0_loneStake_21 0 rfl ?_
    refine k_get C dX0_loneStake_22 (k_gX30_0 w) k_fX0_18 (Or.inl rfl) ?_
    refine k_iload C dX0_loneStake_25 4 rfl ?_
    obtain ⟨v27, h27, h⟩ := k_bd_e h
    refine k_goI (k_runV C dX0_loneStake_27 (e_X1_stakeOf (d := 2) (Nat.le_refl _) h27) k_lX0_67 k_yX1_stakeOf (k_oX12 w) (by omega) rfl (Nat.le_of_ble_eq_true rfl)) ?_
    refine k_goto C dX0_loneStake_30 (tgt := 34) (by decide) ?_
    exact k_iret C dX0_loneStake_34 hr (k_p1 h)
def f_X2_toldPlaces  (σ : k_St) : Option (Int32) :=
  some (k_rd σ 3 6)
set_option maxHeartbeats 4000000 in
set_option maxRecDepth 100000 in
theorem e_X2_toldPlaces {l : Launch} {w : k_WC} {d : Nat} (hd : 2 ≤ d)   {σ : k_St} {r : Int32} (h : f_X2_toldPlaces σ = some r) : k_EI l (k_PX w) yX2_toldPlaces cX2_toldPlaces 1 (some .int) d [.ref (w.2.1 3)] σ r σ := by
  refine k_of (own := RX2) rfl (by decide) (Nat.le_of_ble_eq_true rfl) (fun X hX C hr => ?_)
  show k_K (k_PX w) X (k_MQ X (k_Qi (k_PX w) r σ) (k_PX w).2.2.1) 0 [(0, .ref (w.2.1 3))] [] σ
  unfold f_X2_toldPlaces at h
  refine k_aload_n C dX2_toldPlaces_0 0 rfl ?_
  refine k_get C dX2_toldPlaces_1 (k_gX3_6 w) k_fX2_18 (Or.inl rfl) ?_
  exact k_iret C dX2_toldPlaces_4 hr (k_p1 h)
def f_X2_toldSigns  (σ : k_St) : Option (Int32) :=
  k_gd (k_ix (0 : Int32) 2 = true) <|
  some (k_rd σ 6 (0 : Int32).toNatClampNeg)
set_option maxHeartbeats 4000000 in
set_option maxRecDepth 100000 in
theorem e_X2_toldSigns {l : Launch} {w : k_WC} {d : Nat} (hd : 2 ≤ d)   {σ : k_St} {r : Int32} (h : f_X2_toldSigns σ = some r) : k_EI l (k_PX w) yX2_toldSigns cX2_toldSigns 1 (some .int) d [.ref (w.2.1 3)] σ r σ := by
  refine k_of (own := RX2) rfl (by decide) (Nat.le_of_ble_eq_true rfl) (fun X hX C hr => ?_)
  show k_K (k_PX w) X (k_MQ X (k_Qi (k_PX w) r σ) (k_PX w).2.2.1) 0 [(0, .ref (w.2.1 3))] [] σ
  unfold f_X2_toldSigns at h
  refine k_aload_n C dX2_toldSigns_0 0 rfl ?_
  refine k_get C dX2_toldSigns_1 (k_gX3_5 w) k_fX2_15 (Or.inl rfl) ?_
  refine k_iconst C dX2_toldSigns_4 (v := 0) rfl ?_
  obtain ⟨q5, h⟩ := k_gd_e h
  refine k_iald C dX2_toldSigns_5 (k_aX6 w) q5 ?_
  exact k_iret C dX2_toldSigns_6 hr (k_p1 h)
def f_X2_toldItem (x1 : Int32) (x2 : Int32) (σ : k_St) : Option (Int32) :=
  k_bd (f_X11_within x1 (0 : Int32) (5 : Int32)) fun v3 =>
  k_jn (fun (t0_23 : Int32) =>
    k_if (t0_23 = (0 : Int32))
      (some (0 : Int32))
      (k_gd (k_ix ((x1 * (4 : Int32)) + x2) 24 = true) <|
      some (k_rd σ 5 ((x1 * (4 : Int32)) + x2).toNatClampNeg))) fun j23 =>
  k_jn (fun (_ : Unit) =>
    j23 (0 : Int32)) fun j22 =>
  k_if (v3 = (0 : Int32))
    (j22 ())
    (k_bd (f_X11_within x2 (0 : Int32) (3 : Int32)) fun v12 =>
    k_if (v12 = (0 : Int32))
      (j22 ())
      (j23 (1 : Int32)))
set_option maxHeartbeats 4000000 in
set_option maxRecDepth 100000 in
theorem e_X2_toldItem {l : Launch} {w : k_WC} {d : Nat} (hd : 3 ≤ d) {x1 : Int32} {x2 : Int32}  {σ : k_St} {r : Int32} (h : f_X2_toldItem x1 x2 σ = some r) : k_EI l (k_PX w) yX2_toldItem cX2_toldItem 4 (some .int) d [.ref (w.2.1 3), .int x1, .int x2] σ r σ := by
  refine k_of (own := RX2) rfl (by decide) (Nat.le_of_ble_eq_true rfl) (fun X hX C hr => ?_)
  show k_K (k_PX w) X (k_MQ X (k_Qi (k_PX w) r σ) (k_PX w).2.2.1) 0 [(0, .ref (w.2.1 3)), (1, .int x1), (2, .int x2)] [] σ
  unfold f_X2_toldItem at h
  refine k_iload_n C dX2_toldItem_0 1 rfl ?_
  refine k_iconst C dX2_toldItem_1 (v := 0) rfl ?_
  refine k_iconst C dX2_toldItem_2 (v := 5) rfl ?_
  obtain ⟨v3, h3, h⟩ := k_bd_e h
  refine k_goI (k_runSN C dX2_toldItem_3 (e_X11_within (d := 2) (Nat.le_refl _) h3) k_lX2_51 k_yX11_within (by omega) rfl (Nat.le_of_ble_eq_true rfl)) ?_
  obtain ⟨j23, ej23, h⟩ := k_jn_e h
  have Jj23 : ∀ (t0_23 : Int32), j23 t0_23 = some r → k_K (k_PX w) X (k_MQ X (k_Qi (k_PX w) r σ) (k_PX w).2.2.1) 23 [(0, .ref (w.2.1 3)), (1, .int x1), (2, .int x2)] [.int t0_23] σ := by
    intro t0_23 h
    rw [ej23] at h
    refine k_istore_n C dX2_toldItem_23 (by decide) [1, 2, 3, 0] (L' := [(0, .ref (w.2.1 3)), (1, .int x1), (2, .int x2), (3, .int t0_23)]) rfl ?_
    refine k_iload_n C dX2_toldItem_24 3 rfl ?_
    refine k_if_eq C dX2_toldItem_25 (tgt := 41) (by decide) (fun c25 => ?_) (fun c25 => ?_)
    · replace h := k_if_t h c25
      refine k_iconst C dX2_toldItem_41 (v := 0) rfl ?_
      exact k_iret C dX2_toldItem_42 hr (k_p1 h)
    · replace h := k_if_f h c25
      refine k_aload_n C dX2_toldItem_28 0 rfl ?_
      refine k_get C dX2_toldItem_29 (k_gX3_4 w) k_fX2_9 (Or.inl rfl) ?_
      refine k_iload_n C dX2_toldItem_32 1 rfl ?_
      refine k_iconst C dX2_toldItem_33 (v := 4) rfl ?_
      refine k_imul C dX2_toldItem_34 ?_
      refine k_iload_n C dX2_toldItem_35 2 rfl ?_
      refine k_iadd C dX2_toldItem_36 ?_
      obtain ⟨q37, h⟩ := k_gd_e h
      refine k_iald C dX2_toldItem_37 (k_aX5 w) q37 ?_
      refine k_goto C dX2_toldItem_38 (tgt := 42) (by decide) ?_
      exact k_iret C dX2_toldItem_42 hr (k_p1 h)
  obtain ⟨j22, ej22, h⟩ := k_jn_e h
  have Jj22 : j22 () = some r → k_K (k_PX w) X (k_MQ X (k_Qi (k_PX w) r σ) (k_PX w).2.2.1) 22 [(0, .ref (w.2.1 3)), (1, .int x1), (2, .int x2)] [] σ := by
    intro  h
    rw [ej22] at h
    refine k_iconst C dX2_toldItem_22 (v := 0) rfl ?_
    exact Jj23 _ h
  refine k_if_eq C dX2_toldItem_6 (tgt := 22) (by decide) (fun c6 => ?_) (fun c6 => ?_)
  · replace h := k_if_t h c6
    exact Jj22 h
  · replace h := k_if_f h c6
    refine k_iload_n C dX2_toldItem_9 2 rfl ?_
    refine k_iconst C dX2_toldItem_10 (v := 0) rfl ?_
    refine k_iconst C dX2_toldItem_11 (v := 3) rfl ?_
    obtain ⟨v12, h12, h⟩ := k_bd_e h
    refine k_goI (k_runSN C dX2_toldItem_12 (e_X11_within (d := 2) (Nat.le_refl _) h12) k_lX2_51 k_yX11_within (by omega) rfl (Nat.le_of_ble_eq_true rfl)) ?_
    refine k_if_eq C dX2_toldItem_15 (tgt := 22) (by decide) (fun c15 => ?_) (fun c15 => ?_)
    · replace h := k_if_t h c15
      exact Jj22 h
    · replace h := k_if_f h c15
      refine k_iconst C dX2_toldItem_18 (v := 1) rfl ?_
      refine k_goto C dX2_toldItem_19 (tgt := 23) (by decide) ?_
      exact Jj23 _ h
def f_X1_takeFrom  (σ : k_St) : Option (k_St) :=
  k_bd (f_X2_toldPlaces σ) fun v4 =>
  k_nm (k_wr σ 12 0 (o_min (6 : Int32) v4)) fun s10 =>
  k_bd (f_X2_toldSigns s10) fun v15 =>
  k_nm (k_wr s10 12 1 v15) fun s18 =>
  k_nm (k_wr s18 12 2 (0 : Int32)) fun s23 =>
  k_loop (fun (g28 : Int32 × k_St → Option (k_St)) (z28 : Int32 × k_St) => match z28 with
    | (v2_28, s_28) =>
      k_if ((k_rd s_28 12 0) ≤ v2_28)
        (some s_28)
        (k_loop (fun (g38 : Int32 × k_St → Option (k_St)) (z38 : Int32 × k_St) => match z38 with
          | (v3_38, s_38) =>
            k_if ((4 : Int32) ≤ v3_38)
              (k_bd (f_X2_toldItem v2_28 (0 : Int32) s_38) fun v73 =>
              k_nm (k_wr s_38 12 2 ((k_rd s_38 12 2) + v73)) fun s77 =>
              k_nm (v2_28 + (1 : Int32)) fun y80 =>
              g28 (y80, s77))
              (k_bd (f_X2_toldItem v2_28 v3_38 s_38) fun v55 =>
              k_gd (k_ix ((v2_28 * (4 : Int32)) + v3_38) 24 = true) <|
              k_nm (k_wr s_38 13 ((v2_28 * (4 : Int32)) + v3_38).toNatClampNeg v55) fun s58 =>
              k_nm (v3_38 + (1 : Int32)) fun y59 =>
              g38 (y59, s58))) 100000 ((0 : Int32), s_28))) 100000 ((0 : Int32), s23)
set_option maxHeartbeats 4000000 in
set_option maxRecDepth 100000 in
theorem e_X1_takeFrom {l : Launch} {w : k_WC} {d : Nat} (hd : 4 ≤ d)   {σ σ' : k_St} (h : f_X1_takeFrom σ = some σ') : k_EV l (k_PX w) yX1_takeFrom cX1_takeFrom 4 d [.ref (w.2.1 12), .ref (w.2.1 3)] σ σ' := by
  refine k_of (own := RX1) rfl (by decide) (Nat.le_of_ble_eq_true rfl) (fun X hX C hr => ?_)
  show k_K (k_PX w) X (k_MQ X (k_Qv (k_PX w) σ') (k_PX w).2.2.1) 0 [(0, .ref (w.2.1 12)), (1, .ref (w.2.1 3))] [] σ
  unfold f_X1_takeFrom at h
  refine k_aload_n C dX1_takeFrom_0 0 rfl ?_
  refine k_bipush C dX1_takeFrom_1 (v := 6) rfl ?_
  refine k_aload_n C dX1_takeFrom_3 1 rfl ?_
  obtain ⟨v4, h4, h⟩ := k_bd_e h
  refine k_goI (k_runV C dX1_takeFrom_4 (e_X2_toldPlaces (d := 2) (Nat.le_refl _) h4) k_lX1_31 k_yX2_toldPlaces (k_oX3 w) (by omega) rfl (Nat.le_of_ble_eq_true rfl)) ?_
  refine k_mmin C dX1_takeFrom_7 k_lX1_37 k_ym_min (by omega) (Nat.le_of_ble_eq_true rfl) ?_
  refine k_puti C dX1_takeFrom_10 (k_pX12_0 w) k_fX1_9 (Or.inl rfl) k_xi ?_
  refine k_st (fun s10 es10 => ?_)
  replace h := k_nm_e h s10 es10
  refine k_aload_n C dX1_takeFrom_13 0 rfl ?_
  refine k_aload_n C dX1_takeFrom_14 1 rfl ?_
  obtain ⟨v15, h15, h⟩ := k_bd_e h
  refine k_goI (k_runV C dX1_takeFrom_15 (e_X2_toldSigns (d := 2) (Nat.le_refl _) h15) k_lX1_43 k_yX2_toldSigns (k_oX3 w) (by omega) rfl (Nat.le_of_ble_eq_true rfl)) ?_
  refine k_puti C dX1_takeFrom_18 (k_pX12_1 w) k_fX1_15 (Or.inl rfl) k_xi ?_
  refine k_st (fun s18 es18 => ?_)
  replace h := k_nm_e h s18 es18
  refine k_aload_n C dX1_takeFrom_21 0 rfl ?_
  refine k_iconst C dX1_takeFrom_22 (v := 0) rfl ?_
  refine k_puti C dX1_takeFrom_23 (k_pX12_2 w) k_fX1_18 (Or.inl rfl) k_xi ?_
  refine k_st (fun s23 es23 => ?_)
  replace h := k_nm_e h s23 es23
  refine k_iconst C dX1_takeFrom_26 (v := 0) rfl ?_
  refine k_istore_n C dX1_takeFrom_27 (by decide) [1, 2, 0] (L' := [(0, .ref (w.2.1 12)), (1, .ref (w.2.1 3)), (2, .int (0 : Int32))]) rfl ?_
  obtain ⟨b28, eb28, h⟩ := k_lp_e h
  have K28 : ∀ (n : Nat) (v2_28 : Int32) (s_28 : k_St), k_loop b28 n (v2_28, s_28) = some σ' → k_K (k_PX w) X (k_MQ X (k_Qv (k_PX w) σ') (k_PX w).2.2.1) 28 [(0, .ref (w.2.1 12)), (1, .ref (w.2.1 3)), (2, .int v2_28)] [] s_28 := by
    intro n
    induction n with
    | zero => intro v2_28 s_28 h; cases h
    | succ n ih28 =>
      intro v2_28 s_28 h
      obtain ⟨g28, eg28, h⟩ := k_lp_s h
      rw [← eg28] at ih28
      rw [eb28] at h
      refine k_iload_n C dX1_takeFrom_28 2 rfl ?_
      refine k_aload_n C dX1_takeFrom_29 0 rfl ?_
      refine k_get C dX1_takeFrom_30 (k_gX12_0 w) k_fX1_9 (Or.inl rfl) ?_
      refine k_icmp_ge C dX1_takeFrom_33 (tgt := 86) (by decide) (fun c33 => ?_) (fun c33 => ?_)
      · replace h := k_if_t h c33
        exact k_vret C dX1_takeFrom_86 hr (Option.some.inj h)
      · replace h := k_if_f h c33
        refine k_iconst C dX1_takeFrom_36 (v := 0) rfl ?_
        refine k_istore_n C dX1_takeFrom_37 (by decide) [1, 2, 3, 0] (L' := [(0, .ref (w.2.1 12)), (1, .ref (w.2.1 3)), (2, .int v2_28), (3, .int (0 : Int32))]) rfl ?_
        obtain ⟨b38, eb38, h⟩ := k_lp_e h
        have K38 : ∀ (n : Nat) (v3_38 : Int32) (s_38 : k_St), k_loop b38 n (v3_38, s_38) = some σ' → k_K (k_PX w) X (k_MQ X (k_Qv (k_PX w) σ') (k_PX w).2.2.1) 38 [(0, .ref (w.2.1 12)), (1, .ref (w.2.1 3)), (2, .int v2_28), (3, .int v3_38)] [] s_38 := by
          intro n
          induction n with
          | zero => intro v3_38 s_38 h; cases h
          | succ n ih38 =>
            intro v3_38 s_38 h
            obtain ⟨g38, eg38, h⟩ := k_lp_s h
            rw [← eg38] at ih38
            rw [eb38] at h
            refine k_iload_n C dX1_takeFrom_38 3 rfl ?_
            refine k_iconst C dX1_takeFrom_39 (v := 4) rfl ?_
            refine k_icmp_ge C dX1_takeFrom_40 (tgt := 65) (by decide) (fun c40 => ?_) (fun c40 => ?_)
            · replace h := k_if_t h c40
              refine k_aload_n C dX1_takeFrom_65 0 rfl ?_
              refine k_dup C dX1_takeFrom_66 rfl ?_
              refine k_get C dX1_takeFrom_67 (k_gX12_2 w) k_fX1_18 (Or.inl rfl) ?_
              refine k_aload_n C dX1_takeFrom_70 1 rfl ?_
              refine k_iload_n C dX1_takeFrom_71 2 rfl ?_
              refine k_iconst C dX1_takeFrom_72 (v := 0) rfl ?_
              obtain ⟨v73, h73, h⟩ := k_bd_e h
              refine k_goI (k_runV C dX1_takeFrom_73 (e_X2_toldItem (d := 3) (Nat.le_refl _) h73) k_lX1_46 k_yX2_toldItem (k_oX3 w) (by omega) rfl (Nat.le_of_ble_eq_true rfl)) ?_
              refine k_iadd C dX1_takeFrom_76 ?_
              refine k_puti C dX1_takeFrom_77 (k_pX12_2 w) k_fX1_18 (Or.inl rfl) k_xi ?_
              refine k_st (fun s77 es77 => ?_)
              replace h := k_nm_e h s77 es77
              refine k_iinc C dX1_takeFrom_80 2 rfl (v := 1) rfl (by decide) [1, 2, 0, 3] (L' := fun z9 => [(0, .ref (w.2.1 12)), (1, .ref (w.2.1 3)), (2, .int z9), (3, .int v3_38)]) (fun z9 => rfl) (fun y80 ey80 => ?_)
              replace h := k_nm_e h y80 ey80
              refine k_goto C dX1_takeFrom_83 (tgt := 28) (by decide) ?_
              refine k_sub (L' := [(0, .ref (w.2.1 12)), (1, .ref (w.2.1 3)), (2, .int y80)]) [0, 1, 2] rfl ?_
              exact ih28 _ _ h
            · replace h := k_if_f h c40
              refine k_aload_n C dX1_takeFrom_43 0 rfl ?_
              refine k_get C dX1_takeFrom_44 (k_gX12_3 w) k_fX1_21 (Or.inl rfl) ?_
              refine k_iload_n C dX1_takeFrom_47 2 rfl ?_
              refine k_iconst C dX1_takeFrom_48 (v := 4) rfl ?_
              refine k_imul C dX1_takeFrom_49 ?_
              refine k_iload_n C dX1_takeFrom_50 3 rfl ?_
              refine k_iadd C dX1_takeFrom_51 ?_
              refine k_aload_n C dX1_takeFrom_52 1 rfl ?_
              refine k_iload_n C dX1_takeFrom_53 2 rfl ?_
              refine k_iload_n C dX1_takeFrom_54 3 rfl ?_
              obtain ⟨v55, h55, h⟩ := k_bd_e h
              refine k_goI (k_runV C dX1_takeFrom_55 (e_X2_toldItem (d := 3) (Nat.le_refl _) h55) k_lX1_46 k_yX2_toldItem (k_oX3 w) (by omega) rfl (Nat.le_of_ble_eq_true rfl)) ?_
              obtain ⟨q58, h⟩ := k_gd_e h
              refine k_iast C dX1_takeFrom_58 (k_aX13 w) q58 ?_
              refine k_st (fun s58 es58 => ?_)
              replace h := k_nm_e h s58 es58
              refine k_iinc C dX1_takeFrom_59 3 rfl (v := 1) rfl (by decide) [1, 2, 3, 0] (L' := fun z9 => [(0, .ref (w.2.1 12)), (1, .ref (w.2.1 3)), (2, .int v2_28), (3, .int z9)]) (fun z9 => rfl) (fun y59 ey59 => ?_)
              replace h := k_nm_e h y59 ey59
              refine k_goto C dX1_takeFrom_62 (tgt := 38) (by decide) ?_
              exact ih38 _ _ h
        exact K38 _ _ _ h
  exact K28 _ _ _ h
def f_X1_setWorth (x1 : Int32) (x2 : Int32) (σ : k_St) : Option (k_St) :=
  k_bd (f_X11_within x1 (0 : Int32) (5 : Int32)) fun v3 =>
  k_if (v3 = (0 : Int32))
    (some σ)
    (k_gd (k_ix x1 6 = true) <|
    k_nm (k_wr σ 14 x1.toNatClampNeg x2) fun s15 =>
    k_bd (f_X1_told x1 (0 : Int32) s15) fun v25 =>
    k_gd (k_ix x1 6 = true) <|
    k_nm (k_wr s15 15 x1.toNatClampNeg (x2 * v25)) fun s29 =>
    some s29)
set_option maxHeartbeats 4000000 in
set_option maxRecDepth 100000 in
theorem e_X1_setWorth {l : Launch} {w : k_WC} {d : Nat} (hd : 3 ≤ d) {x1 : Int32} {x2 : Int32}  {σ σ' : k_St} (h : f_X1_setWorth x1 x2 σ = some σ') : k_EV l (k_PX w) yX1_setWorth cX1_setWorth 3 d [.ref (w.2.1 12), .int x1, .int x2] σ σ' := by
  refine k_of (own := RX1) rfl (by decide) (Nat.le_of_ble_eq_true rfl) (fun X hX C hr => ?_)
  show k_K (k_PX w) X (k_MQ X (k_Qv (k_PX w) σ') (k_PX w).2.2.1) 0 [(0, .ref (w.2.1 12)), (1, .int x1), (2, .int x2)] [] σ
  unfold f_X1_setWorth at h
  refine k_iload_n C dX1_setWorth_0 1 rfl ?_
  refine k_iconst C dX1_setWorth_1 (v := 0) rfl ?_
  refine k_iconst C dX1_setWorth_2 (v := 5) rfl ?_
  obtain ⟨v3, h3, h⟩ := k_bd_e h
  refine k_goI (k_runSN C dX1_setWorth_3 (e_X11_within (d := 2) (Nat.le_refl _) h3) k_lX1_49 k_yX11_within (by omega) rfl (Nat.le_of_ble_eq_true rfl)) ?_
  refine k_if_eq C dX1_setWorth_6 (tgt := 30) (by decide) (fun c6 => ?_) (fun c6 => ?_)
  · replace h := k_if_t h c6
    exact k_vret C dX1_setWorth_30 hr (Option.some.inj h)
  · replace h := k_if_f h c6
    refine k_aload_n C dX1_setWorth_9 0 rfl ?_
    refine k_get C dX1_setWorth_10 (k_gX12_4 w) k_fX1_25 (Or.inl rfl) ?_
    refine k_iload_n C dX1_setWorth_13 1 rfl ?_
    refine k_iload_n C dX1_setWorth_14 2 rfl ?_
    obtain ⟨q15, h⟩ := k_gd_e h
    refine k_iast C dX1_setWorth_15 (k_aX14 w) q15 ?_
    refine k_st (fun s15 es15 => ?_)
    replace h := k_nm_e h s15 es15
    refine k_aload_n C dX1_setWorth_16 0 rfl ?_
    refine k_get C dX1_setWorth_17 (k_gX12_5 w) k_fX1_28 (Or.inl rfl) ?_
    refine k_iload_n C dX1_setWorth_20 1 rfl ?_
    refine k_iload_n C dX1_setWorth_21 2 rfl ?_
    refine k_aload_n C dX1_setWorth_22 0 rfl ?_
    refine k_iload_n C dX1_setWorth_23 1 rfl ?_
    refine k_iconst C dX1_setWorth_24 (v := 0) rfl ?_
    obtain ⟨v25, h25, h⟩ := k_bd_e h
    refine k_goI (k_runV C dX1_setWorth_25 (e_X1_told (d := 2) (Nat.le_refl _) h25) k_lX1_53 k_yX1_told (k_oX12 w) (by omega) rfl (Nat.le_of_ble_eq_true rfl)) ?_
    refine k_imul C dX1_setWorth_28 ?_
    obtain ⟨q29, h⟩ := k_gd_e h
    refine k_iast C dX1_setWorth_29 (k_aX15 w) q29 ?_
    refine k_st (fun s29 es29 => ?_)
    replace h := k_nm_e h s29 es29
    exact k_vret C dX1_setWorth_30 hr (Option.some.inj h)
def f_X1_worthOf (x1 : Int32) (σ : k_St) : Option (Int32) :=
  k_if (x1 < (0 : Int32))
    (some (0 : Int32))
    (k_if ((6 : Int32) ≤ x1)
      (some (0 : Int32))
      (k_gd (k_ix x1 6 = true) <|
      some (k_rd σ 14 x1.toNatClampNeg)))
set_option maxHeartbeats 4000000 in
set_option maxRecDepth 100000 in
theorem e_X1_worthOf {l : Launch} {w : k_WC} {d : Nat} (hd : 2 ≤ d) {x1 : Int32}  {σ : k_St} {r : Int32} (h : f_X1_worthOf x1 σ = some r) : k_EI l (k_PX w) yX1_worthOf cX1_worthOf 2 (some .int) d [.ref (w.2.1 12), .int x1] σ r σ := by
  refine k_of (own := RX1) rfl (by decide) (Nat.le_of_ble_eq_true rfl) (fun X hX C hr => ?_)
  show k_K (k_PX w) X (k_MQ X (k_Qi (k_PX w) r σ) (k_PX w).2.2.1) 0 [(0, .ref (w.2.1 12)), (1, .int x1)] [] σ
  unfold f_X1_worthOf at h
  refine k_iload_n C dX1_worthOf_0 1 rfl ?_
  refine k_if_lt C dX1_worthOf_1 (tgt := 19) (by decide) (fun c1 => ?_) (fun c1 => ?_)
  · replace h := k_if_t h c1
    refine k_iconst C dX1_worthOf_19 (v := 0) rfl ?_
    exact k_iret C dX1_worthOf_20 hr (k_p1 h)
  · replace h := k_if_f h c1
    refine k_iload_n C dX1_worthOf_4 1 rfl ?_
    refine k_bipush C dX1_worthOf_5 (v := 6) rfl ?_
    refine k_icmp_ge C dX1_worthOf_7 (tgt := 19) (by decide) (fun c7 => ?_) (fun c7 => ?_)
    · replace h := k_if_t h c7
      refine k_iconst C dX1_worthOf_19 (v := 0) rfl ?_
      exact k_iret C dX1_worthOf_20 hr (k_p1 h)
    · replace h := k_if_f h c7
      refine k_aload_n C dX1_worthOf_10 0 rfl ?_
      refine k_get C dX1_worthOf_11 (k_gX12_4 w) k_fX1_25 (Or.inl rfl) ?_
      refine k_iload_n C dX1_worthOf_14 1 rfl ?_
      obtain ⟨q15, h⟩ := k_gd_e h
      refine k_iald C dX1_worthOf_15 (k_aX14 w) q15 ?_
      refine k_goto C dX1_worthOf_16 (tgt := 20) (by decide) ?_
      exact k_iret C dX1_worthOf_20 hr (k_p1 h)
def f_X1_placeOfDraw (x1 : Int32) (σ : k_St) : Option (Int32) :=
  k_loop (fun (g4 : Int32 × Int32 → Option (Int32)) (z4 : Int32 × Int32) => match z4 with
    | (v2_4, v3_4) =>
      k_if ((k_rd σ 12 0) ≤ v3_4)
        (some (0 : Int32))
        (k_bd (f_X1_told v3_4 (0 : Int32) σ) fun v16 =>
        k_nm ((v2_4 - v16)) fun y20 =>
        k_if ((0 : Int32) ≤ y20)
          (k_nm (v3_4 + (1 : Int32)) fun y27 =>
          g4 (y20, y27))
          (some v3_4))) 100000 (x1, (0 : Int32))
set_option maxHeartbeats 4000000 in
set_option maxRecDepth 100000 in
theorem e_X1_placeOfDraw {l : Launch} {w : k_WC} {d : Nat} (hd : 3 ≤ d) {x1 : Int32}  {σ : k_St} {r : Int32} (h : f_X1_placeOfDraw x1 σ = some r) : k_EI l (k_PX w) yX1_placeOfDraw cX1_placeOfDraw 4 (some .int) d [.ref (w.2.1 12), .int x1] σ r σ := by
  refine k_of (own := RX1) rfl (by decide) (Nat.le_of_ble_eq_true rfl) (fun X hX C hr => ?_)
  show k_K (k_PX w) X (k_MQ X (k_Qi (k_PX w) r σ) (k_PX w).2.2.1) 0 [(0, .ref (w.2.1 12)), (1, .int x1)] [] σ
  unfold f_X1_placeOfDraw at h
  refine k_iload_n C dX1_placeOfDraw_0 1 rfl ?_
  refine k_istore_n C dX1_placeOfDraw_1 (by decide) [1, 2, 0] (L' := [(0, .ref (w.2.1 12)), (1, .int x1), (2, .int x1)]) rfl ?_
  refine k_iconst C dX1_placeOfDraw_2 (v := 0) rfl ?_
  refine k_istore_n C dX1_placeOfDraw_3 (by decide) [1, 2, 3, 0] (L' := [(0, .ref (w.2.1 12)), (1, .int x1), (2, .int x1), (3, .int (0 : Int32))]) rfl ?_
  obtain ⟨b4, eb4, h⟩ := k_lp_e h
  have K4 : ∀ (n : Nat) (v2_4 : Int32) (v3_4 : Int32), k_loop b4 n (v2_4, v3_4) = some r → k_K (k_PX w) X (k_MQ X (k_Qi (k_PX w) r σ) (k_PX w).2.2.1) 4 [(0, .ref (w.2.1 12)), (2, .int v2_4), (3, .int v3_4)] [] σ := by
    intro n
    induction n with
    | zero => intro v2_4 v3_4 h; cases h
    | succ n ih4 =>
      intro v2_4 v3_4 h
      obtain ⟨g4, eg4, h⟩ := k_lp_s h
      rw [← eg4] at ih4
      rw [eb4] at h
      refine k_iload_n C dX1_placeOfDraw_4 2 rfl ?_
      refine k_aload_n C dX1_placeOfDraw_5 0 rfl ?_
      refine k_get C dX1_placeOfDraw_6 (k_gX12_0 w) k_fX1_9 (Or.inl rfl) ?_
      refine k_icmp_ge C dX1_placeOfDraw_9 (tgt := 33) (by decide) (fun c9 => ?_) (fun c9 => ?_)
      · replace h := k_if_t h c9
        refine k_iconst C dX1_placeOfDraw_33 (v := 0) rfl ?_
        exact k_iret C dX1_placeOfDraw_34 hr (k_p1 h)
      · replace h := k_if_f h c9
        refine k_iload_n C dX1_placeOfDraw_12 1 rfl ?_
        refine k_aload_n C dX1_placeOfDraw_13 0 rfl ?_
        refine k_iload_n C dX1_placeOfDraw_14 2 rfl ?_
        refine k_iconst C dX1_placeOfDraw_15 (v := 0) rfl ?_
        obtain ⟨v16, h16, h⟩ := k_bd_e h
        refine k_goI (k_runV C dX1_placeOfDraw_16 (e_X1_told (d := 2) (Nat.le_refl _) h16) k_lX1_53 k_yX1_told (k_oX12 w) (by omega) rfl (Nat.le_of_ble_eq_true rfl)) ?_
        refine k_isub C dX1_placeOfDraw_19 ?_
        refine k_topi (fun y20 ey20 => ?_)
        replace h := k_nm_e h y20 ey20
        refine k_istore_n C dX1_placeOfDraw_20 (by decide) [1, 0, 2] (L' := [(0, .ref (w.2.1 12)), (2, .int y20), (3, .int v3_4)]) rfl ?_
        refine k_iload_n C dX1_placeOfDraw_21 1 rfl ?_
        refine k_if_ge C dX1_placeOfDraw_22 (tgt := 27) (by decide) (fun c22 => ?_) (fun c22 => ?_)
        · replace h := k_if_t h c22
          refine k_iinc C dX1_placeOfDraw_27 2 rfl (v := 1) rfl (by decide) [1, 2, 0] (L' := fun z9 => [(0, .ref (w.2.1 12)), (2, .int y20), (3, .int z9)]) (fun z9 => rfl) (fun y27 ey27 => ?_)
          replace h := k_nm_e h y27 ey27
          refine k_goto C dX1_placeOfDraw_30 (tgt := 4) (by decide) ?_
          exact ih4 _ _ h
        · replace h := k_if_f h c22
          refine k_iload_n C dX1_placeOfDraw_25 2 rfl ?_
          exact k_iret C dX1_placeOfDraw_26 hr (k_p1 h)
  refine k_sub (L' := [(0, .ref (w.2.1 12)), (2, .int x1), (3, .int (0 : Int32))]) [0, 2, 3] rfl ?_
  exact K4 _ _ _ h
def f_X2_readItems (i1 : Nat) (u2 : Nat) (u3 : Nat) (a4 : Nat) (x5 : Int32) (σ : k_St) : Option (k_St) :=
  k_loop (fun (g6 : Int32 × Int32 × k_St → Option (k_St)) (z6 : Int32 × Int32 × k_St) => match z6 with
    | (v6_6, v7_6, s_6) =>
      k_if ((160 : Int32) < v7_6)
        (some s_6)
        (k_b2 (f_X3_next 3 s_6) fun v15 s15 =>
        k_if (v15 = (-2 : Int32))
          (some s15)
          (k_if (v15 = (59 : Int32))
            (some s15)
            (k_bd (f_J0_indexOf_0f7a4 i1 (o_i2c v15) s15) fun v39 =>
            k_bd (f_X11_within v39 (0 : Int32) ((Int32.ofNat (su_n u2)) - (1 : Int32))) fun v51 =>
            k_jn (fun (t0_86 : Int32) =>
              k_jn (fun (_ : Unit) =>
                k_bd (f_X3_fail 3 s15) fun s104 =>
                some s104) fun j103 =>
              k_if (t0_86 = (0 : Int32))
                (j103 ())
                (k_if ((v6_6 &&& (o_shl (1 : Int32) v39)) = (0 : Int32))
                  (k_nm ((v6_6 ||| (o_shl (1 : Int32) v39))) fun y115 =>
                  k_bd (f_X3_pass 3 s15) fun s118 =>
                  k_gd (k_ix v39 (su_n u2) = true) <|
                  k_gd (k_ix v39 (su_n u3) = true) <|
                  k_b2 (f_X3_number 3 (2 : Int32) (su_v u2 v39.toNatClampNeg) (su_v u3 v39.toNatClampNeg) s118) fun v138 s138 =>
                  k_gd (k_ix (x5 + v39) (k_nX a4) = true) <|
                  k_nm (k_wr s138 a4 (x5 + v39).toNatClampNeg v138) fun s141 =>
                  k_bd (f_X3_failed 3 s141) fun v143 =>
                  k_if (v143 = (0 : Int32))
                    (k_nm (v7_6 + (1 : Int32)) fun y150 =>
                    g6 (y115, y150, s141))
                    (some s141))
                  (j103 ()))) fun j86 =>
            k_jn (fun (_ : Unit) =>
              j86 (0 : Int32)) fun j85 =>
            k_if (v51 = (0 : Int32))
              (j85 ())
              (k_if ((Int32.ofNat (su_n u3)) ≤ v39)
                (j85 ())
                (k_bd (f_X11_within (x5 + v39) (0 : Int32) ((Int32.ofNat (k_nX a4)) - (1 : Int32))) fun v75 =>
                k_if (v75 = (0 : Int32))
                  (j85 ())
                  (j86 (1 : Int32)))))))) 100000 ((0 : Int32), (0 : Int32), σ)
set_option maxHeartbeats 4000000 in
set_option maxRecDepth 100000 in
theorem e_X2_readItems {l : Launch} {w : k_WC} {d : Nat} (hd : 6 ≤ d) {i1 : Nat} {u2 : Nat} {u3 : Nat} {a4 : Nat} {x5 : Int32} (hi1 : i1 < 3) (hu2 : u2 < 4) (hu3 : u3 < 4) (ha4 : k_AI (k_PX w) .int a4 (w.2.1 a4) (k_nX a4)) {σ σ' : k_St} (h : f_X2_readItems i1 u2 u3 a4 x5 σ = some σ') : k_EV l (k_PX w) yX2_readItems cX2_readItems 11 d [.ref (w.2.1 3), .ref (w.2.2.2.2.2 i1), .ref (w.2.2.2.2.2 (u2 + 6)), .ref (w.2.2.2.2.2 (u3 + 6)), .ref (w.2.1 a4), .int x5] σ σ' := by
  refine k_of (own := RX2) rfl (by decide) (Nat.le_of_ble_eq_true rfl) (fun X hX C hr => ?_)
  show k_K (k_PX w) X (k_MQ X (k_Qv (k_PX w) σ') (k_PX w).2.2.1) 0 [(0, .ref (w.2.1 3)), (1, .ref (w.2.2.2.2.2 i1)), (2, .ref (w.2.2.2.2.2 (u2 + 6))), (3, .ref (w.2.2.2.2.2 (u3 + 6))), (4, .ref (w.2.1 a4)), (5, .int x5)] [] σ
  unfold f_X2_readItems at h
  refine k_iconst C dX2_readItems_0 (v := 0) rfl ?_
  refine k_istore C dX2_readItems_1 (by decide) [1, 2, 3, 4, 5, 6, 0] (L' := [(0, .ref (w.2.1 3)), (1, .ref (w.2.2.2.2.2 i1)), (2, .ref (w.2.2.2.2.2 (u2 + 6))), (3, .ref (w.2.2.2.2.2 (u3 + 6))), (4, .ref (w.2.1 a4)), (5, .int x5), (6, .int (0 : Int32))]) rfl ?_
  refine k_iconst C dX2_readItems_3 (v := 0) rfl ?_
  refine k_istore C dX2_readItems_4 (by decide) [1, 2, 3, 4, 5, 6, 7, 0] (L' := [(0, .ref (w.2.1 3)), (1, .ref (w.2.2.2.2.2 i1)), (2, .ref (w.2.2.2.2.2 (u2 + 6))), (3, .ref (w.2.2.2.2.2 (u3 + 6))), (4, .ref (w.2.1 a4)), (5, .int x5), (6, .int (0 : Int32)), (7, .int (0 : Int32))]) rfl ?_
  obtain ⟨b6, eb6, h⟩ := k_lp_e h
  have K6 : ∀ (n : Nat) (v6_6 : Int32) (v7_6 : Int32) (s_6 : k_St), k_loop b6 n (v6_6, v7_6, s_6) = some σ' → k_K (k_PX w) X (k_MQ X (k_Qv (k_PX w) σ') (k_PX w).2.2.1) 6 [(0, .ref (w.2.1 3)), (1, .ref (w.2.2.2.2.2 i1)), (2, .ref (w.2.2.2.2.2 (u2 + 6))), (3, .ref (w.2.2.2.2.2 (u3 + 6))), (4, .ref (w.2.1 a4)), (5, .int x5), (6, .int v6_6), (7, .int v7_6)] [] s_6 := by
    intro n
    induction n with
    | zero => intro v6_6 v7_6 s_6 h; cases h
    | succ n ih6 =>
      intro v6_6 v7_6 s_6 h
      obtain ⟨g6, eg6, h⟩ := k_lp_s h
      rw [← eg6] at ih6
      rw [eb6] at h
      refine k_iload C dX2_readItems_6 7 rfl ?_
      refine k_sipush C dX2_readItems_8 (v := 160) rfl ?_
      refine k_icmp_gt C dX2_readItems_11 (tgt := 156) (by decide) (fun c11 => ?_) (fun c11 => ?_)
      · replace h := k_if_t h c11
        exact k_vret C dX2_readItems_156 hr (Option.some.inj h)
      · replace h := k_if_f h c11
        refine k_aload_n C dX2_readItems_14 0 rfl ?_
        obtain ⟨v15, s15, h15, h⟩ := k_b2_e h
        refine k_goI (k_runU C dX2_readItems_15 (e_X3_next_3 (d := 2) (Nat.le_refl _) h15) k_lX2_85 rfl k_yX3_next (k_oX3 w) (by omega) rfl (Nat.le_of_ble_eq_true rfl)) ?_
        refine k_istore C dX2_readItems_18 (by decide) [1, 2, 3, 4, 5, 6, 7, 8, 0] (L' := [(0, .ref (w.2.1 3)), (1, .ref (w.2.2.2.2.2 i1)), (2, .ref (w.2.2.2.2.2 (u2 + 6))), (3, .ref (w.2.2.2.2.2 (u3 + 6))), (4, .ref (w.2.1 a4)), (5, .int x5), (6, .int v6_6), (7, .int v7_6), (8, .int v15)]) rfl ?_
        refine k_iload C dX2_readItems_20 8 rfl ?_
        refine k_bipush C dX2_readItems_22 (v := -2) rfl ?_
        refine k_icmp_eq C dX2_readItems_24 (tgt := 34) (by decide) (fun c24 => ?_) (fun c24 => ?_)
        · replace h := k_if_t h c24
          exact k_vret C dX2_readItems_34 hr (Option.some.inj h)
        · replace h := k_if_f h c24
          refine k_iload C dX2_readItems_27 8 rfl ?_
          refine k_bipush C dX2_readItems_29 (v := 59) rfl ?_
          refine k_icmp_ne C dX2_readItems_31 (tgt := 35) (by decide) (fun c31 => ?_) (fun c31 => ?_)
          · replace h := k_if_f h c31
            refine k_aload_n C dX2_readItems_35 1 rfl ?_
            refine k_iload C dX2_readItems_36 8 rfl ?_
            refine k_i2c C dX2_readItems_38 ?_
            obtain ⟨v39, h39, h⟩ := k_bd_e h
            refine k_goI (k_runVS C dX2_readItems_39 (e_J0_indexOf_0f7a4 (d := 5) (Nat.le_refl _) hi1 h39) hi1 k_lX2_100 k_yJ0_indexOf_0f7a4 (by omega) rfl (Nat.le_of_ble_eq_true rfl)) ?_
            refine k_istore C dX2_readItems_42 (by decide) [1, 2, 3, 4, 5, 6, 7, 8, 9, 0] (L' := [(0, .ref (w.2.1 3)), (1, .ref (w.2.2.2.2.2 i1)), (2, .ref (w.2.2.2.2.2 (u2 + 6))), (3, .ref (w.2.2.2.2.2 (u3 + 6))), (4, .ref (w.2.1 a4)), (5, .int x5), (6, .int v6_6), (7, .int v7_6), (8, .int v15), (9, .int v39)]) rfl ?_
            refine k_iload C dX2_readItems_44 9 rfl ?_
            refine k_iconst C dX2_readItems_46 (v := 0) rfl ?_
            refine k_aload_n C dX2_readItems_47 2 rfl ?_
            refine k_tulen C dX2_readItems_48 hu2 ?_
            refine k_iconst C dX2_readItems_49 (v := 1) rfl ?_
            refine k_isub C dX2_readItems_50 ?_
            obtain ⟨v51, h51, h⟩ := k_bd_e h
            refine k_goI (k_runSN C dX2_readItems_51 (e_X11_within (d := 2) (Nat.le_refl _) h51) k_lX2_51 k_yX11_within (by omega) rfl (Nat.le_of_ble_eq_true rfl)) ?_
            obtain ⟨j86, ej86, h⟩ := k_jn_e h
            have Jj86 : ∀ (t0_86 : Int32), j86 t0_86 = some σ' → k_K (k_PX w) X (k_MQ X (k_Qv (k_PX w) σ') (k_PX w).2.2.1) 86 [(0, .ref (w.2.1 3)), (1, .ref (w.2.2.2.2.2 i1)), (2, .ref (w.2.2.2.2.2 (u2 + 6))), (3, .ref (w.2.2.2.2.2 (u3 + 6))), (4, .ref (w.2.1 a4)), (5, .int x5), (6, .int v6_6), (7, .int v7_6), (9, .int v39)] [.int t0_86] s15 := by
              intro t0_86 h
              rw [ej86] at h
              refine k_istore C dX2_readItems_86 (by decide) [1, 2, 3, 4, 5, 6, 7, 8, 9, 0] (L' := [(0, .ref (w.2.1 3)), (1, .ref (w.2.2.2.2.2 i1)), (2, .ref (w.2.2.2.2.2 (u2 + 6))), (3, .ref (w.2.2.2.2.2 (u3 + 6))), (4, .ref (w.2.1 a4)), (5, .int x5), (6, .int v6_6), (7, .int v7_6), (9, .int v39), (10, .int t0_86)]) rfl ?_
              refine k_iload C dX2_readItems_88 9 rfl ?_
              obtain ⟨j103, ej103, h⟩ := k_jn_e h
              have Jj103 : j103 () = some σ' → k_K (k_PX w) X (k_MQ X (k_Qv (k_PX w) σ') (k_PX w).2.2.1) 103 [(0, .ref (w.2.1 3))] [] s15 := by
                intro  h
                rw [ej103] at h
                refine k_aload_n C dX2_readItems_103 0 rfl ?_
                obtain ⟨s104, h104, h⟩ := k_bd_e h
                refine k_goV (k_runU C dX2_readItems_104 (e_X3_fail_3 (d := 3) (Nat.le_refl _) h104) k_lX2_78 rfl k_yX3_fail (k_oX3 w) (by omega) rfl (Nat.le_of_ble_eq_true rfl)) ?_
                exact k_vret C dX2_readItems_107 hr (Option.some.inj h)
              refine k_if_eq C dX2_readItems_90 (tgt := 103) (by decide) (fun c90 => ?_) (fun c90 => ?_)
              · replace h := k_if_t h c90
                refine k_sub (L' := [(0, .ref (w.2.1 3))]) [0] rfl ?_
                exact Jj103 h
              · replace h := k_if_f h c90
                refine k_iload C dX2_readItems_93 6 rfl ?_
                refine k_iconst C dX2_readItems_95 (v := 1) rfl ?_
                refine k_iload C dX2_readItems_96 8 rfl ?_
                refine k_ishl C dX2_readItems_98 ?_
                refine k_iand C dX2_readItems_99 ?_
                refine k_if_eq C dX2_readItems_100 (tgt := 108) (by decide) (fun c100 => ?_) (fun c100 => ?_)
                · replace h := k_if_t h c100
                  refine k_iload C dX2_readItems_108 6 rfl ?_
                  refine k_iconst C dX2_readItems_110 (v := 1) rfl ?_
                  refine k_iload C dX2_readItems_111 8 rfl ?_
                  refine k_ishl C dX2_readItems_113 ?_
                  refine k_ior C dX2_readItems_114 ?_
                  refine k_topi (fun y115 ey115 => ?_)
                  replace h := k_nm_e h y115 ey115
                  refine k_istore C dX2_readItems_115 (by decide) [1, 2, 3, 4, 5, 6, 0, 7, 8, 9] (L' := [(0, .ref (w.2.1 3)), (1, .ref (w.2.2.2.2.2 i1)), (2, .ref (w.2.2.2.2.2 (u2 + 6))), (3, .ref (w.2.2.2.2.2 (u3 + 6))), (4, .ref (w.2.1 a4)), (5, .int x5), (6, .int y115), (7, .int v7_6), (9, .int v39), (10, .int t0_86)]) rfl ?_
                  refine k_aload_n C dX2_readItems_117 0 rfl ?_
                  obtain ⟨s118, h118, h⟩ := k_bd_e h
                  refine k_goV (k_runU C dX2_readItems_118 (e_X3_pass_3 (d := 2) (Nat.le_refl _) h118) k_lX2_106 rfl k_yX3_pass (k_oX3 w) (by omega) rfl (Nat.le_of_ble_eq_true rfl)) ?_
                  refine k_aload C dX2_readItems_121 4 rfl ?_
                  refine k_iload C dX2_readItems_123 5 rfl ?_
                  refine k_iload C dX2_readItems_125 8 rfl ?_
                  refine k_iadd C dX2_readItems_127 ?_
                  refine k_aload_n C dX2_readItems_128 0 rfl ?_
                  refine k_iconst C dX2_readItems_129 (v := 2) rfl ?_
                  refine k_aload_n C dX2_readItems_130 2 rfl ?_
                  refine k_iload C dX2_readItems_131 8 rfl ?_
                  obtain ⟨q133, h⟩ := k_gd_e h
                  refine k_tui C dX2_readItems_133 hu2 q133 ?_
                  refine k_aload_n C dX2_readItems_134 3 rfl ?_
                  refine k_iload C dX2_readItems_135 8 rfl ?_
                  obtain ⟨q137, h⟩ := k_gd_e h
                  refine k_tui C dX2_readItems_137 hu3 q137 ?_
                  obtain ⟨v138, s138, h138, h⟩ := k_b2_e h
                  refine k_goI (k_runU C dX2_readItems_138 (e_X3_number_3 (d := 3) (Nat.le_refl _) h138) k_lX2_109 rfl k_yX3_number (k_oX3 w) (by omega) rfl (Nat.le_of_ble_eq_true rfl)) ?_
                  obtain ⟨q141, h⟩ := k_gd_e h
                  refine k_iast C dX2_readItems_141 ha4 q141 ?_
                  refine k_st (fun s141 es141 => ?_)
                  replace h := k_nm_e h s141 es141
                  refine k_aload_n C dX2_readItems_142 0 rfl ?_
                  obtain ⟨v143, h143, h⟩ := k_bd_e h
                  refine k_goI (k_runU C dX2_readItems_143 (e_X3_failed_3 (d := 2) (Nat.le_refl _) h143) k_lX2_81 rfl k_yX3_failed (k_oX3 w) (by omega) rfl (Nat.le_of_ble_eq_true rfl)) ?_
                  refine k_if_eq C dX2_readItems_146 (tgt := 150) (by decide) (fun c146 => ?_) (fun c146 => ?_)
                  · replace h := k_if_t h c146
                    refine k_iinc C dX2_readItems_150 7 rfl (v := 1) rfl (by decide) [1, 2, 3, 4, 5, 6, 7, 0, 8, 9] (L' := fun z9 => [(0, .ref (w.2.1 3)), (1, .ref (w.2.2.2.2.2 i1)), (2, .ref (w.2.2.2.2.2 (u2 + 6))), (3, .ref (w.2.2.2.2.2 (u3 + 6))), (4, .ref (w.2.1 a4)), (5, .int x5), (6, .int y115), (7, .int z9), (9, .int v39), (10, .int t0_86)]) (fun z9 => rfl) (fun y150 ey150 => ?_)
                    replace h := k_nm_e h y150 ey150
                    refine k_goto C dX2_readItems_153 (tgt := 6) (by decide) ?_
                    refine k_sub (L' := [(0, .ref (w.2.1 3)), (1, .ref (w.2.2.2.2.2 i1)), (2, .ref (w.2.2.2.2.2 (u2 + 6))), (3, .ref (w.2.2.2.2.2 (u3 + 6))), (4, .ref (w.2.1 a4)), (5, .int x5), (6, .int y115), (7, .int y150)]) [0, 1, 2, 3, 4, 5, 6, 7] rfl ?_
                    exact ih6 _ _ _ h
                  · replace h := k_if_f h c146
                    exact k_vret C dX2_readItems_149 hr (Option.some.inj h)
                · replace h := k_if_f h c100
                  refine k_sub (L' := [(0, .ref (w.2.1 3))]) [0] rfl ?_
                  exact Jj103 h
            obtain ⟨j85, ej85, h⟩ := k_jn_e h
            have Jj85 : j85 () = some σ' → k_K (k_PX w) X (k_MQ X (k_Qv (k_PX w) σ') (k_PX w).2.2.1) 85 [(0, .ref (w.2.1 3)), (1, .ref (w.2.2.2.2.2 i1)), (2, .ref (w.2.2.2.2.2 (u2 + 6))), (3, .ref (w.2.2.2.2.2 (u3 + 6))), (4, .ref (w.2.1 a4)), (5, .int x5), (6, .int v6_6), (7, .int v7_6), (9, .int v39)] [] s15 := by
              intro  h
              rw [ej85] at h
              refine k_iconst C dX2_readItems_85 (v := 0) rfl ?_
              exact Jj86 _ h
            refine k_if_eq C dX2_readItems_54 (tgt := 85) (by decide) (fun c54 => ?_) (fun c54 => ?_)
            · replace h := k_if_t h c54
              refine k_sub (L' := [(0, .ref (w.2.1 3)), (1, .ref (w.2.2.2.2.2 i1)), (2, .ref (w.2.2.2.2.2 (u2 + 6))), (3, .ref (w.2.2.2.2.2 (u3 + 6))), (4, .ref (w.2.1 a4)), (5, .int x5), (6, .int v6_6), (7, .int v7_6), (9, .int v39)]) [0, 1, 2, 3, 4, 5, 6, 7, 9] rfl ?_
              exact Jj85 h
            · replace h := k_if_f h c54
              refine k_iload C dX2_readItems_57 9 rfl ?_
              refine k_aload_n C dX2_readItems_59 3 rfl ?_
              refine k_tulen C dX2_readItems_60 hu3 ?_
              refine k_icmp_ge C dX2_readItems_61 (tgt := 85) (by decide) (fun c61 => ?_) (fun c61 => ?_)
              · replace h := k_if_t h c61
                refine k_sub (L' := [(0, .ref (w.2.1 3)), (1, .ref (w.2.2.2.2.2 i1)), (2, .ref (w.2.2.2.2.2 (u2 + 6))), (3, .ref (w.2.2.2.2.2 (u3 + 6))), (4, .ref (w.2.1 a4)), (5, .int x5), (6, .int v6_6), (7, .int v7_6), (9, .int v39)]) [0, 1, 2, 3, 4, 5, 6, 7, 9] rfl ?_
                exact Jj85 h
              · replace h := k_if_f h c61
                refine k_iload C dX2_readItems_64 5 rfl ?_
                refine k_iload C dX2_readItems_66 9 rfl ?_
                refine k_iadd C dX2_readItems_68 ?_
                refine k_iconst C dX2_readItems_69 (v := 0) rfl ?_
                refine k_aload C dX2_readItems_70 4 rfl ?_
                refine k_alen C dX2_readItems_72 ha4 rfl ?_
                refine k_iconst C dX2_readItems_73 (v := 1) rfl ?_
                refine k_isub C dX2_readItems_74 ?_
                obtain ⟨v75, h75, h⟩ := k_bd_e h
                refine k_goI (k_runSN C dX2_readItems_75 (e_X11_within (d := 2) (Nat.le_refl _) h75) k_lX2_51 k_yX11_within (by omega) rfl (Nat.le_of_ble_eq_true rfl)) ?_
                refine k_if_eq C dX2_readItems_78 (tgt := 85) (by decide) (fun c78 => ?_) (fun c78 => ?_)
                · replace h := k_if_t h c78
                  refine k_sub (L' := [(0, .ref (w.2.1 3)), (1, .ref (w.2.2.2.2.2 i1)), (2, .ref (w.2.2.2.2.2 (u2 + 6))), (3, .ref (w.2.2.2.2.2 (u3 + 6))), (4, .ref (w.2.1 a4)), (5, .int x5), (6, .int v6_6), (7, .int v7_6), (9, .int v39)]) [0, 1, 2, 3, 4, 5, 6, 7, 9] rfl ?_
                  exact Jj85 h
                · replace h := k_if_f h c78
                  refine k_iconst C dX2_readItems_81 (v := 1) rfl ?_
                  refine k_goto C dX2_readItems_82 (tgt := 86) (by decide) ?_
                  refine k_sub (L' := [(0, .ref (w.2.1 3)), (1, .ref (w.2.2.2.2.2 i1)), (2, .ref (w.2.2.2.2.2 (u2 + 6))), (3, .ref (w.2.2.2.2.2 (u3 + 6))), (4, .ref (w.2.1 a4)), (5, .int x5), (6, .int v6_6), (7, .int v7_6), (9, .int v39)]) [0, 1, 2, 3, 4, 5, 6, 7, 9] rfl ?_
                  exact Jj86 _ h
          · replace h := k_if_t h c31
            exact k_vret C dX2_readItems_34 hr (Option.some.inj h)
  exact K6 _ _ _ _ h
def f_X2_readPlace  (σ : k_St) : Option (k_St) :=
  k_nm (((k_rd σ 3 6) * (4 : Int32))) fun y6 =>
  k_if (y6 ≤ ((24 : Int32) - (4 : Int32)))
    (k_gd (k_ix (y6 + (0 : Int32)) 24 = true) <|
    k_nm (k_wr σ 5 (y6 + (0 : Int32)).toNatClampNeg (1 : Int32)) fun s31 =>
    k_gd (k_ix (y6 + (1 : Int32)) 24 = true) <|
    k_nm (k_wr s31 5 (y6 + (1 : Int32)).toNatClampNeg (0 : Int32)) fun s40 =>
    k_gd (k_ix (y6 + (2 : Int32)) 24 = true) <|
    k_nm (k_wr s40 5 (y6 + (2 : Int32)).toNatClampNeg (0 : Int32)) fun s49 =>
    k_gd (k_ix (y6 + (3 : Int32)) 24 = true) <|
    k_nm (k_wr s49 5 (y6 + (3 : Int32)).toNatClampNeg (10 : Int32)) fun s59 =>
    k_nm (k_wr s59 3 6 ((k_rd s59 3 6) + (1 : Int32))) fun s67 =>
    k_bd (f_X2_readItems 0 0 1 5 y6 s67) fun s84 =>
    some s84)
    (k_bd (f_X3_fail 3 σ) fun s19 =>
    some s19)
set_option maxHeartbeats 4000000 in
set_option maxRecDepth 100000 in
theorem e_X2_readPlace {l : Launch} {w : k_WC} {d : Nat} (hd : 7 ≤ d)   {σ σ' : k_St} (h : f_X2_readPlace σ = some σ') : k_EV l (k_PX w) yX2_readPlace cX2_readPlace 2 d [.ref (w.2.1 3)] σ σ' := by
  refine k_of (own := RX2) rfl (by decide) (Nat.le_of_ble_eq_true rfl) (fun X hX C hr => ?_)
  show k_K (k_PX w) X (k_MQ X (k_Qv (k_PX w) σ') (k_PX w).2.2.1) 0 [(0, .ref (w.2.1 3))] [] σ
  unfold f_X2_readPlace at h
  refine k_aload_n C dX2_readPlace_0 0 rfl ?_
  refine k_get C dX2_readPlace_1 (k_gX3_6 w) k_fX2_18 (Or.inl rfl) ?_
  refine k_iconst C dX2_readPlace_4 (v := 4) rfl ?_
  refine k_imul C dX2_readPlace_5 ?_
  refine k_topi (fun y6 ey6 => ?_)
  replace h := k_nm_e h y6 ey6
  refine k_istore_n C dX2_readPlace_6 (by decide) [1, 0] (L' := [(0, .ref (w.2.1 3)), (1, .int y6)]) rfl ?_
  refine k_iload_n C dX2_readPlace_7 1 rfl ?_
  refine k_aload_n C dX2_readPlace_8 0 rfl ?_
  refine k_get C dX2_readPlace_9 (k_gX3_4 w) k_fX2_9 (Or.inl rfl) ?_
  refine k_alen C dX2_readPlace_12 (k_aX5 w) (v := 24) rfl ?_
  refine k_iconst C dX2_readPlace_13 (v := 4) rfl ?_
  refine k_isub C dX2_readPlace_14 ?_
  refine k_icmp_le C dX2_readPlace_15 (tgt := 23) (by decide) (fun c15 => ?_) (fun c15 => ?_)
  · replace h := k_if_t h c15
    refine k_aload_n C dX2_readPlace_23 0 rfl ?_
    refine k_get C dX2_readPlace_24 (k_gX3_4 w) k_fX2_9 (Or.inl rfl) ?_
    refine k_iload_n C dX2_readPlace_27 1 rfl ?_
    refine k_iconst C dX2_readPlace_28 (v := 0) rfl ?_
    refine k_iadd C dX2_readPlace_29 ?_
    refine k_iconst C dX2_readPlace_30 (v := 1) rfl ?_
    obtain ⟨q31, h⟩ := k_gd_e h
    refine k_iast C dX2_readPlace_31 (k_aX5 w) q31 ?_
    refine k_st (fun s31 es31 => ?_)
    replace h := k_nm_e h s31 es31
    refine k_aload_n C dX2_readPlace_32 0 rfl ?_
    refine k_get C dX2_readPlace_33 (k_gX3_4 w) k_fX2_9 (Or.inl rfl) ?_
    refine k_iload_n C dX2_readPlace_36 1 rfl ?_
    refine k_iconst C dX2_readPlace_37 (v := 1) rfl ?_
    refine k_iadd C dX2_readPlace_38 ?_
    refine k_iconst C dX2_readPlace_39 (v := 0) rfl ?_
    obtain ⟨q40, h⟩ := k_gd_e h
    refine k_iast C dX2_readPlace_40 (k_aX5 w) q40 ?_
    refine k_st (fun s40 es40 => ?_)
    replace h := k_nm_e h s40 es40
    refine k_aload_n C dX2_readPlace_41 0 rfl ?_
    refine k_get C dX2_readPlace_42 (k_gX3_4 w) k_fX2_9 (Or.inl rfl) ?_
    refine k_iload_n C dX2_readPlace_45 1 rfl ?_
    refine k_iconst C dX2_readPlace_46 (v := 2) rfl ?_
    refine k_iadd C dX2_readPlace_47 ?_
    refine k_iconst C dX2_readPlace_48 (v := 0) rfl ?_
    obtain ⟨q49, h⟩ := k_gd_e h
    refine k_iast C dX2_readPlace_49 (k_aX5 w) q49 ?_
    refine k_st (fun s49 es49 => ?_)
    replace h := k_nm_e h s49 es49
    refine k_aload_n C dX2_readPlace_50 0 rfl ?_
    refine k_get C dX2_readPlace_51 (k_gX3_4 w) k_fX2_9 (Or.inl rfl) ?_
    refine k_iload_n C dX2_readPlace_54 1 rfl ?_
    refine k_iconst C dX2_readPlace_55 (v := 3) rfl ?_
    refine k_iadd C dX2_readPlace_56 ?_
    refine k_bipush C dX2_readPlace_57 (v := 10) rfl ?_
    obtain ⟨q59, h⟩ := k_gd_e h
    refine k_iast C dX2_readPlace_59 (k_aX5 w) q59 ?_
    refine k_st (fun s59 es59 => ?_)
    replace h := k_nm_e h s59 es59
    refine k_aload_n C dX2_readPlace_60 0 rfl ?_
    refine k_dup C dX2_readPlace_61 rfl ?_
    refine k_get C dX2_readPlace_62 (k_gX3_6 w) k_fX2_18 (Or.inl rfl) ?_
    refine k_iconst C dX2_readPlace_65 (v := 1) rfl ?_
    refine k_iadd C dX2_readPlace_66 ?_
    refine k_puti C dX2_readPlace_67 (k_pX3_6 w) k_fX2_18 (Or.inl rfl) k_xi ?_
    refine k_st (fun s67 es67 => ?_)
    replace h := k_nm_e h s67 es67
    refine k_aload_n C dX2_readPlace_70 0 rfl ?_
    refine k_ldS0 C dX2_readPlace_71 ?_
    refine k_gs C dX2_readPlace_73 C.fx.2.2.2.2.2.1 k_fX2_94 ?_
    refine k_gs C dX2_readPlace_76 C.fx.2.2.2.2.2.2.1 k_fX2_97 ?_
    refine k_aload_n C dX2_readPlace_79 0 rfl ?_
    refine k_get C dX2_readPlace_80 (k_gX3_4 w) k_fX2_9 (Or.inl rfl) ?_
    refine k_iload_n C dX2_readPlace_83 1 rfl ?_
    obtain ⟨s84, h84, h⟩ := k_bd_e h
    refine k_goV (k_runV C dX2_readPlace_84 (e_X2_readItems (d := 6) (Nat.le_refl _) (by decide) (by decide) (by decide) (k_aX5 w) h84) k_lX2_74 k_yX2_readItems (k_oX3 w) (by omega) rfl (Nat.le_of_ble_eq_true rfl)) ?_
    exact k_vret C dX2_readPlace_87 hr (Option.some.inj h)
  · replace h := k_if_f h c15
    refine k_aload_n C dX2_readPlace_18 0 rfl ?_
    obtain ⟨s19, h19, h⟩ := k_bd_e h
    refine k_goV (k_runU C dX2_readPlace_19 (e_X3_fail_3 (d := 3) (Nat.le_refl _) h19) k_lX2_78 rfl k_yX3_fail (k_oX3 w) (by omega) rfl (Nat.le_of_ble_eq_true rfl)) ?_
    exact k_vret C dX2_readPlace_22 hr (Option.some.inj h)
def f_X2_readClauses  (σ : k_St) : Option (k_St) :=
  k_loop (fun (g2 : Int32 × k_St → Option (k_St)) (z2 : Int32 × k_St) => match z2 with
    | (v1_2, s_2) =>
      k_if ((160 : Int32) < v1_2)
        (some s_2)
        (k_jn (fun (s_79 : k_St) =>
          k_bd (f_X3_failed 3 s_79) fun v80 =>
          k_if (v80 = (0 : Int32))
            (k_b2 (f_X3_next 3 s_79) fun v87 s87 =>
            k_if (v87 = (-2 : Int32))
              (some s87)
              (k_bd (f_X3_need 3 (59 : Int32) s87) fun s99 =>
              k_nm (v1_2 + (1 : Int32)) fun y102 =>
              g2 (y102, s99)))
            (some s_79)) fun j79 =>
        k_jn (fun (s_34 : k_St) =>
          k_jn (fun (s_75 : k_St) =>
            k_bd (f_X3_fail 3 s_75) fun s76 =>
            j79 s76) fun j75 =>
          k_if ((k_rd s_34 3 7) = (0 : Int32))
            (k_b2 (f_X3_take 3 (98 : Int32) s_34) fun v44 s44 =>
            k_if (v44 = (0 : Int32))
              (j75 s44)
              (k_nm (k_wr s44 3 7 (1 : Int32)) fun s52 =>
              k_bd (f_X2_readItems 1 2 3 6 (0 : Int32) s52) fun s69 =>
              j79 s69))
            (j75 s_34)) fun j34 =>
        k_if ((6 : Int32) ≤ (k_rd s_2 3 6))
          (j34 s_2)
          (k_b2 (f_X3_take 3 (112 : Int32) s_2) fun v21 s21 =>
          k_if (v21 = (0 : Int32))
            (j34 s21)
            (k_bd (f_X2_readPlace s21) fun s28 =>
            j79 s28)))) 100000 ((0 : Int32), σ)
set_option maxHeartbeats 4000000 in
set_option maxRecDepth 100000 in
theorem e_X2_readClauses {l : Launch} {w : k_WC} {d : Nat} (hd : 8 ≤ d)   {σ σ' : k_St} (h : f_X2_readClauses σ = some σ') : k_EV l (k_PX w) yX2_readClauses cX2_readClauses 2 d [.ref (w.2.1 3)] σ σ' := by
  refine k_of (own := RX2) rfl (by decide) (Nat.le_of_ble_eq_true rfl) (fun X hX C hr => ?_)
  show k_K (k_PX w) X (k_MQ X (k_Qv (k_PX w) σ') (k_PX w).2.2.1) 0 [(0, .ref (w.2.1 3))] [] σ
  unfold f_X2_readClauses at h
  refine k_iconst C dX2_readClauses_0 (v := 0) rfl ?_
  refine k_istore_n C dX2_readClauses_1 (by decide) [1, 0] (L' := [(0, .ref (w.2.1 3)), (1, .int (0 : Int32))]) rfl ?_
  obtain ⟨b2, eb2, h⟩ := k_lp_e h
  have K2 : ∀ (n : Nat) (v1_2 : Int32) (s_2 : k_St), k_loop b2 n (v1_2, s_2) = some σ' → k_K (k_PX w) X (k_MQ X (k_Qv (k_PX w) σ') (k_PX w).2.2.1) 2 [(0, .ref (w.2.1 3)), (1, .int v1_2)] [] s_2 := by
    intro n
    induction n with
    | zero => intro v1_2 s_2 h; cases h
    | succ n ih2 =>
      intro v1_2 s_2 h
      obtain ⟨g2, eg2, h⟩ := k_lp_s h
      rw [← eg2] at ih2
      rw [eb2] at h
      refine k_iload_n C dX2_readClauses_2 1 rfl ?_
      refine k_sipush C dX2_readClauses_3 (v := 160) rfl ?_
      refine k_icmp_gt C dX2_readClauses_6 (tgt := 108) (by decide) (fun c6 => ?_) (fun c6 => ?_)
      · replace h := k_if_t h c6
        exact k_vret C dX2_readClauses_108 hr (Option.some.inj h)
      · replace h := k_if_f h c6
        refine k_aload_n C dX2_readClauses_9 0 rfl ?_
        refine k_get C dX2_readClauses_10 (k_gX3_6 w) k_fX2_18 (Or.inl rfl) ?_
        refine k_bipush C dX2_readClauses_13 (v := 6) rfl ?_
        obtain ⟨j79, ej79, h⟩ := k_jn_e h
        have Jj79 : ∀ (s_79 : k_St), j79 s_79 = some σ' → k_K (k_PX w) X (k_MQ X (k_Qv (k_PX w) σ') (k_PX w).2.2.1) 79 [(0, .ref (w.2.1 3)), (1, .int v1_2)] [] s_79 := by
          intro s_79 h
          rw [ej79] at h
          refine k_aload_n C dX2_readClauses_79 0 rfl ?_
          obtain ⟨v80, h80, h⟩ := k_bd_e h
          refine k_goI (k_runU C dX2_readClauses_80 (e_X3_failed_3 (d := 2) (Nat.le_refl _) h80) k_lX2_81 rfl k_yX3_failed (k_oX3 w) (by omega) rfl (Nat.le_of_ble_eq_true rfl)) ?_
          refine k_if_ne C dX2_readClauses_83 (tgt := 95) (by decide) (fun c83 => ?_) (fun c83 => ?_)
          · replace h := k_if_f h c83
            exact k_vret C dX2_readClauses_95 hr (Option.some.inj h)
          · replace h := k_if_t h c83
            refine k_aload_n C dX2_readClauses_86 0 rfl ?_
            obtain ⟨v87, s87, h87, h⟩ := k_b2_e h
            refine k_goI (k_runU C dX2_readClauses_87 (e_X3_next_3 (d := 2) (Nat.le_refl _) h87) k_lX2_85 rfl k_yX3_next (k_oX3 w) (by omega) rfl (Nat.le_of_ble_eq_true rfl)) ?_
            refine k_bipush C dX2_readClauses_90 (v := -2) rfl ?_
            refine k_icmp_ne C dX2_readClauses_92 (tgt := 96) (by decide) (fun c92 => ?_) (fun c92 => ?_)
            · replace h := k_if_f h c92
              refine k_aload_n C dX2_readClauses_96 0 rfl ?_
              refine k_bipush C dX2_readClauses_97 (v := 59) rfl ?_
              obtain ⟨s99, h99, h⟩ := k_bd_e h
              refine k_goV (k_runU C dX2_readClauses_99 (e_X3_need_3 (d := 3) (Nat.le_refl _) h99) k_lX2_88 rfl k_yX3_need (k_oX3 w) (by omega) rfl (Nat.le_of_ble_eq_true rfl)) ?_
              refine k_iinc C dX2_readClauses_102 1 rfl (v := 1) rfl (by decide) [1, 0] (L' := fun z9 => [(0, .ref (w.2.1 3)), (1, .int z9)]) (fun z9 => rfl) (fun y102 ey102 => ?_)
              replace h := k_nm_e h y102 ey102
              refine k_goto C dX2_readClauses_105 (tgt := 2) (by decide) ?_
              exact ih2 _ _ h
            · replace h := k_if_t h c92
              exact k_vret C dX2_readClauses_95 hr (Option.some.inj h)
        obtain ⟨j34, ej34, h⟩ := k_jn_e h
        have Jj34 : ∀ (s_34 : k_St), j34 s_34 = some σ' → k_K (k_PX w) X (k_MQ X (k_Qv (k_PX w) σ') (k_PX w).2.2.1) 34 [(0, .ref (w.2.1 3)), (1, .int v1_2)] [] s_34 := by
          intro s_34 h
          rw [ej34] at h
          refine k_aload_n C dX2_readClauses_34 0 rfl ?_
          refine k_get C dX2_readClauses_35 (k_gX3_7 w) k_fX2_22 (Or.inl rfl) ?_
          obtain ⟨j75, ej75, h⟩ := k_jn_e h
          have Jj75 : ∀ (s_75 : k_St), j75 s_75 = some σ' → k_K (k_PX w) X (k_MQ X (k_Qv (k_PX w) σ') (k_PX w).2.2.1) 75 [(0, .ref (w.2.1 3)), (1, .int v1_2)] [] s_75 := by
            intro s_75 h
            rw [ej75] at h
            refine k_aload_n C dX2_readClauses_75 0 rfl ?_
            obtain ⟨s76, h76, h⟩ := k_bd_e h
            refine k_goV (k_runU C dX2_readClauses_76 (e_X3_fail_3 (d := 3) (Nat.le_refl _) h76) k_lX2_78 rfl k_yX3_fail (k_oX3 w) (by omega) rfl (Nat.le_of_ble_eq_true rfl)) ?_
            exact Jj79 _ h
          refine k_if_ne C dX2_readClauses_38 (tgt := 75) (by decide) (fun c38 => ?_) (fun c38 => ?_)
          · replace h := k_if_f h c38
            exact Jj75 _ h
          · replace h := k_if_t h c38
            refine k_aload_n C dX2_readClauses_41 0 rfl ?_
            refine k_bipush C dX2_readClauses_42 (v := 98) rfl ?_
            obtain ⟨v44, s44, h44, h⟩ := k_b2_e h
            refine k_goI (k_runU C dX2_readClauses_44 (e_X3_take_3 (d := 3) (Nat.le_refl _) h44) k_lX2_59 rfl k_yX3_take (k_oX3 w) (by omega) rfl (Nat.le_of_ble_eq_true rfl)) ?_
            refine k_if_eq C dX2_readClauses_47 (tgt := 75) (by decide) (fun c47 => ?_) (fun c47 => ?_)
            · replace h := k_if_t h c47
              exact Jj75 _ h
            · replace h := k_if_f h c47
              refine k_aload_n C dX2_readClauses_50 0 rfl ?_
              refine k_iconst C dX2_readClauses_51 (v := 1) rfl ?_
              refine k_puti C dX2_readClauses_52 (k_pX3_7 w) k_fX2_22 (Or.inl rfl) (k_xz rfl) ?_
              refine k_st (fun s52 es52 => ?_)
              replace h := k_nm_e h s52 es52
              refine k_aload_n C dX2_readClauses_55 0 rfl ?_
              refine k_ldS1 C dX2_readClauses_56 ?_
              refine k_gs C dX2_readClauses_58 C.fx.2.2.2.2.2.2.2.1 k_fX2_68 ?_
              refine k_gs C dX2_readClauses_61 C.fx.2.2.2.2.2.2.2.2.1 k_fX2_71 ?_
              refine k_aload_n C dX2_readClauses_64 0 rfl ?_
              refine k_get C dX2_readClauses_65 (k_gX3_5 w) k_fX2_15 (Or.inl rfl) ?_
              refine k_iconst C dX2_readClauses_68 (v := 0) rfl ?_
              obtain ⟨s69, h69, h⟩ := k_bd_e h
              refine k_goV (k_runV C dX2_readClauses_69 (e_X2_readItems (d := 6) (Nat.le_refl _) (by decide) (by decide) (by decide) (k_aX6 w) h69) k_lX2_74 k_yX2_readItems (k_oX3 w) (by omega) rfl (Nat.le_of_ble_eq_true rfl)) ?_
              refine k_goto C dX2_readClauses_72 (tgt := 79) (by decide) ?_
              exact Jj79 _ h
        refine k_icmp_ge C dX2_readClauses_15 (tgt := 34) (by decide) (fun c15 => ?_) (fun c15 => ?_)
        · replace h := k_if_t h c15
          exact Jj34 _ h
        · replace h := k_if_f h c15
          refine k_aload_n C dX2_readClauses_18 0 rfl ?_
          refine k_bipush C dX2_readClauses_19 (v := 112) rfl ?_
          obtain ⟨v21, s21, h21, h⟩ := k_b2_e h
          refine k_goI (k_runU C dX2_readClauses_21 (e_X3_take_3 (d := 3) (Nat.le_refl _) h21) k_lX2_59 rfl k_yX3_take (k_oX3 w) (by omega) rfl (Nat.le_of_ble_eq_true rfl)) ?_
          refine k_if_eq C dX2_readClauses_24 (tgt := 34) (by decide) (fun c24 => ?_) (fun c24 => ?_)
          · replace h := k_if_t h c24
            exact Jj34 _ h
          · replace h := k_if_f h c24
            refine k_aload_n C dX2_readClauses_27 0 rfl ?_
            obtain ⟨s28, h28, h⟩ := k_bd_e h
            refine k_goV (k_runV C dX2_readClauses_28 (e_X2_readPlace (d := 7) (Nat.le_refl _) h28) k_lX2_63 k_yX2_readPlace (k_oX3 w) (by omega) rfl (Nat.le_of_ble_eq_true rfl)) ?_
            refine k_goto C dX2_readClauses_31 (tgt := 79) (by decide) ?_
            exact Jj79 _ h
  exact K2 _ _ _ h
def f_X2_allWeights  (σ : k_St) : Option (Int32) :=
  k_loop (fun (g4 : Int32 × Int32 → Option (Int32)) (z4 : Int32 × Int32) => match z4 with
    | (v1_4, v2_4) =>
      k_if ((k_rd σ 3 6) ≤ v2_4)
        (some v1_4)
        (k_bd (f_X2_toldItem v2_4 (0 : Int32) σ) fun v16 =>
        k_nm ((v1_4 + v16)) fun y20 =>
        k_nm (v2_4 + (1 : Int32)) fun y21 =>
        g4 (y20, y21))) 100000 ((0 : Int32), (0 : Int32))
set_option maxHeartbeats 4000000 in
set_option maxRecDepth 100000 in
theorem e_X2_allWeights {l : Launch} {w : k_WC} {d : Nat} (hd : 4 ≤ d)   {σ : k_St} {r : Int32} (h : f_X2_allWeights σ = some r) : k_EI l (k_PX w) yX2_allWeights cX2_allWeights 3 (some .int) d [.ref (w.2.1 3)] σ r σ := by
  refine k_of (own := RX2) rfl (by decide) (Nat.le_of_ble_eq_true rfl) (fun X hX C hr => ?_)
  show k_K (k_PX w) X (k_MQ X (k_Qi (k_PX w) r σ) (k_PX w).2.2.1) 0 [(0, .ref (w.2.1 3))] [] σ
  unfold f_X2_allWeights at h
  refine k_iconst C dX2_allWeights_0 (v := 0) rfl ?_
  refine k_istore_n C dX2_allWeights_1 (by decide) [1, 0] (L' := [(0, .ref (w.2.1 3)), (1, .int (0 : Int32))]) rfl ?_
  refine k_iconst C dX2_allWeights_2 (v := 0) rfl ?_
  refine k_istore_n C dX2_allWeights_3 (by decide) [1, 2, 0] (L' := [(0, .ref (w.2.1 3)), (1, .int (0 : Int32)), (2, .int (0 : Int32))]) rfl ?_
  obtain ⟨b4, eb4, h⟩ := k_lp_e h
  have K4 : ∀ (n : Nat) (v1_4 : Int32) (v2_4 : Int32), k_loop b4 n (v1_4, v2_4) = some r → k_K (k_PX w) X (k_MQ X (k_Qi (k_PX w) r σ) (k_PX w).2.2.1) 4 [(0, .ref (w.2.1 3)), (1, .int v1_4), (2, .int v2_4)] [] σ := by
    intro n
    induction n with
    | zero => intro v1_4 v2_4 h; cases h
    | succ n ih4 =>
      intro v1_4 v2_4 h
      obtain ⟨g4, eg4, h⟩ := k_lp_s h
      rw [← eg4] at ih4
      rw [eb4] at h
      refine k_iload_n C dX2_allWeights_4 2 rfl ?_
      refine k_aload_n C dX2_allWeights_5 0 rfl ?_
      refine k_get C dX2_allWeights_6 (k_gX3_6 w) k_fX2_18 (Or.inl rfl) ?_
      refine k_icmp_ge C dX2_allWeights_9 (tgt := 27) (by decide) (fun c9 => ?_) (fun c9 => ?_)
      · replace h := k_if_t h c9
        refine k_iload_n C dX2_allWeights_27 1 rfl ?_
        exact k_iret C dX2_allWeights_28 hr (k_p1 h)
      · replace h := k_if_f h c9
        refine k_iload_n C dX2_allWeights_12 1 rfl ?_
        refine k_aload_n C dX2_allWeights_13 0 rfl ?_
        refine k_iload_n C dX2_allWeights_14 2 rfl ?_
        refine k_iconst C dX2_allWeights_15 (v := 0) rfl ?_
        obtain ⟨v16, h16, h⟩ := k_bd_e h
        refine k_goI (k_runV C dX2_allWeights_16 (e_X2_toldItem (d := 3) (Nat.le_refl _) h16) k_lX2_55 k_yX2_toldItem (k_oX3 w) (by omega) rfl (Nat.le_of_ble_eq_true rfl)) ?_
        refine k_iadd C dX2_allWeights_19 ?_
        refine k_topi (fun y20 ey20 => ?_)
        replace h := k_nm_e h y20 ey20
        refine k_istore_n C dX2_allWeights_20 (by decide) [1, 0, 2] (L' := [(0, .ref (w.2.1 3)), (1, .int y20), (2, .int v2_4)]) rfl ?_
        refine k_iinc C dX2_allWeights_21 2 rfl (v := 1) rfl (by decide) [1, 2, 0] (L' := fun z9 => [(0, .ref (w.2.1 3)), (1, .int y20), (2, .int z9)]) (fun z9 => rfl) (fun y21 ey21 => ?_)
        replace h := k_nm_e h y21 ey21
        refine k_goto C dX2_allWeights_24 (tgt := 4) (by decide) ?_
        exact ih4 _ _ h
  exact K4 _ _ _ h
def f_X2_faultOf  (σ : k_St) : Option (Int32 × k_St) :=
  k_bd (f_X3_load 3 2 (0 : Int32) (k_rd σ 1 1) σ) fun s10 =>
  k_nm (k_wr s10 3 6 (0 : Int32)) fun s15 =>
  k_nm (k_wr s15 3 7 (0 : Int32)) fun s20 =>
  k_gd (k_ix (0 : Int32) 2 = true) <|
  k_nm (k_wr s20 6 (0 : Int32).toNatClampNeg (2 : Int32)) fun s29 =>
  k_gd (k_ix (1 : Int32) 2 = true) <|
  k_nm (k_wr s29 6 (1 : Int32).toNatClampNeg (0 : Int32)) fun s36 =>
  k_bd (f_X2_readClauses s36) fun s38 =>
  k_jn (fun (s_60 : k_St) =>
    k_bd (f_X3_faultFound 3 s_60) fun v61 =>
    some (v61, s_60)) fun j60 =>
  k_jn (fun (_ : Unit) =>
    k_bd (f_X3_failAtLength 3 s38) fun s57 =>
    j60 s57) fun j56 =>
  k_if ((k_rd s38 3 6) < (2 : Int32))
    (j56 ())
    (k_bd (f_X2_allWeights s38) fun v50 =>
    k_if (v50 = (0 : Int32))
      (j56 ())
      (j60 s38))
set_option maxHeartbeats 4000000 in
set_option maxRecDepth 100000 in
theorem e_X2_faultOf {l : Launch} {w : k_WC} {d : Nat} (hd : 9 ≤ d)   {σ σ' : k_St} {r : Int32} (h : f_X2_faultOf σ = some (r, σ')) : k_EI l (k_PX w) yX2_faultOf cX2_faultOf 2 (some .int) d [.ref (w.2.1 3), .ref (w.2.1 1)] σ r σ' := by
  refine k_of (own := RX2) rfl (by decide) (Nat.le_of_ble_eq_true rfl) (fun X hX C hr => ?_)
  show k_K (k_PX w) X (k_MQ X (k_Qi (k_PX w) r σ') (k_PX w).2.2.1) 0 [(0, .ref (w.2.1 3)), (1, .ref (w.2.1 1))] [] σ
  unfold f_X2_faultOf at h
  refine k_aload_n C dX2_faultOf_0 0 rfl ?_
  refine k_aload_n C dX2_faultOf_1 1 rfl ?_
  refine k_get C dX2_faultOf_2 (k_gX1_0 w) k_fX2_26 (Or.inl rfl) ?_
  refine k_iconst C dX2_faultOf_5 (v := 0) rfl ?_
  refine k_aload_n C dX2_faultOf_6 1 rfl ?_
  refine k_get C dX2_faultOf_7 (k_gX1_1 w) k_fX2_31 (Or.inl rfl) ?_
  obtain ⟨s10, h10, h⟩ := k_bd_e h
  refine k_goV (k_runU C dX2_faultOf_10 (e_X3_load_3 (d := 3) (Nat.le_refl _) (k_aX2 w) h10) k_lX2_34 rfl k_yX3_load (k_oX3 w) (by omega) rfl (Nat.le_of_ble_eq_true rfl)) ?_
  refine k_aload_n C dX2_faultOf_13 0 rfl ?_
  refine k_iconst C dX2_faultOf_14 (v := 0) rfl ?_
  refine k_puti C dX2_faultOf_15 (k_pX3_6 w) k_fX2_18 (Or.inl rfl) k_xi ?_
  refine k_st (fun s15 es15 => ?_)
  replace h := k_nm_e h s15 es15
  refine k_aload_n C dX2_faultOf_18 0 rfl ?_
  refine k_iconst C dX2_faultOf_19 (v := 0) rfl ?_
  refine k_puti C dX2_faultOf_20 (k_pX3_7 w) k_fX2_22 (Or.inl rfl) (k_xz rfl) ?_
  refine k_st (fun s20 es20 => ?_)
  replace h := k_nm_e h s20 es20
  refine k_aload_n C dX2_faultOf_23 0 rfl ?_
  refine k_get C dX2_faultOf_24 (k_gX3_5 w) k_fX2_15 (Or.inl rfl) ?_
  refine k_iconst C dX2_faultOf_27 (v := 0) rfl ?_
  refine k_iconst C dX2_faultOf_28 (v := 2) rfl ?_
  obtain ⟨q29, h⟩ := k_gd_e h
  refine k_iast C dX2_faultOf_29 (k_aX6 w) q29 ?_
  refine k_st (fun s29 es29 => ?_)
  replace h := k_nm_e h s29 es29
  refine k_aload_n C dX2_faultOf_30 0 rfl ?_
  refine k_get C dX2_faultOf_31 (k_gX3_5 w) k_fX2_15 (Or.inl rfl) ?_
  refine k_iconst C dX2_faultOf_34 (v := 1) rfl ?_
  refine k_iconst C dX2_faultOf_35 (v := 0) rfl ?_
  obtain ⟨q36, h⟩ := k_gd_e h
  refine k_iast C dX2_faultOf_36 (k_aX6 w) q36 ?_
  refine k_st (fun s36 es36 => ?_)
  replace h := k_nm_e h s36 es36
  refine k_aload_n C dX2_faultOf_37 0 rfl ?_
  obtain ⟨s38, h38, h⟩ := k_bd_e h
  refine k_goV (k_runV C dX2_faultOf_38 (e_X2_readClauses (d := 8) (Nat.le_refl _) h38) k_lX2_38 k_yX2_readClauses (k_oX3 w) (by omega) rfl (Nat.le_of_ble_eq_true rfl)) ?_
  refine k_aload_n C dX2_faultOf_41 0 rfl ?_
  refine k_get C dX2_faultOf_42 (k_gX3_6 w) k_fX2_18 (Or.inl rfl) ?_
  refine k_iconst C dX2_faultOf_45 (v := 2) rfl ?_
  obtain ⟨j60, ej60, h⟩ := k_jn_e h
  have Jj60 : ∀ (s_60 : k_St), j60 s_60 = some (r, σ') → k_K (k_PX w) X (k_MQ X (k_Qi (k_PX w) r σ') (k_PX w).2.2.1) 60 [(0, .ref (w.2.1 3))] [] s_60 := by
    intro s_60 h
    rw [ej60] at h
    refine k_aload_n C dX2_faultOf_60 0 rfl ?_
    obtain ⟨v61, h61, h⟩ := k_bd_e h
    refine k_goI (k_runU C dX2_faultOf_61 (e_X3_faultFound_3 (d := 2) (Nat.le_refl _) h61) k_lX2_48 rfl k_yX3_faultFound (k_oX3 w) (by omega) rfl (Nat.le_of_ble_eq_true rfl)) ?_
    exact k_iret C dX2_faultOf_64 hr (Option.some.inj h)
  obtain ⟨j56, ej56, h⟩ := k_jn_e h
  have Jj56 : j56 () = some (r, σ') → k_K (k_PX w) X (k_MQ X (k_Qi (k_PX w) r σ') (k_PX w).2.2.1) 56 [(0, .ref (w.2.1 3))] [] s38 := by
    intro  h
    rw [ej56] at h
    refine k_aload_n C dX2_faultOf_56 0 rfl ?_
    obtain ⟨s57, h57, h⟩ := k_bd_e h
    refine k_goV (k_runU C dX2_faultOf_57 (e_X3_failAtLength_3 (d := 3) (Nat.le_refl _) h57) k_lX2_45 rfl k_yX3_failAtLength (k_oX3 w) (by omega) rfl (Nat.le_of_ble_eq_true rfl)) ?_
    exact Jj60 _ h
  refine k_icmp_lt C dX2_faultOf_46 (tgt := 56) (by decide) (fun c46 => ?_) (fun c46 => ?_)
  · replace h := k_if_t h c46
    refine k_sub (L' := [(0, .ref (w.2.1 3))]) [0] rfl ?_
    exact Jj56 h
  · replace h := k_if_f h c46
    refine k_aload_n C dX2_faultOf_49 0 rfl ?_
    obtain ⟨v50, h50, h⟩ := k_bd_e h
    refine k_goI (k_runV C dX2_faultOf_50 (e_X2_allWeights (d := 4) (Nat.le_refl _) h50) k_lX2_41 k_yX2_allWeights (k_oX3 w) (by omega) rfl (Nat.le_of_ble_eq_true rfl)) ?_
    refine k_if_ne C dX2_faultOf_53 (tgt := 60) (by decide) (fun c53 => ?_) (fun c53 => ?_)
    · replace h := k_if_f h c53
      refine k_sub (L' := [(0, .ref (w.2.1 3))]) [0] rfl ?_
      exact Jj60 _ h
    · replace h := k_if_t h c53
      refine k_sub (L' := [(0, .ref (w.2.1 3))]) [0] rfl ?_
      exact Jj56 h
def f_X2_toldLost  (σ : k_St) : Option (Int32) :=
  k_gd (k_ix (1 : Int32) 2 = true) <|
  some (k_rd σ 6 (1 : Int32).toNatClampNeg)
set_option maxHeartbeats 4000000 in
set_option maxRecDepth 100000 in
theorem e_X2_toldLost {l : Launch} {w : k_WC} {d : Nat} (hd : 2 ≤ d)   {σ : k_St} {r : Int32} (h : f_X2_toldLost σ = some r) : k_EI l (k_PX w) yX2_toldLost cX2_toldLost 1 (some .int) d [.ref (w.2.1 3)] σ r σ := by
  refine k_of (own := RX2) rfl (by decide) (Nat.le_of_ble_eq_true rfl) (fun X hX C hr => ?_)
  show k_K (k_PX w) X (k_MQ X (k_Qi (k_PX w) r σ) (k_PX w).2.2.1) 0 [(0, .ref (w.2.1 3))] [] σ
  unfold f_X2_toldLost at h
  refine k_aload_n C dX2_toldLost_0 0 rfl ?_
  refine k_get C dX2_toldLost_1 (k_gX3_5 w) k_fX2_15 (Or.inl rfl) ?_
  refine k_iconst C dX2_toldLost_4 (v := 1) rfl ?_
  obtain ⟨q5, h⟩ := k_gd_e h
  refine k_iald C dX2_toldLost_5 (k_aX6 w) q5 ?_
  exact k_iret C dX2_toldLost_6 hr (k_p1 h)
def f_X4_prepare (x1 : Int32) (x2 : Int32) (x3 : Int32) (σ : k_St) : Option (k_St) :=
  k_nm (k_wr σ 33 11 x1) fun s2 =>
  k_nm (k_wr s2 33 10 (o_min (6 : Int32) (k_rd s2 12 0))) fun s18 =>
  k_loop (fun (g24 : Int32 × k_St → Option (k_St)) (z24 : Int32 × k_St) => match z24 with
    | (v4_24, s_24) =>
      k_if ((k_rd s_24 33 10) ≤ v4_24)
        (k_bd (f_J7_fill_d0a16 35 (0 : Int64) s_24) fun s95 =>
        some s95)
        (k_bd (f_X1_heard v4_24 x3 s_24) fun v46 =>
        k_gd (k_ix v4_24 6 = true) <|
        k_nm (k_wr s_24 36 v4_24.toNatClampNeg v46) fun s49 =>
        k_bd (f_X1_seen v4_24 x2 s49) fun v63 =>
        k_gd (k_ix v4_24 6 = true) <|
        k_nm (k_wr s49 37 v4_24.toNatClampNeg v63) fun s66 =>
        k_bd (f_X1_stakeOf v4_24 s66) fun v79 =>
        k_gd (k_ix v4_24 6 = true) <|
        k_nm (k_wl s66 38 v4_24.toNatClampNeg v79.toInt64) fun s83 =>
        k_nm (v4_24 + (1 : Int32)) fun y84 =>
        g24 (y84, s83))) 100000 ((0 : Int32), s18)
set_option maxHeartbeats 4000000 in
set_option maxRecDepth 100000 in
theorem e_X4_prepare {l : Launch} {w : k_WC} {d : Nat} (hd : 4 ≤ d) {x1 : Int32} {x2 : Int32} {x3 : Int32}  {σ σ' : k_St} (h : f_X4_prepare x1 x2 x3 σ = some σ') : k_EV l (k_PX w) yX4_prepare cX4_prepare 5 d [.ref (w.2.1 33), .int x1, .int x2, .int x3] σ σ' := by
  refine k_of (own := RX4) rfl (by decide) (Nat.le_of_ble_eq_true rfl) (fun X hX C hr => ?_)
  show k_K (k_PX w) X (k_MQ X (k_Qv (k_PX w) σ') (k_PX w).2.2.1) 0 [(0, .ref (w.2.1 33)), (1, .int x1), (2, .int x2), (3, .int x3)] [] σ
  unfold f_X4_prepare at h
  refine k_aload_n C dX4_prepare_0 0 rfl ?_
  refine k_iload_n C dX4_prepare_1 1 rfl ?_
  refine k_puti C dX4_prepare_2 (k_pX33_11 w) k_fX4_42 (Or.inl rfl) k_xi ?_
  refine k_st (fun s2 es2 => ?_)
  replace h := k_nm_e h s2 es2
  refine k_aload_n C dX4_prepare_5 0 rfl ?_
  refine k_bipush C dX4_prepare_6 (v := 6) rfl ?_
  refine k_aload_n C dX4_prepare_8 0 rfl ?_
  refine k_get C dX4_prepare_9 (k_gX33_3 w) k_fX4_45 (Or.inl rfl) ?_
  refine k_get C dX4_prepare_12 (k_gX12_0 w) k_fX4_100 (Or.inl rfl) ?_
  refine k_mmin C dX4_prepare_15 k_lX4_53 k_ym_min (by omega) (Nat.le_of_ble_eq_true rfl) ?_
  refine k_puti C dX4_prepare_18 (k_pX33_10 w) k_fX4_39 (Or.inl rfl) k_xi ?_
  refine k_st (fun s18 es18 => ?_)
  replace h := k_nm_e h s18 es18
  refine k_iconst C dX4_prepare_21 (v := 0) rfl ?_
  refine k_istore C dX4_prepare_22 (by decide) [1, 2, 3, 4, 0] (L' := [(0, .ref (w.2.1 33)), (1, .int x1), (2, .int x2), (3, .int x3), (4, .int (0 : Int32))]) rfl ?_
  obtain ⟨b24, eb24, h⟩ := k_lp_e h
  have K24 : ∀ (n : Nat) (v4_24 : Int32) (s_24 : k_St), k_loop b24 n (v4_24, s_24) = some σ' → k_K (k_PX w) X (k_MQ X (k_Qv (k_PX w) σ') (k_PX w).2.2.1) 24 [(0, .ref (w.2.1 33)), (2, .int x2), (3, .int x3), (4, .int v4_24)] [] s_24 := by
    intro n
    induction n with
    | zero => intro v4_24 s_24 h; cases h
    | succ n ih24 =>
      intro v4_24 s_24 h
      obtain ⟨g24, eg24, h⟩ := k_lp_s h
      rw [← eg24] at ih24
      rw [eb24] at h
      refine k_iload C dX4_prepare_24 3 rfl ?_
      refine k_aload_n C dX4_prepare_26 0 rfl ?_
      refine k_get C dX4_prepare_27 (k_gX33_10 w) k_fX4_39 (Or.inl rfl) ?_
      refine k_icmp_ge C dX4_prepare_30 (tgt := 90) (by decide) (fun c30 => ?_) (fun c30 => ?_)
      · replace h := k_if_t h c30
        refine k_aload_n C dX4_prepare_90 0 rfl ?_
        refine k_get C dX4_prepare_91 (k_gX33_6 w) k_fX4_26 (Or.inl rfl) ?_
        refine k_lconst C dX4_prepare_94 (v := 0) rfl ?_
        obtain ⟨s95, h95, h⟩ := k_bd_e h
        refine k_goV (k_runS C dX4_prepare_95 (e_J7_fill_d0a16 (d := 2) (Nat.le_refl _) (k_aX35 w) h95) k_lX4_114 k_yJ7_fill_d0a16 (by omega) rfl (Nat.le_of_ble_eq_true rfl)) ?_
        exact k_vret C dX4_prepare_98 hr (Option.some.inj h)
      · replace h := k_if_f h c30
        refine k_aload_n C dX4_prepare_33 0 rfl ?_
        refine k_get C dX4_prepare_34 (k_gX33_7 w) k_fX4_29 (Or.inl rfl) ?_
        refine k_iload C dX4_prepare_37 3 rfl ?_
        refine k_aload_n C dX4_prepare_39 0 rfl ?_
        refine k_get C dX4_prepare_40 (k_gX33_3 w) k_fX4_45 (Or.inl rfl) ?_
        refine k_iload C dX4_prepare_43 3 rfl ?_
        refine k_iload_n C dX4_prepare_45 2 rfl ?_
        obtain ⟨v46, h46, h⟩ := k_bd_e h
        refine k_goI (k_runV C dX4_prepare_46 (e_X1_heard (d := 3) (Nat.le_refl _) h46) k_lX4_103 k_yX1_heard (k_oX12 w) (by omega) rfl (Nat.le_of_ble_eq_true rfl)) ?_
        obtain ⟨q49, h⟩ := k_gd_e h
        refine k_iast C dX4_prepare_49 (k_aX36 w) q49 ?_
        refine k_st (fun s49 es49 => ?_)
        replace h := k_nm_e h s49 es49
        refine k_aload_n C dX4_prepare_50 0 rfl ?_
        refine k_get C dX4_prepare_51 (k_gX33_8 w) k_fX4_33 (Or.inl rfl) ?_
        refine k_iload C dX4_prepare_54 3 rfl ?_
        refine k_aload_n C dX4_prepare_56 0 rfl ?_
        refine k_get C dX4_prepare_57 (k_gX33_3 w) k_fX4_45 (Or.inl rfl) ?_
        refine k_iload C dX4_prepare_60 3 rfl ?_
        refine k_iload_n C dX4_prepare_62 1 rfl ?_
        obtain ⟨v63, h63, h⟩ := k_bd_e h
        refine k_goI (k_runV C dX4_prepare_63 (e_X1_seen (d := 3) (Nat.le_refl _) h63) k_lX4_107 k_yX1_seen (k_oX12 w) (by omega) rfl (Nat.le_of_ble_eq_true rfl)) ?_
        obtain ⟨q66, h⟩ := k_gd_e h
        refine k_iast C dX4_prepare_66 (k_aX37 w) q66 ?_
        refine k_st (fun s66 es66 => ?_)
        replace h := k_nm_e h s66 es66
        refine k_aload_n C dX4_prepare_67 0 rfl ?_
        refine k_get C dX4_prepare_68 (k_gX33_9 w) k_fX4_36 (Or.inl rfl) ?_
        refine k_iload C dX4_prepare_71 3 rfl ?_
        refine k_aload_n C dX4_prepare_73 0 rfl ?_
        refine k_get C dX4_prepare_74 (k_gX33_3 w) k_fX4_45 (Or.inl rfl) ?_
        refine k_iload C dX4_prepare_77 3 rfl ?_
        obtain ⟨v79, h79, h⟩ := k_bd_e h
        refine k_goI (k_runV C dX4_prepare_79 (e_X1_stakeOf (d := 2) (Nat.le_refl _) h79) k_lX4_110 k_yX1_stakeOf (k_oX12 w) (by omega) rfl (Nat.le_of_ble_eq_true rfl)) ?_
        refine k_i2l C dX4_prepare_82 ?_
        obtain ⟨q83, h⟩ := k_gd_e h
        refine k_last C dX4_prepare_83 (k_aX38 w) q83 ?_
        refine k_st (fun s83 es83 => ?_)
        replace h := k_nm_e h s83 es83
        refine k_iinc C dX4_prepare_84 3 rfl (v := 1) rfl (by decide) [1, 2, 3, 0] (L' := fun z9 => [(0, .ref (w.2.1 33)), (2, .int x2), (3, .int x3), (4, .int z9)]) (fun z9 => rfl) (fun y84 ey84 => ?_)
        replace h := k_nm_e h y84 ey84
        refine k_goto C dX4_prepare_87 (tgt := 24) (by decide) ?_
        exact ih24 _ _ h
  refine k_sub (L' := [(0, .ref (w.2.1 33)), (2, .int x2), (3, .int x3), (4, .int (0 : Int32))]) [0, 2, 3, 4] rfl ?_
  exact K24 _ _ _ h
def f_X4_isWorthHearing (x1 : Int32) (σ : k_St) : Option (Int32) :=
  k_loop (fun (g2 : Int32 → Option (Int32)) (z2 : Int32) => match z2 with
    | v2_2 =>
      k_if ((k_rd σ 33 10) ≤ v2_2)
        (some (0 : Int32))
        (k_gd (k_ix v2_2 6 = true) <|
        k_if ((k_rd σ 36 v2_2.toNatClampNeg) = x1)
          (k_gd (k_ix v2_2 6 = true) <|
          k_if ((lg_cmp (k_rl σ 38 v2_2.toNatClampNeg) (0 : Int64)) ≤ (0 : Int32))
            (k_nm (v2_2 + (1 : Int32)) fun y33 =>
            g2 y33)
            (some (1 : Int32)))
          (k_nm (v2_2 + (1 : Int32)) fun y33 =>
          g2 y33))) 100000 (0 : Int32)
set_option maxHeartbeats 4000000 in
set_option maxRecDepth 100000 in
theorem e_X4_isWorthHearing {l : Launch} {w : k_WC} {d : Nat} (hd : 2 ≤ d) {x1 : Int32}  {σ : k_St} {r : Int32} (h : f_X4_isWorthHearing x1 σ = some r) : k_EI l (k_PX w) yX4_isWorthHearing cX4_isWorthHearing 3 (some .boolean) d [.ref (w.2.1 33), .int x1] σ r σ := by
  refine k_of (own := RX4) rfl (by decide) (Nat.le_of_ble_eq_true rfl) (fun X hX C hr => ?_)
  show k_K (k_PX w) X (k_MQ X (k_Qi (k_PX w) r σ) (k_PX w).2.2.1) 0 [(0, .ref (w.2.1 33)), (1, .int x1)] [] σ
  unfold f_X4_isWorthHearing at h
  refine k_iconst C dX4_isWorthHearing_0 (v := 0) rfl ?_
  refine k_istore_n C dX4_isWorthHearing_1 (by decide) [1, 2, 0] (L' := [(0, .ref (w.2.1 33)), (1, .int x1), (2, .int (0 : Int32))]) rfl ?_
  obtain ⟨b2, eb2, h⟩ := k_lp_e h
  have K2 : ∀ (n : Nat) (v2_2 : Int32), k_loop b2 n v2_2 = some r → k_K (k_PX w) X (k_MQ X (k_Qi (k_PX w) r σ) (k_PX w).2.2.1) 2 [(0, .ref (w.2.1 33)), (1, .int x1), (2, .int v2_2)] [] σ := by
    intro n
    induction n with
    | zero => intro v2_2 h; cases h
    | succ n ih2 =>
      intro v2_2 h
      obtain ⟨g2, eg2, h⟩ := k_lp_s h
      rw [← eg2] at ih2
      rw [eb2] at h
      refine k_iload_n C dX4_isWorthHearing_2 2 rfl ?_
      refine k_aload_n C dX4_isWorthHearing_3 0 rfl ?_
      refine k_get C dX4_isWorthHearing_4 (k_gX33_10 w) k_fX4_39 (Or.inl rfl) ?_
      refine k_icmp_ge C dX4_isWorthHearing_7 (tgt := 39) (by decide) (fun c7 => ?_) (fun c7 => ?_)
      · replace h := k_if_t h c7
        refine k_iconst C dX4_isWorthHearing_39 (v := 0) rfl ?_
        exact k_zret C dX4_isWorthHearing_40 hr rfl (k_p1 h)
      · replace h := k_if_f h c7
        refine k_aload_n C dX4_isWorthHearing_10 0 rfl ?_
        refine k_get C dX4_isWorthHearing_11 (k_gX33_7 w) k_fX4_29 (Or.inl rfl) ?_
        refine k_iload_n C dX4_isWorthHearing_14 2 rfl ?_
        obtain ⟨q15, h⟩ := k_gd_e h
        refine k_iald C dX4_isWorthHearing_15 (k_aX36 w) q15 ?_
        refine k_iload_n C dX4_isWorthHearing_16 1 rfl ?_
        refine k_icmp_ne C dX4_isWorthHearing_17 (tgt := 33) (by decide) (fun c17 => ?_) (fun c17 => ?_)
        · replace h := k_if_f h c17
          refine k_iinc C dX4_isWorthHearing_33 2 rfl (v := 1) rfl (by decide) [1, 2, 0] (L' := fun z9 => [(0, .ref (w.2.1 33)), (1, .int x1), (2, .int z9)]) (fun z9 => rfl) (fun y33 ey33 => ?_)
          replace h := k_nm_e h y33 ey33
          refine k_goto C dX4_isWorthHearing_36 (tgt := 2) (by decide) ?_
          exact ih2 _ h
        · replace h := k_if_t h c17
          refine k_aload_n C dX4_isWorthHearing_20 0 rfl ?_
          refine k_get C dX4_isWorthHearing_21 (k_gX33_9 w) k_fX4_36 (Or.inl rfl) ?_
          refine k_iload_n C dX4_isWorthHearing_24 2 rfl ?_
          obtain ⟨q25, h⟩ := k_gd_e h
          refine k_lald C dX4_isWorthHearing_25 (k_aX38 w) q25 ?_
          refine k_lconst C dX4_isWorthHearing_26 (v := 0) rfl ?_
          refine k_lcmp C dX4_isWorthHearing_27 ?_
          refine k_if_le C dX4_isWorthHearing_28 (tgt := 33) (by decide) (fun c28 => ?_) (fun c28 => ?_)
          · replace h := k_if_t h c28
            refine k_iinc C dX4_isWorthHearing_33 2 rfl (v := 1) rfl (by decide) [1, 2, 0] (L' := fun z9 => [(0, .ref (w.2.1 33)), (1, .int x1), (2, .int z9)]) (fun z9 => rfl) (fun y33 ey33 => ?_)
            replace h := k_nm_e h y33 ey33
            refine k_goto C dX4_isWorthHearing_36 (tgt := 2) (by decide) ?_
            exact ih2 _ h
          · replace h := k_if_f h c28
            refine k_iconst C dX4_isWorthHearing_31 (v := 1) rfl ?_
            exact k_zret C dX4_isWorthHearing_32 hr rfl (k_p1 h)
  exact K2 _ _ h
def f_X4_addPlace (x1 : Int32) (x2 : Int32) (x3 : Int32) (σ : k_St) : Option (Int64 × k_St) :=
  k_gd (k_ix x1 6 = true) <|
  k_nm ((x3 + ((k_rd σ 37 x1.toNatClampNeg) * (8 : Int32)))) fun y14 =>
  k_bd (f_X11_within x2 (0 : Int32) (7 : Int32)) fun v20 =>
  k_if (v20 = (0 : Int32))
    (some ((0 : Int64), σ))
    (k_bd (f_X11_within y14 (0 : Int32) ((160 : Int32) - (8 : Int32))) fun v37 =>
    k_if (v37 = (0 : Int32))
      (some ((0 : Int64), σ))
      (k_loop (fun (g48 : Int64 × Int32 × k_St → Option (Int64 × k_St)) (z48 : Int64 × Int32 × k_St) => match z48 with
        | (v4_48, v7_48, s_48) =>
          k_if (x2 < v7_48)
            (some (v4_48, s_48))
            (k_gd (k_ix x1 6 = true) <|
            k_gd (k_ix ((x2 * (8 : Int32)) + v7_48) 64 = true) <|
            k_nm (((k_rl s_48 38 x1.toNatClampNeg) * (k_rl s_48 34 ((x2 * (8 : Int32)) + v7_48).toNatClampNeg))) fun y73 =>
            k_gd (k_ix (y14 + v7_48) 160 = true) <|
            k_if ((lg_cmp y73 (k_rl s_48 35 (y14 + v7_48).toNatClampNeg)) ≤ (0 : Int32))
              (k_nm (v7_48 + (1 : Int32)) fun y121 =>
              g48 (v4_48, y121, s_48))
              (k_gd (k_ix (y14 + v7_48) 160 = true) <|
              k_nm ((v4_48 + (y73 - (k_rl s_48 35 (y14 + v7_48).toNatClampNeg)))) fun y107 =>
              k_gd (k_ix (y14 + v7_48) 160 = true) <|
              k_nm (k_wl s_48 35 (y14 + v7_48).toNatClampNeg y73) fun s120 =>
              k_nm (v7_48 + (1 : Int32)) fun y121 =>
              g48 (y107, y121, s120)))) 100000 ((0 : Int64), (0 : Int32), σ)))
set_option maxHeartbeats 4000000 in
set_option maxRecDepth 100000 in
theorem e_X4_addPlace {l : Launch} {w : k_WC} {d : Nat} (hd : 3 ≤ d) {x1 : Int32} {x2 : Int32} {x3 : Int32}  {σ σ' : k_St} {r : Int64} (h : f_X4_addPlace x1 x2 x3 σ = some (r, σ')) : k_EL l (k_PX w) yX4_addPlace cX4_addPlace 10 d [.ref (w.2.1 33), .int x1, .int x2, .int x3] σ r σ' := by
  refine k_of (own := RX4) rfl (by decide) (Nat.le_of_ble_eq_true rfl) (fun X hX C hr => ?_)
  show k_K (k_PX w) X (k_MQ X (k_Ql (k_PX w) r σ') (k_PX w).2.2.1) 0 [(0, .ref (w.2.1 33)), (1, .int x1), (2, .int x2), (3, .int x3)] [] σ
  unfold f_X4_addPlace at h
  refine k_lconst C dX4_addPlace_0 (v := 0) rfl ?_
  refine k_lstore C dX4_addPlace_1 (by decide) [1, 2, 3, 4, 0] (L' := [(0, .ref (w.2.1 33)), (1, .int x1), (2, .int x2), (3, .int x3), (4, .long (0 : Int64))]) rfl ?_
  refine k_iload_n C dX4_addPlace_3 3 rfl ?_
  refine k_aload_n C dX4_addPlace_4 0 rfl ?_
  refine k_get C dX4_addPlace_5 (k_gX33_8 w) k_fX4_33 (Or.inl rfl) ?_
  refine k_iload_n C dX4_addPlace_8 1 rfl ?_
  obtain ⟨q9, h⟩ := k_gd_e h
  refine k_iald C dX4_addPlace_9 (k_aX37 w) q9 ?_
  refine k_bipush C dX4_addPlace_10 (v := 8) rfl ?_
  refine k_imul C dX4_addPlace_12 ?_
  refine k_iadd C dX4_addPlace_13 ?_
  refine k_topi (fun y14 ey14 => ?_)
  replace h := k_nm_e h y14 ey14
  refine k_istore C dX4_addPlace_14 (by decide) [1, 2, 3, 4, 5, 0] (L' := [(0, .ref (w.2.1 33)), (1, .int x1), (2, .int x2), (3, .int x3), (4, .long (0 : Int64)), (6, .int y14)]) rfl ?_
  refine k_iload_n C dX4_addPlace_16 2 rfl ?_
  refine k_iconst C dX4_addPlace_17 (v := 0) rfl ?_
  refine k_bipush C dX4_addPlace_18 (v := 7) rfl ?_
  obtain ⟨v20, h20, h⟩ := k_bd_e h
  refine k_goI (k_runSN C dX4_addPlace_20 (e_X11_within (d := 2) (Nat.le_refl _) h20) k_lX4_128 k_yX11_within (by omega) rfl (Nat.le_of_ble_eq_true rfl)) ?_
  refine k_if_eq C dX4_addPlace_23 (tgt := 43) (by decide) (fun c23 => ?_) (fun c23 => ?_)
  · replace h := k_if_t h c23
    refine k_lconst C dX4_addPlace_43 (v := 0) rfl ?_
    exact k_lret C dX4_addPlace_44 hr (Option.some.inj h)
  · replace h := k_if_f h c23
    refine k_iload C dX4_addPlace_26 5 rfl ?_
    refine k_iconst C dX4_addPlace_28 (v := 0) rfl ?_
    refine k_aload_n C dX4_addPlace_29 0 rfl ?_
    refine k_get C dX4_addPlace_30 (k_gX33_6 w) k_fX4_26 (Or.inl rfl) ?_
    refine k_alenL C dX4_addPlace_33 (k_aX35 w) (v := 160) rfl ?_
    refine k_bipush C dX4_addPlace_34 (v := 8) rfl ?_
    refine k_isub C dX4_addPlace_36 ?_
    obtain ⟨v37, h37, h⟩ := k_bd_e h
    refine k_goI (k_runSN C dX4_addPlace_37 (e_X11_within (d := 2) (Nat.le_refl _) h37) k_lX4_128 k_yX11_within (by omega) rfl (Nat.le_of_ble_eq_true rfl)) ?_
    refine k_if_ne C dX4_addPlace_40 (tgt := 45) (by decide) (fun c40 => ?_) (fun c40 => ?_)
    · replace h := k_if_f h c40
      refine k_iconst C dX4_addPlace_45 (v := 0) rfl ?_
      refine k_istore C dX4_addPlace_46 (by decide) [1, 2, 3, 4, 5, 6, 0] (L' := [(0, .ref (w.2.1 33)), (1, .int x1), (2, .int x2), (3, .int x3), (4, .long (0 : Int64)), (6, .int y14), (7, .int (0 : Int32))]) rfl ?_
      obtain ⟨b48, eb48, h⟩ := k_lp_e h
      have K48 : ∀ (n : Nat) (v4_48 : Int64) (v7_48 : Int32) (s_48 : k_St), k_loop b48 n (v4_48, v7_48, s_48) = some (r, σ') → k_K (k_PX w) X (k_MQ X (k_Ql (k_PX w) r σ') (k_PX w).2.2.1) 48 [(0, .ref (w.2.1 33)), (1, .int x1), (2, .int x2), (4, .long v4_48), (6, .int y14), (7, .int v7_48)] [] s_48 := by
        intro n
        induction n with
        | zero => intro v4_48 v7_48 s_48 h; cases h
        | succ n ih48 =>
          intro v4_48 v7_48 s_48 h
          obtain ⟨g48, eg48, h⟩ := k_lp_s h
          rw [← eg48] at ih48
          rw [eb48] at h
          refine k_iload C dX4_addPlace_48 5 rfl ?_
          refine k_iload_n C dX4_addPlace_50 2 rfl ?_
          refine k_icmp_gt C dX4_addPlace_51 (tgt := 127) (by decide) (fun c51 => ?_) (fun c51 => ?_)
          · replace h := k_if_t h c51
            refine k_lload C dX4_addPlace_127 3 rfl ?_
            exact k_lret C dX4_addPlace_129 hr (Option.some.inj h)
          · replace h := k_if_f h c51
            refine k_aload_n C dX4_addPlace_54 0 rfl ?_
            refine k_get C dX4_addPlace_55 (k_gX33_9 w) k_fX4_36 (Or.inl rfl) ?_
            refine k_iload_n C dX4_addPlace_58 1 rfl ?_
            obtain ⟨q59, h⟩ := k_gd_e h
            refine k_lald C dX4_addPlace_59 (k_aX38 w) q59 ?_
            refine k_aload_n C dX4_addPlace_60 0 rfl ?_
            refine k_get C dX4_addPlace_61 (k_gX33_5 w) k_fX4_22 (Or.inl rfl) ?_
            refine k_iload_n C dX4_addPlace_64 2 rfl ?_
            refine k_bipush C dX4_addPlace_65 (v := 8) rfl ?_
            refine k_imul C dX4_addPlace_67 ?_
            refine k_iload C dX4_addPlace_68 5 rfl ?_
            refine k_iadd C dX4_addPlace_70 ?_
            obtain ⟨q71, h⟩ := k_gd_e h
            refine k_lald C dX4_addPlace_71 (k_aX34 w) q71 ?_
            refine k_lmul C dX4_addPlace_72 ?_
            refine k_topl (fun y73 ey73 => ?_)
            replace h := k_nm_e h y73 ey73
            refine k_lstore C dX4_addPlace_73 (by decide) [1, 2, 3, 4, 5, 6, 0] (L' := [(0, .ref (w.2.1 33)), (1, .int x1), (2, .int x2), (4, .long v4_48), (6, .int y14), (7, .int v7_48), (8, .long y73)]) rfl ?_
            refine k_lload C dX4_addPlace_75 6 rfl ?_
            refine k_aload_n C dX4_addPlace_77 0 rfl ?_
            refine k_get C dX4_addPlace_78 (k_gX33_6 w) k_fX4_26 (Or.inl rfl) ?_
            refine k_iload C dX4_addPlace_81 4 rfl ?_
            refine k_iload C dX4_addPlace_83 5 rfl ?_
            refine k_iadd C dX4_addPlace_85 ?_
            obtain ⟨q86, h⟩ := k_gd_e h
            refine k_lald C dX4_addPlace_86 (k_aX35 w) q86 ?_
            refine k_lcmp C dX4_addPlace_87 ?_
            refine k_if_le C dX4_addPlace_88 (tgt := 121) (by decide) (fun c88 => ?_) (fun c88 => ?_)
            · replace h := k_if_t h c88
              refine k_iinc C dX4_addPlace_121 5 rfl (v := 1) rfl (by decide) [1, 2, 3, 4, 5, 0, 6] (L' := fun z9 => [(0, .ref (w.2.1 33)), (1, .int x1), (2, .int x2), (4, .long v4_48), (6, .int y14), (7, .int z9), (8, .long y73)]) (fun z9 => rfl) (fun y121 ey121 => ?_)
              replace h := k_nm_e h y121 ey121
              refine k_goto C dX4_addPlace_124 (tgt := 48) (by decide) ?_
              refine k_sub (L' := [(0, .ref (w.2.1 33)), (1, .int x1), (2, .int x2), (4, .long v4_48), (6, .int y14), (7, .int y121)]) [0, 1, 2, 3, 4, 5] rfl ?_
              exact ih48 _ _ _ h
            · replace h := k_if_f h c88
              refine k_lload C dX4_addPlace_91 3 rfl ?_
              refine k_lload C dX4_addPlace_93 6 rfl ?_
              refine k_aload_n C dX4_addPlace_95 0 rfl ?_
              refine k_get C dX4_addPlace_96 (k_gX33_6 w) k_fX4_26 (Or.inl rfl) ?_
              refine k_iload C dX4_addPlace_99 4 rfl ?_
              refine k_iload C dX4_addPlace_101 5 rfl ?_
              refine k_iadd C dX4_addPlace_103 ?_
              obtain ⟨q104, h⟩ := k_gd_e h
              refine k_lald C dX4_addPlace_104 (k_aX35 w) q104 ?_
              refine k_lsub C dX4_addPlace_105 ?_
              refine k_ladd C dX4_addPlace_106 ?_
              refine k_topl (fun y107 ey107 => ?_)
              replace h := k_nm_e h y107 ey107
              refine k_lstore C dX4_addPlace_107 (by decide) [1, 2, 3, 0, 4, 5, 6] (L' := [(0, .ref (w.2.1 33)), (1, .int x1), (2, .int x2), (4, .long y107), (6, .int y14), (7, .int v7_48), (8, .long y73)]) rfl ?_
              refine k_aload_n C dX4_addPlace_109 0 rfl ?_
              refine k_get C dX4_addPlace_110 (k_gX33_6 w) k_fX4_26 (Or.inl rfl) ?_
              refine k_iload C dX4_addPlace_113 4 rfl ?_
              refine k_iload C dX4_addPlace_115 5 rfl ?_
              refine k_iadd C dX4_addPlace_117 ?_
              refine k_lload C dX4_addPlace_118 6 rfl ?_
              obtain ⟨q120, h⟩ := k_gd_e h
              refine k_last C dX4_addPlace_120 (k_aX35 w) q120 ?_
              refine k_st (fun s120 es120 => ?_)
              replace h := k_nm_e h s120 es120
              refine k_iinc C dX4_addPlace_121 5 rfl (v := 1) rfl (by decide) [1, 2, 3, 4, 5, 0, 6] (L' := fun z9 => [(0, .ref (w.2.1 33)), (1, .int x1), (2, .int x2), (4, .long y107), (6, .int y14), (7, .int z9), (8, .long y73)]) (fun z9 => rfl) (fun y121 ey121 => ?_)
              replace h := k_nm_e h y121 ey121
              refine k_goto C dX4_addPlace_124 (tgt := 48) (by decide) ?_
              refine k_sub (L' := [(0, .ref (w.2.1 33)), (1, .int x1), (2, .int x2), (4, .long y107), (6, .int y14), (7, .int y121)]) [0, 1, 2, 3, 4, 5] rfl ?_
              exact ih48 _ _ _ h
      refine k_sub (L' := [(0, .ref (w.2.1 33)), (1, .int x1), (2, .int x2), (4, .long (0 : Int64)), (6, .int y14), (7, .int (0 : Int32))]) [0, 1, 2, 4, 5, 6] rfl ?_
      exact K48 _ _ _ _ h
    · replace h := k_if_t h c40
      refine k_lconst C dX4_addPlace_43 (v := 0) rfl ?_
      exact k_lret C dX4_addPlace_44 hr (Option.some.inj h)
def f_X4_addSound (x1 : Int32) (x2 : Int32) (x3 : Int64) (σ : k_St) : Option (Int64 × k_St) :=
  k_nm (((x1 + (1 : Int32)) * (32 : Int32))) fun y6 =>
  k_bd (f_X11_within y6 (32 : Int32) ((160 : Int32) - (32 : Int32))) fun v20 =>
  k_if (v20 = (0 : Int32))
    (some (x3, σ))
    (k_gd (o_cp (y6 - (32 : Int32)) y6 (32 : Int32) 160 160 = true) <|
    k_nm (k_cpL σ 35 35 (y6 - (32 : Int32)) y6 (32 : Int32)) fun s45 =>
    k_loop (fun (g54 : Int64 × Int32 × k_St → Option (Int64 × k_St)) (z54 : Int64 × Int32 × k_St) => match z54 with
      | (v6_54, v8_54, s_54) =>
        k_if ((k_rd s_54 33 10) ≤ v8_54)
          (some (v6_54, s_54))
          (k_gd (k_ix v8_54 6 = true) <|
          k_if ((k_rd s_54 36 v8_54.toNatClampNeg) = x1)
            (k_b2 (f_X4_addPlace v8_54 x2 y6 s_54) fun v82 s82 =>
            k_nm ((v6_54 + v82)) fun y86 =>
            k_nm (v8_54 + (1 : Int32)) fun y88 =>
            g54 (y86, y88, s82))
            (k_nm (v8_54 + (1 : Int32)) fun y88 =>
            g54 (v6_54, y88, s_54)))) 100000 (x3, (0 : Int32), s45))
set_option maxHeartbeats 4000000 in
set_option maxRecDepth 100000 in
theorem e_X4_addSound {l : Launch} {w : k_WC} {d : Nat} (hd : 4 ≤ d) {x1 : Int32} {x2 : Int32} {x3 : Int64}  {σ σ' : k_St} {r : Int64} (h : f_X4_addSound x1 x2 x3 σ = some (r, σ')) : k_EL l (k_PX w) yX4_addSound cX4_addSound 9 d [.ref (w.2.1 33), .int x1, .int x2, .long x3] σ r σ' := by
  refine k_of (own := RX4) rfl (by decide) (Nat.le_of_ble_eq_true rfl) (fun X hX C hr => ?_)
  show k_K (k_PX w) X (k_MQ X (k_Ql (k_PX w) r σ') (k_PX w).2.2.1) 0 [(0, .ref (w.2.1 33)), (1, .int x1), (2, .int x2), (3, .long x3)] [] σ
  unfold f_X4_addSound at h
  refine k_iload_n C dX4_addSound_0 1 rfl ?_
  refine k_iconst C dX4_addSound_1 (v := 1) rfl ?_
  refine k_iadd C dX4_addSound_2 ?_
  refine k_bipush C dX4_addSound_3 (v := 32) rfl ?_
  refine k_imul C dX4_addSound_5 ?_
  refine k_topi (fun y6 ey6 => ?_)
  replace h := k_nm_e h y6 ey6
  refine k_istore C dX4_addSound_6 (by decide) [1, 2, 3, 4, 0] (L' := [(0, .ref (w.2.1 33)), (1, .int x1), (2, .int x2), (3, .long x3), (5, .int y6)]) rfl ?_
  refine k_iload C dX4_addSound_8 4 rfl ?_
  refine k_bipush C dX4_addSound_10 (v := 32) rfl ?_
  refine k_aload_n C dX4_addSound_12 0 rfl ?_
  refine k_get C dX4_addSound_13 (k_gX33_6 w) k_fX4_26 (Or.inl rfl) ?_
  refine k_alenL C dX4_addSound_16 (k_aX35 w) (v := 160) rfl ?_
  refine k_bipush C dX4_addSound_17 (v := 32) rfl ?_
  refine k_isub C dX4_addSound_19 ?_
  obtain ⟨v20, h20, h⟩ := k_bd_e h
  refine k_goI (k_runSN C dX4_addSound_20 (e_X11_within (d := 2) (Nat.le_refl _) h20) k_lX4_128 k_yX11_within (by omega) rfl (Nat.le_of_ble_eq_true rfl)) ?_
  refine k_if_ne C dX4_addSound_23 (tgt := 28) (by decide) (fun c23 => ?_) (fun c23 => ?_)
  · replace h := k_if_f h c23
    refine k_aload_n C dX4_addSound_28 0 rfl ?_
    refine k_get C dX4_addSound_29 (k_gX33_6 w) k_fX4_26 (Or.inl rfl) ?_
    refine k_iload C dX4_addSound_32 4 rfl ?_
    refine k_bipush C dX4_addSound_34 (v := 32) rfl ?_
    refine k_isub C dX4_addSound_36 ?_
    refine k_aload_n C dX4_addSound_37 0 rfl ?_
    refine k_get C dX4_addSound_38 (k_gX33_6 w) k_fX4_26 (Or.inl rfl) ?_
    refine k_iload C dX4_addSound_41 4 rfl ?_
    refine k_bipush C dX4_addSound_43 (v := 32) rfl ?_
    obtain ⟨q45, h⟩ := k_gd_e h
    refine k_copyl C dX4_addSound_45 k_lcX4_132 (k_aX35 w) (k_aX35 w) q45 (by omega) (Nat.le_of_ble_eq_true rfl) ?_
    refine k_st (fun s45 es45 => ?_)
    replace h := k_nm_e h s45 es45
    refine k_lload_n C dX4_addSound_48 3 rfl ?_
    refine k_lstore C dX4_addSound_49 (by decide) [1, 2, 3, 4, 5, 0] (L' := [(0, .ref (w.2.1 33)), (1, .int x1), (2, .int x2), (3, .long x3), (5, .int y6), (6, .long x3)]) rfl ?_
    refine k_iconst C dX4_addSound_51 (v := 0) rfl ?_
    refine k_istore C dX4_addSound_52 (by decide) [1, 2, 3, 4, 5, 6, 0] (L' := [(0, .ref (w.2.1 33)), (1, .int x1), (2, .int x2), (3, .long x3), (5, .int y6), (6, .long x3), (8, .int (0 : Int32))]) rfl ?_
    obtain ⟨b54, eb54, h⟩ := k_lp_e h
    have K54 : ∀ (n : Nat) (v6_54 : Int64) (v8_54 : Int32) (s_54 : k_St), k_loop b54 n (v6_54, v8_54, s_54) = some (r, σ') → k_K (k_PX w) X (k_MQ X (k_Ql (k_PX w) r σ') (k_PX w).2.2.1) 54 [(0, .ref (w.2.1 33)), (1, .int x1), (2, .int x2), (5, .int y6), (6, .long v6_54), (8, .int v8_54)] [] s_54 := by
      intro n
      induction n with
      | zero => intro v6_54 v8_54 s_54 h; cases h
      | succ n ih54 =>
        intro v6_54 v8_54 s_54 h
        obtain ⟨g54, eg54, h⟩ := k_lp_s h
        rw [← eg54] at ih54
        rw [eb54] at h
        refine k_iload C dX4_addSound_54 5 rfl ?_
        refine k_aload_n C dX4_addSound_56 0 rfl ?_
        refine k_get C dX4_addSound_57 (k_gX33_10 w) k_fX4_39 (Or.inl rfl) ?_
        refine k_icmp_ge C dX4_addSound_60 (tgt := 94) (by decide) (fun c60 => ?_) (fun c60 => ?_)
        · replace h := k_if_t h c60
          refine k_lload C dX4_addSound_94 4 rfl ?_
          exact k_lret C dX4_addSound_96 hr (Option.some.inj h)
        · replace h := k_if_f h c60
          refine k_aload_n C dX4_addSound_63 0 rfl ?_
          refine k_get C dX4_addSound_64 (k_gX33_7 w) k_fX4_29 (Or.inl rfl) ?_
          refine k_iload C dX4_addSound_67 5 rfl ?_
          obtain ⟨q69, h⟩ := k_gd_e h
          refine k_iald C dX4_addSound_69 (k_aX36 w) q69 ?_
          refine k_iload_n C dX4_addSound_70 1 rfl ?_
          refine k_icmp_ne C dX4_addSound_71 (tgt := 88) (by decide) (fun c71 => ?_) (fun c71 => ?_)
          · replace h := k_if_f h c71
            refine k_iinc C dX4_addSound_88 5 rfl (v := 1) rfl (by decide) [1, 2, 3, 4, 5, 0] (L' := fun z9 => [(0, .ref (w.2.1 33)), (1, .int x1), (2, .int x2), (5, .int y6), (6, .long v6_54), (8, .int z9)]) (fun z9 => rfl) (fun y88 ey88 => ?_)
            replace h := k_nm_e h y88 ey88
            refine k_goto C dX4_addSound_91 (tgt := 54) (by decide) ?_
            exact ih54 _ _ _ h
          · replace h := k_if_t h c71
            refine k_lload C dX4_addSound_74 4 rfl ?_
            refine k_aload_n C dX4_addSound_76 0 rfl ?_
            refine k_iload C dX4_addSound_77 5 rfl ?_
            refine k_iload_n C dX4_addSound_79 2 rfl ?_
            refine k_iload C dX4_addSound_80 3 rfl ?_
            obtain ⟨v82, s82, h82, h⟩ := k_b2_e h
            refine k_goL (k_runV C dX4_addSound_82 (e_X4_addPlace (d := 3) (Nat.le_refl _) h82) k_lX4_138 k_yX4_addPlace (k_oX33 w) (by omega) rfl (Nat.le_of_ble_eq_true rfl)) ?_
            refine k_ladd C dX4_addSound_85 ?_
            refine k_topl (fun y86 ey86 => ?_)
            replace h := k_nm_e h y86 ey86
            refine k_lstore C dX4_addSound_86 (by decide) [1, 2, 3, 4, 0, 5] (L' := [(0, .ref (w.2.1 33)), (1, .int x1), (2, .int x2), (5, .int y6), (6, .long y86), (8, .int v8_54)]) rfl ?_
            refine k_iinc C dX4_addSound_88 5 rfl (v := 1) rfl (by decide) [1, 2, 3, 4, 5, 0] (L' := fun z9 => [(0, .ref (w.2.1 33)), (1, .int x1), (2, .int x2), (5, .int y6), (6, .long y86), (8, .int z9)]) (fun z9 => rfl) (fun y88 ey88 => ?_)
            replace h := k_nm_e h y88 ey88
            refine k_goto C dX4_addSound_91 (tgt := 54) (by decide) ?_
            exact ih54 _ _ _ h
    refine k_sub (L' := [(0, .ref (w.2.1 33)), (1, .int x1), (2, .int x2), (5, .int y6), (6, .long x3), (8, .int (0 : Int32))]) [0, 1, 2, 4, 5, 6] rfl ?_
    exact K54 _ _ _ _ h
  · replace h := k_if_t h c23
    refine k_lload_n C dX4_addSound_26 3 rfl ?_
    exact k_lret C dX4_addSound_27 hr (Option.some.inj h)
def b_X4_tryWords (p_tryWords : Int32 → Int64 → Int32 → k_St → Option (k_St)) (x1 : Int32) (x2 : Int64) (x4 : Int32) (σ : k_St) : Option (k_St) :=
  k_if (x1 < (4 : Int32))
    (k_bd (f_X4_isWorthHearing x1 σ) fun v28 =>
    k_jn (fun (t0_42 : Int32) =>
      k_loop (fun (g47 : Int32 × k_St → Option (k_St)) (z47 : Int32 × k_St) => match z47 with
        | (v6_47, s_47) =>
          k_if (t0_42 ≤ v6_47)
            (some s_47)
            (k_b2 (f_X4_addSound x1 v6_47 x2 s_47) fun v63 s63 =>
            k_bd (p_tryWords (x1 + (1 : Int32)) v63 (((10 : Int32) * x4) + v6_47) s63) fun s74 =>
            k_nm (v6_47 + (1 : Int32)) fun y77 =>
            g47 (y77, s74))) 100000 ((0 : Int32), σ)) fun j42 =>
    k_if (v28 = (0 : Int32))
      (j42 (1 : Int32))
      (j42 (k_rd σ 33 11)))
    (k_if ((lg_cmp x2 (k_rl σ 33 0)) ≤ (0 : Int32))
      (some σ)
      (k_nm (k_wl σ 33 0 x2) fun s16 =>
      k_nm (k_wr s16 33 1 x4) fun s22 =>
      some s22))
set_option maxHeartbeats 4000000 in
set_option maxRecDepth 100000 in
theorem eb_X4_tryWords {p_tryWords : Int32 → Int64 → Int32 → k_St → Option (k_St)} {d0 : Nat} (H_tryWords : ∀ {l : Launch} {w : k_WC} {d : Nat} (_ : d0 ≤ d) {x1 : Int32} {x2 : Int64} {x4 : Int32} {σ σ' : k_St} (_ : p_tryWords x1 x2 x4 σ = some σ'), k_EV l (k_PX w) yX4_tryWords cX4_tryWords 7 d [.ref (w.2.1 33), .int x1, .long x2, .int x4] σ σ') {l : Launch} {w : k_WC} {d : Nat} (hb : 5 ≤ d0) (hd : d0 < d) {x1 : Int32} {x2 : Int64} {x4 : Int32}  {σ σ' : k_St} (h : b_X4_tryWords p_tryWords x1 x2 x4 σ = some σ') : k_EV l (k_PX w) yX4_tryWords cX4_tryWords 7 d [.ref (w.2.1 33), .int x1, .long x2, .int x4] σ σ' := by
  refine k_of (own := RX4) rfl (by decide) (Nat.le_of_ble_eq_true rfl) (fun X hX C hr => ?_)
  show k_K (k_PX w) X (k_MQ X (k_Qv (k_PX w) σ') (k_PX w).2.2.1) 0 [(0, .ref (w.2.1 33)), (1, .int x1), (2, .long x2), (4, .int x4)] [] σ
  unfold b_X4_tryWords at h
  refine k_iload_n C dX4_tryWords_0 1 rfl ?_
  refine k_iconst C dX4_tryWords_1 (v := 4) rfl ?_
  refine k_icmp_lt C dX4_tryWords_2 (tgt := 26) (by decide) (fun c2 => ?_) (fun c2 => ?_)
  · replace h := k_if_t h c2
    refine k_aload_n C dX4_tryWords_26 0 rfl ?_
    refine k_iload_n C dX4_tryWords_27 1 rfl ?_
    obtain ⟨v28, h28, h⟩ := k_bd_e h
    refine k_goI (k_runV C dX4_tryWords_28 (e_X4_isWorthHearing (d := 2) (Nat.le_refl _) h28) k_lX4_124 k_yX4_isWorthHearing (k_oX33 w) (by omega) rfl (Nat.le_of_ble_eq_true rfl)) ?_
    obtain ⟨j42, ej42, h⟩ := k_jn_e h
    have Jj42 : ∀ (t0_42 : Int32), j42 t0_42 = some σ' → k_K (k_PX w) X (k_MQ X (k_Qv (k_PX w) σ') (k_PX w).2.2.1) 42 [(0, .ref (w.2.1 33)), (1, .int x1), (2, .long x2), (4, .int x4)] [.int t0_42] σ := by
      intro t0_42 h
      rw [ej42] at h
      refine k_istore C dX4_tryWords_42 (by decide) [1, 2, 3, 4, 0] (L' := [(0, .ref (w.2.1 33)), (1, .int x1), (2, .long x2), (4, .int x4), (5, .int t0_42)]) rfl ?_
      refine k_iconst C dX4_tryWords_44 (v := 0) rfl ?_
      refine k_istore C dX4_tryWords_45 (by decide) [1, 2, 3, 4, 5, 0] (L' := [(0, .ref (w.2.1 33)), (1, .int x1), (2, .long x2), (4, .int x4), (5, .int t0_42), (6, .int (0 : Int32))]) rfl ?_
      obtain ⟨b47, eb47, h⟩ := k_lp_e h
      have K47 : ∀ (n : Nat) (v6_47 : Int32) (s_47 : k_St), k_loop b47 n (v6_47, s_47) = some σ' → k_K (k_PX w) X (k_MQ X (k_Qv (k_PX w) σ') (k_PX w).2.2.1) 47 [(0, .ref (w.2.1 33)), (1, .int x1), (2, .long x2), (4, .int x4), (5, .int t0_42), (6, .int v6_47)] [] s_47 := by
        intro n
        induction n with
        | zero => intro v6_47 s_47 h; cases h
        | succ n ih47 =>
          intro v6_47 s_47 h
          obtain ⟨g47, eg47, h⟩ := k_lp_s h
          rw [← eg47] at ih47
          rw [eb47] at h
          refine k_iload C dX4_tryWords_47 5 rfl ?_
          refine k_iload C dX4_tryWords_49 4 rfl ?_
          refine k_icmp_ge C dX4_tryWords_51 (tgt := 83) (by decide) (fun c51 => ?_) (fun c51 => ?_)
          · replace h := k_if_t h c51
            exact k_vret C dX4_tryWords_83 hr (Option.some.inj h)
          · replace h := k_if_f h c51
            refine k_aload_n C dX4_tryWords_54 0 rfl ?_
            refine k_iload_n C dX4_tryWords_55 1 rfl ?_
            refine k_iconst C dX4_tryWords_56 (v := 1) rfl ?_
            refine k_iadd C dX4_tryWords_57 ?_
            refine k_aload_n C dX4_tryWords_58 0 rfl ?_
            refine k_iload_n C dX4_tryWords_59 1 rfl ?_
            refine k_iload C dX4_tryWords_60 5 rfl ?_
            refine k_lload_n C dX4_tryWords_62 2 rfl ?_
            obtain ⟨v63, s63, h63, h⟩ := k_b2_e h
            refine k_goL (k_runV C dX4_tryWords_63 (e_X4_addSound (d := 4) (Nat.le_refl _) h63) k_lX4_82 k_yX4_addSound (k_oX33 w) (by omega) rfl (Nat.le_of_ble_eq_true rfl)) ?_
            refine k_bipush C dX4_tryWords_66 (v := 10) rfl ?_
            refine k_iload C dX4_tryWords_68 3 rfl ?_
            refine k_imul C dX4_tryWords_70 ?_
            refine k_iload C dX4_tryWords_71 5 rfl ?_
            refine k_iadd C dX4_tryWords_73 ?_
            obtain ⟨s74, h74, h⟩ := k_bd_e h
            refine k_goV (k_runV C dX4_tryWords_74 (H_tryWords (d := d0) (Nat.le_refl _) h74) k_lX4_120 k_yX4_tryWords (k_oX33 w) (by omega) rfl (Nat.le_of_ble_eq_true rfl)) ?_
            refine k_iinc C dX4_tryWords_77 5 rfl (v := 1) rfl (by decide) [1, 2, 3, 4, 5, 0] (L' := fun z9 => [(0, .ref (w.2.1 33)), (1, .int x1), (2, .long x2), (4, .int x4), (5, .int t0_42), (6, .int z9)]) (fun z9 => rfl) (fun y77 ey77 => ?_)
            replace h := k_nm_e h y77 ey77
            refine k_goto C dX4_tryWords_80 (tgt := 47) (by decide) ?_
            exact ih47 _ _ h
      exact K47 _ _ _ h
    refine k_if_eq C dX4_tryWords_31 (tgt := 41) (by decide) (fun c31 => ?_) (fun c31 => ?_)
    · replace h := k_if_t h c31
      refine k_iconst C dX4_tryWords_41 (v := 1) rfl ?_
      exact Jj42 _ h
    · replace h := k_if_f h c31
      refine k_aload_n C dX4_tryWords_34 0 rfl ?_
      refine k_get C dX4_tryWords_35 (k_gX33_11 w) k_fX4_42 (Or.inl rfl) ?_
      refine k_goto C dX4_tryWords_38 (tgt := 42) (by decide) ?_
      exact Jj42 _ h
  · replace h := k_if_f h c2
    refine k_lload_n C dX4_tryWords_5 2 rfl ?_
    refine k_aload_n C dX4_tryWords_6 0 rfl ?_
    refine k_get C dX4_tryWords_7 (k_gX33_0 w) k_fX4_11 (Or.inl rfl) ?_
    refine k_lcmp C dX4_tryWords_10 ?_
    refine k_if_le C dX4_tryWords_11 (tgt := 25) (by decide) (fun c11 => ?_) (fun c11 => ?_)
    · replace h := k_if_t h c11
      exact k_vret C dX4_tryWords_25 hr (Option.some.inj h)
    · replace h := k_if_f h c11
      refine k_aload_n C dX4_tryWords_14 0 rfl ?_
      refine k_lload_n C dX4_tryWords_15 2 rfl ?_
      refine k_putl C dX4_tryWords_16 (k_pX33_0 w) k_fX4_11 rfl ?_
      refine k_st (fun s16 es16 => ?_)
      replace h := k_nm_e h s16 es16
      refine k_aload_n C dX4_tryWords_19 0 rfl ?_
      refine k_iload C dX4_tryWords_20 3 rfl ?_
      refine k_puti C dX4_tryWords_22 (k_pX33_1 w) k_fX4_15 (Or.inl rfl) k_xi ?_
      refine k_st (fun s22 es22 => ?_)
      replace h := k_nm_e h s22 es22
      exact k_vret C dX4_tryWords_25 hr (Option.some.inj h)
def f_X4_tryWords : Nat → Int32 → Int64 → Int32 → k_St → Option (k_St)
  | 0 => fun _ _ _ _ => none
  | n + 1 => b_X4_tryWords (f_X4_tryWords n)
theorem e_X4_tryWords_all : ∀ n : Nat, ∀ {l : Launch} {w : k_WC} {d : Nat} (_ : 5 + 1 * n ≤ d) {x1 : Int32} {x2 : Int64} {x4 : Int32} {σ σ' : k_St} (_ : f_X4_tryWords n x1 x2 x4 σ = some σ'), k_EV l (k_PX w) yX4_tryWords cX4_tryWords 7 d [.ref (w.2.1 33), .int x1, .long x2, .int x4] σ σ'
  | 0 => fun _ => by
    intros; rename_i h; cases h
  | n + 1 => by
    have ih := @e_X4_tryWords_all n
    exact fun hd => fun h => eb_X4_tryWords (d0 := 5 + 1 * n + 0) (fun hd => fun h => ih (by omega) h) (by omega) (by omega) h
theorem e_X4_tryWords : ∀ {l : Launch} {w : k_WC} {d : Nat} (_ : 15 ≤ d) {x1 : Int32} {x2 : Int64} {x4 : Int32} {σ σ' : k_St} (_ : f_X4_tryWords 10 x1 x2 x4 σ = some σ'), k_EV l (k_PX w) yX4_tryWords cX4_tryWords 7 d [.ref (w.2.1 33), .int x1, .long x2, .int x4] σ σ' := fun hd => fun h => e_X4_tryWords_all 10 (by omega) h
def f_X4_findTop  (σ : k_St) : Option (k_St) :=
  k_nm (k_wl σ 33 0 (-1 : Int64)) fun s4 =>
  k_nm (k_wr s4 33 1 (0 : Int32)) fun s9 =>
  k_bd (f_X4_tryWords 10 (0 : Int32) (0 : Int64) (0 : Int32) s9) fun s16 =>
  some s16
set_option maxHeartbeats 4000000 in
set_option maxRecDepth 100000 in
theorem e_X4_findTop {l : Launch} {w : k_WC} {d : Nat} (hd : 16 ≤ d)   {σ σ' : k_St} (h : f_X4_findTop σ = some σ') : k_EV l (k_PX w) yX4_findTop cX4_findTop 1 d [.ref (w.2.1 33)] σ σ' := by
  refine k_of (own := RX4) rfl (by decide) (Nat.le_of_ble_eq_true rfl) (fun X hX C hr => ?_)
  show k_K (k_PX w) X (k_MQ X (k_Qv (k_PX w) σ') (k_PX w).2.2.1) 0 [(0, .ref (w.2.1 33))] [] σ
  unfold f_X4_findTop at h
  refine k_aload_n C dX4_findTop_0 0 rfl ?_
  refine k_ldc2 C dX4_findTop_1 k_cX4_80 ?_
  refine k_putl C dX4_findTop_4 (k_pX33_0 w) k_fX4_11 rfl ?_
  refine k_st (fun s4 es4 => ?_)
  replace h := k_nm_e h s4 es4
  refine k_aload_n C dX4_findTop_7 0 rfl ?_
  refine k_iconst C dX4_findTop_8 (v := 0) rfl ?_
  refine k_puti C dX4_findTop_9 (k_pX33_1 w) k_fX4_15 (Or.inl rfl) k_xi ?_
  refine k_st (fun s9 es9 => ?_)
  replace h := k_nm_e h s9 es9
  refine k_aload_n C dX4_findTop_12 0 rfl ?_
  refine k_iconst C dX4_findTop_13 (v := 0) rfl ?_
  refine k_lconst C dX4_findTop_14 (v := 0) rfl ?_
  refine k_iconst C dX4_findTop_15 (v := 0) rfl ?_
  obtain ⟨s16, h16, h⟩ := k_bd_e h
  refine k_goV (k_runV C dX4_findTop_16 (e_X4_tryWords (d := 15) (Nat.le_refl _) h16) k_lX4_120 k_yX4_tryWords (k_oX33 w) (by omega) rfl (Nat.le_of_ble_eq_true rfl)) ?_
  exact k_vret C dX4_findTop_19 hr (Option.some.inj h)
def f_X4_bySigns (x1 : Int32) (x2 : Int32) (x3 : Int32) (σ : k_St) : Option (k_St) :=
  k_bd (f_X4_prepare (o_min (4 : Int32) x1) x2 x3 σ) fun s8 =>
  k_loop (fun (g14 : Int32 × k_St → Option (k_St)) (z14 : Int32 × k_St) => match z14 with
    | (v4_14, s_14) =>
      k_if ((k_rd s_14 33 11) ≤ v4_14)
        (k_bd (f_X4_findTop s_14) fun s112 =>
        some s112)
        (k_jn (fun (t2_51 : Int64) =>
          k_gd (k_ix (v4_14 * (8 : Int32)) 64 = true) <|
          k_nm (k_wl s_14 34 (v4_14 * (8 : Int32)).toNatClampNeg t2_51) fun s51 =>
          k_loop (fun (g55 : Int32 × k_St → Option (k_St)) (z55 : Int32 × k_St) => match z55 with
            | (v5_55, s_55) =>
              k_if ((k_rd s_55 33 11) ≤ v5_55)
                (k_nm (v4_14 + (1 : Int32)) fun y105 =>
                g14 (y105, s_55))
                (k_if (v5_55 = v4_14)
                  (k_gd (k_ix ((v4_14 * (8 : Int32)) + v5_55) 64 = true) <|
                  k_nm (k_wl s_55 34 ((v4_14 * (8 : Int32)) + v5_55).toNatClampNeg ((100 : Int32) - (k_rd s_55 16 5)).toInt64) fun s98 =>
                  k_nm (v5_55 + (1 : Int32)) fun y99 =>
                  g55 (y99, s98))
                  (k_gd (k_ix ((v4_14 * (8 : Int32)) + v5_55) 64 = true) <|
                  k_nm (k_wl s_55 34 ((v4_14 * (8 : Int32)) + v5_55).toNatClampNeg (0 : Int64)) fun s98 =>
                  k_nm (v5_55 + (1 : Int32)) fun y99 =>
                  g55 (y99, s98)))) 100000 ((1 : Int32), s51)) fun j51 =>
        k_if (v4_14 = (0 : Int32))
          (j51 (100 : Int64))
          (j51 (k_rd s_14 16 5).toInt64))) 100000 ((0 : Int32), s8)
set_option maxHeartbeats 4000000 in
set_option maxRecDepth 100000 in
theorem e_X4_bySigns {l : Launch} {w : k_WC} {d : Nat} (hd : 17 ≤ d) {x1 : Int32} {x2 : Int32} {x3 : Int32}  {σ σ' : k_St} (h : f_X4_bySigns x1 x2 x3 σ = some σ') : k_EV l (k_PX w) yX4_bySigns cX4_bySigns 6 d [.ref (w.2.1 33), .int x1, .int x2, .int x3] σ σ' := by
  refine k_of (own := RX4) rfl (by decide) (Nat.le_of_ble_eq_true rfl) (fun X hX C hr => ?_)
  show k_K (k_PX w) X (k_MQ X (k_Qv (k_PX w) σ') (k_PX w).2.2.1) 0 [(0, .ref (w.2.1 33)), (1, .int x1), (2, .int x2), (3, .int x3)] [] σ
  unfold f_X4_bySigns at h
  refine k_aload_n C dX4_bySigns_0 0 rfl ?_
  refine k_iconst C dX4_bySigns_1 (v := 4) rfl ?_
  refine k_iload_n C dX4_bySigns_2 1 rfl ?_
  refine k_mmin C dX4_bySigns_3 k_lX4_53 k_ym_min (by omega) (Nat.le_of_ble_eq_true rfl) ?_
  refine k_iload_n C dX4_bySigns_6 2 rfl ?_
  refine k_iload_n C dX4_bySigns_7 3 rfl ?_
  obtain ⟨s8, h8, h⟩ := k_bd_e h
  refine k_goV (k_runV C dX4_bySigns_8 (e_X4_prepare (d := 4) (Nat.le_refl _) h8) k_lX4_59 k_yX4_prepare (k_oX33 w) (by omega) rfl (Nat.le_of_ble_eq_true rfl)) ?_
  refine k_iconst C dX4_bySigns_11 (v := 0) rfl ?_
  refine k_istore C dX4_bySigns_12 (by decide) [1, 2, 3, 4, 0] (L' := [(0, .ref (w.2.1 33)), (1, .int x1), (2, .int x2), (3, .int x3), (4, .int (0 : Int32))]) rfl ?_
  obtain ⟨b14, eb14, h⟩ := k_lp_e h
  have K14 : ∀ (n : Nat) (v4_14 : Int32) (s_14 : k_St), k_loop b14 n (v4_14, s_14) = some σ' → k_K (k_PX w) X (k_MQ X (k_Qv (k_PX w) σ') (k_PX w).2.2.1) 14 [(0, .ref (w.2.1 33)), (4, .int v4_14)] [] s_14 := by
    intro n
    induction n with
    | zero => intro v4_14 s_14 h; cases h
    | succ n ih14 =>
      intro v4_14 s_14 h
      obtain ⟨g14, eg14, h⟩ := k_lp_s h
      rw [← eg14] at ih14
      rw [eb14] at h
      refine k_iload C dX4_bySigns_14 1 rfl ?_
      refine k_aload_n C dX4_bySigns_16 0 rfl ?_
      refine k_get C dX4_bySigns_17 (k_gX33_11 w) k_fX4_42 (Or.inl rfl) ?_
      refine k_icmp_ge C dX4_bySigns_20 (tgt := 111) (by decide) (fun c20 => ?_) (fun c20 => ?_)
      · replace h := k_if_t h c20
        refine k_aload_n C dX4_bySigns_111 0 rfl ?_
        obtain ⟨s112, h112, h⟩ := k_bd_e h
        refine k_goV (k_runV C dX4_bySigns_112 (e_X4_findTop (d := 16) (Nat.le_refl _) h112) k_lX4_70 k_yX4_findTop (k_oX33 w) (by omega) rfl (Nat.le_of_ble_eq_true rfl)) ?_
        exact k_vret C dX4_bySigns_115 hr (Option.some.inj h)
      · replace h := k_if_f h c20
        refine k_aload_n C dX4_bySigns_23 0 rfl ?_
        refine k_get C dX4_bySigns_24 (k_gX33_5 w) k_fX4_22 (Or.inl rfl) ?_
        refine k_iload C dX4_bySigns_27 1 rfl ?_
        refine k_bipush C dX4_bySigns_29 (v := 8) rfl ?_
        refine k_imul C dX4_bySigns_31 ?_
        refine k_iload C dX4_bySigns_32 1 rfl ?_
        obtain ⟨j51, ej51, h⟩ := k_jn_e h
        have Jj51 : ∀ (t2_51 : Int64), j51 t2_51 = some σ' → k_K (k_PX w) X (k_MQ X (k_Qv (k_PX w) σ') (k_PX w).2.2.1) 51 [(0, .ref (w.2.1 33)), (4, .int v4_14)] [.long t2_51, .int (v4_14 * (8 : Int32)), .ref (w.2.1 34)] s_14 := by
          intro t2_51 h
          rw [ej51] at h
          obtain ⟨q51, h⟩ := k_gd_e h
          refine k_last C dX4_bySigns_51 (k_aX34 w) q51 ?_
          refine k_st (fun s51 es51 => ?_)
          replace h := k_nm_e h s51 es51
          refine k_iconst C dX4_bySigns_52 (v := 1) rfl ?_
          refine k_istore C dX4_bySigns_53 (by decide) [1, 2, 0] (L' := [(0, .ref (w.2.1 33)), (4, .int v4_14), (5, .int (1 : Int32))]) rfl ?_
          obtain ⟨b55, eb55, h⟩ := k_lp_e h
          have K55 : ∀ (n : Nat) (v5_55 : Int32) (s_55 : k_St), k_loop b55 n (v5_55, s_55) = some σ' → k_K (k_PX w) X (k_MQ X (k_Qv (k_PX w) σ') (k_PX w).2.2.1) 55 [(0, .ref (w.2.1 33)), (4, .int v4_14), (5, .int v5_55)] [] s_55 := by
            intro n
            induction n with
            | zero => intro v5_55 s_55 h; cases h
            | succ n ih55 =>
              intro v5_55 s_55 h
              obtain ⟨g55, eg55, h⟩ := k_lp_s h
              rw [← eg55] at ih55
              rw [eb55] at h
              refine k_iload C dX4_bySigns_55 2 rfl ?_
              refine k_aload_n C dX4_bySigns_57 0 rfl ?_
              refine k_get C dX4_bySigns_58 (k_gX33_11 w) k_fX4_42 (Or.inl rfl) ?_
              refine k_icmp_ge C dX4_bySigns_61 (tgt := 105) (by decide) (fun c61 => ?_) (fun c61 => ?_)
              · replace h := k_if_t h c61
                refine k_iinc C dX4_bySigns_105 1 rfl (v := 1) rfl (by decide) [1, 0, 2] (L' := fun z9 => [(0, .ref (w.2.1 33)), (4, .int z9), (5, .int v5_55)]) (fun z9 => rfl) (fun y105 ey105 => ?_)
                replace h := k_nm_e h y105 ey105
                refine k_goto C dX4_bySigns_108 (tgt := 14) (by decide) ?_
                refine k_sub (L' := [(0, .ref (w.2.1 33)), (4, .int y105)]) [0, 1] rfl ?_
                exact ih14 _ _ h
              · replace h := k_if_f h c61
                refine k_aload_n C dX4_bySigns_64 0 rfl ?_
                refine k_get C dX4_bySigns_65 (k_gX33_5 w) k_fX4_22 (Or.inl rfl) ?_
                refine k_iload C dX4_bySigns_68 1 rfl ?_
                refine k_bipush C dX4_bySigns_70 (v := 8) rfl ?_
                refine k_imul C dX4_bySigns_72 ?_
                refine k_iload C dX4_bySigns_73 2 rfl ?_
                refine k_iadd C dX4_bySigns_75 ?_
                refine k_iload C dX4_bySigns_76 2 rfl ?_
                refine k_iload C dX4_bySigns_78 1 rfl ?_
                refine k_icmp_ne C dX4_bySigns_80 (tgt := 97) (by decide) (fun c80 => ?_) (fun c80 => ?_)
                · replace h := k_if_f h c80
                  refine k_lconst C dX4_bySigns_97 (v := 0) rfl ?_
                  obtain ⟨q98, h⟩ := k_gd_e h
                  refine k_last C dX4_bySigns_98 (k_aX34 w) q98 ?_
                  refine k_st (fun s98 es98 => ?_)
                  replace h := k_nm_e h s98 es98
                  refine k_iinc C dX4_bySigns_99 2 rfl (v := 1) rfl (by decide) [1, 2, 0] (L' := fun z9 => [(0, .ref (w.2.1 33)), (4, .int v4_14), (5, .int z9)]) (fun z9 => rfl) (fun y99 ey99 => ?_)
                  replace h := k_nm_e h y99 ey99
                  refine k_goto C dX4_bySigns_102 (tgt := 55) (by decide) ?_
                  exact ih55 _ _ h
                · replace h := k_if_t h c80
                  refine k_bipush C dX4_bySigns_83 (v := 100) rfl ?_
                  refine k_aload_n C dX4_bySigns_85 0 rfl ?_
                  refine k_get C dX4_bySigns_86 (k_gX33_4 w) k_fX4_49 (Or.inl rfl) ?_
                  refine k_get C dX4_bySigns_89 (k_gX16_5 w) k_fX4_65 (Or.inl rfl) ?_
                  refine k_isub C dX4_bySigns_92 ?_
                  refine k_i2l C dX4_bySigns_93 ?_
                  refine k_goto C dX4_bySigns_94 (tgt := 98) (by decide) ?_
                  obtain ⟨q98, h⟩ := k_gd_e h
                  refine k_last C dX4_bySigns_98 (k_aX34 w) q98 ?_
                  refine k_st (fun s98 es98 => ?_)
                  replace h := k_nm_e h s98 es98
                  refine k_iinc C dX4_bySigns_99 2 rfl (v := 1) rfl (by decide) [1, 2, 0] (L' := fun z9 => [(0, .ref (w.2.1 33)), (4, .int v4_14), (5, .int z9)]) (fun z9 => rfl) (fun y99 ey99 => ?_)
                  replace h := k_nm_e h y99 ey99
                  refine k_goto C dX4_bySigns_102 (tgt := 55) (by decide) ?_
                  exact ih55 _ _ h
          exact K55 _ _ _ h
        refine k_if_ne C dX4_bySigns_34 (tgt := 43) (by decide) (fun c34 => ?_) (fun c34 => ?_)
        · replace h := k_if_f h c34
          refine k_aload_n C dX4_bySigns_43 0 rfl ?_
          refine k_get C dX4_bySigns_44 (k_gX33_4 w) k_fX4_49 (Or.inl rfl) ?_
          refine k_get C dX4_bySigns_47 (k_gX16_5 w) k_fX4_65 (Or.inl rfl) ?_
          refine k_i2l C dX4_bySigns_50 ?_
          exact Jj51 _ h
        · replace h := k_if_t h c34
          refine k_ldc2 C dX4_bySigns_37 k_cX4_63 ?_
          refine k_goto C dX4_bySigns_40 (tgt := 51) (by decide) ?_
          exact Jj51 _ h
  refine k_sub (L' := [(0, .ref (w.2.1 33)), (4, .int (0 : Int32))]) [0, 4] rfl ?_
  exact K14 _ _ _ h
def f_X4_knotChance (x1 : Int32) (x2 : Int32) (x3 : Int32) (σ : k_St) : Option (Int64) :=
  k_loop (fun (g6 : Int64 × Int32 → Option (Int64)) (z6 : Int64 × Int32) => match z6 with
    | (v4_6, v6_6) =>
      k_if (x1 ≤ v6_6)
        (some v4_6)
        (k_nm (((o_ushr x2 v6_6) &&& (1 : Int32))) fun y18 =>
        k_nm (((o_ushr x3 v6_6) &&& (1 : Int32))) fun y26 =>
        k_if (y18 = (1 : Int32))
          (k_if (y26 = (1 : Int32))
            (k_nm ((v4_6 * ((100 : Int32) - (k_rd σ 16 5)).toInt64)) fun y64 =>
            k_nm (v6_6 + (1 : Int32)) fun y87 =>
            g6 (y64, y87))
            (k_nm ((v4_6 * (k_rd σ 16 5).toInt64)) fun y64 =>
            k_nm (v6_6 + (1 : Int32)) fun y87 =>
            g6 (y64, y87)))
          (k_if (y26 = (1 : Int32))
            (k_nm ((v4_6 * (0 : Int32).toInt64)) fun y85 =>
            k_nm (v6_6 + (1 : Int32)) fun y87 =>
            g6 (y85, y87))
            (k_nm ((v4_6 * (100 : Int32).toInt64)) fun y85 =>
            k_nm (v6_6 + (1 : Int32)) fun y87 =>
            g6 (y85, y87))))) 100000 ((1 : Int64), (0 : Int32))
set_option maxHeartbeats 4000000 in
set_option maxRecDepth 100000 in
theorem e_X4_knotChance {l : Launch} {w : k_WC} {d : Nat} (hd : 2 ≤ d) {x1 : Int32} {x2 : Int32} {x3 : Int32}  {σ : k_St} {r : Int64} (h : f_X4_knotChance x1 x2 x3 σ = some r) : k_EL l (k_PX w) yX4_knotChance cX4_knotChance 9 d [.ref (w.2.1 33), .int x1, .int x2, .int x3] σ r σ := by
  refine k_of (own := RX4) rfl (by decide) (Nat.le_of_ble_eq_true rfl) (fun X hX C hr => ?_)
  show k_K (k_PX w) X (k_MQ X (k_Ql (k_PX w) r σ) (k_PX w).2.2.1) 0 [(0, .ref (w.2.1 33)), (1, .int x1), (2, .int x2), (3, .int x3)] [] σ
  unfold f_X4_knotChance at h
  refine k_lconst C dX4_knotChance_0 (v := 1) rfl ?_
  refine k_lstore C dX4_knotChance_1 (by decide) [1, 2, 3, 4, 0] (L' := [(0, .ref (w.2.1 33)), (1, .int x1), (2, .int x2), (3, .int x3), (4, .long (1 : Int64))]) rfl ?_
  refine k_iconst C dX4_knotChance_3 (v := 0) rfl ?_
  refine k_istore C dX4_knotChance_4 (by decide) [1, 2, 3, 4, 5, 0] (L' := [(0, .ref (w.2.1 33)), (1, .int x1), (2, .int x2), (3, .int x3), (4, .long (1 : Int64)), (6, .int (0 : Int32))]) rfl ?_
  obtain ⟨b6, eb6, h⟩ := k_lp_e h
  have K6 : ∀ (n : Nat) (v4_6 : Int64) (v6_6 : Int32), k_loop b6 n (v4_6, v6_6) = some r → k_K (k_PX w) X (k_MQ X (k_Ql (k_PX w) r σ) (k_PX w).2.2.1) 6 [(0, .ref (w.2.1 33)), (1, .int x1), (2, .int x2), (3, .int x3), (4, .long v4_6), (6, .int v6_6)] [] σ := by
    intro n
    induction n with
    | zero => intro v4_6 v6_6 h; cases h
    | succ n ih6 =>
      intro v4_6 v6_6 h
      obtain ⟨g6, eg6, h⟩ := k_lp_s h
      rw [← eg6] at ih6
      rw [eb6] at h
      refine k_iload C dX4_knotChance_6 5 rfl ?_
      refine k_iload_n C dX4_knotChance_8 1 rfl ?_
      refine k_icmp_ge C dX4_knotChance_9 (tgt := 93) (by decide) (fun c9 => ?_) (fun c9 => ?_)
      · replace h := k_if_t h c9
        refine k_lload C dX4_knotChance_93 4 rfl ?_
        exact k_lret C dX4_knotChance_95 hr (k_p1 h)
      · replace h := k_if_f h c9
        refine k_iload_n C dX4_knotChance_12 2 rfl ?_
        refine k_iload C dX4_knotChance_13 5 rfl ?_
        refine k_iushr C dX4_knotChance_15 ?_
        refine k_iconst C dX4_knotChance_16 (v := 1) rfl ?_
        refine k_iand C dX4_knotChance_17 ?_
        refine k_topi (fun y18 ey18 => ?_)
        replace h := k_nm_e h y18 ey18
        refine k_istore C dX4_knotChance_18 (by decide) [1, 2, 3, 4, 5, 6, 0] (L' := [(0, .ref (w.2.1 33)), (1, .int x1), (2, .int x2), (3, .int x3), (4, .long v4_6), (6, .int v6_6), (7, .int y18)]) rfl ?_
        refine k_iload_n C dX4_knotChance_20 3 rfl ?_
        refine k_iload C dX4_knotChance_21 5 rfl ?_
        refine k_iushr C dX4_knotChance_23 ?_
        refine k_iconst C dX4_knotChance_24 (v := 1) rfl ?_
        refine k_iand C dX4_knotChance_25 ?_
        refine k_topi (fun y26 ey26 => ?_)
        replace h := k_nm_e h y26 ey26
        refine k_istore C dX4_knotChance_26 (by decide) [1, 2, 3, 4, 5, 6, 7, 0] (L' := [(0, .ref (w.2.1 33)), (1, .int x1), (2, .int x2), (3, .int x3), (4, .long v4_6), (6, .int v6_6), (7, .int y18), (8, .int y26)]) rfl ?_
        refine k_iload C dX4_knotChance_28 6 rfl ?_
        refine k_iconst C dX4_knotChance_30 (v := 1) rfl ?_
        refine k_icmp_ne C dX4_knotChance_31 (tgt := 69) (by decide) (fun c31 => ?_) (fun c31 => ?_)
        · replace h := k_if_f h c31
          refine k_lload C dX4_knotChance_69 4 rfl ?_
          refine k_iload C dX4_knotChance_71 7 rfl ?_
          refine k_iconst C dX4_knotChance_73 (v := 1) rfl ?_
          refine k_icmp_ne C dX4_knotChance_74 (tgt := 81) (by decide) (fun c74 => ?_) (fun c74 => ?_)
          · replace h := k_if_f h c74
            refine k_bipush C dX4_knotChance_81 (v := 100) rfl ?_
            refine k_i2l C dX4_knotChance_83 ?_
            refine k_lmul C dX4_knotChance_84 ?_
            refine k_topl (fun y85 ey85 => ?_)
            replace h := k_nm_e h y85 ey85
            refine k_lstore C dX4_knotChance_85 (by decide) [1, 2, 3, 4, 0, 5, 6, 7] (L' := [(0, .ref (w.2.1 33)), (1, .int x1), (2, .int x2), (3, .int x3), (4, .long y85), (6, .int v6_6), (7, .int y18), (8, .int y26)]) rfl ?_
            refine k_iinc C dX4_knotChance_87 5 rfl (v := 1) rfl (by decide) [1, 2, 3, 4, 5, 0, 6, 7] (L' := fun z9 => [(0, .ref (w.2.1 33)), (1, .int x1), (2, .int x2), (3, .int x3), (4, .long y85), (6, .int z9), (7, .int y18), (8, .int y26)]) (fun z9 => rfl) (fun y87 ey87 => ?_)
            replace h := k_nm_e h y87 ey87
            refine k_goto C dX4_knotChance_90 (tgt := 6) (by decide) ?_
            refine k_sub (L' := [(0, .ref (w.2.1 33)), (1, .int x1), (2, .int x2), (3, .int x3), (4, .long y85), (6, .int y87)]) [0, 1, 2, 3, 4, 5] rfl ?_
            exact ih6 _ _ h
          · replace h := k_if_t h c74
            refine k_iconst C dX4_knotChance_77 (v := 0) rfl ?_
            refine k_goto C dX4_knotChance_78 (tgt := 83) (by decide) ?_
            refine k_i2l C dX4_knotChance_83 ?_
            refine k_lmul C dX4_knotChance_84 ?_
            refine k_topl (fun y85 ey85 => ?_)
            replace h := k_nm_e h y85 ey85
            refine k_lstore C dX4_knotChance_85 (by decide) [1, 2, 3, 4, 0, 5, 6, 7] (L' := [(0, .ref (w.2.1 33)), (1, .int x1), (2, .int x2), (3, .int x3), (4, .long y85), (6, .int v6_6), (7, .int y18), (8, .int y26)]) rfl ?_
            refine k_iinc C dX4_knotChance_87 5 rfl (v := 1) rfl (by decide) [1, 2, 3, 4, 5, 0, 6, 7] (L' := fun z9 => [(0, .ref (w.2.1 33)), (1, .int x1), (2, .int x2), (3, .int x3), (4, .long y85), (6, .int z9), (7, .int y18), (8, .int y26)]) (fun z9 => rfl) (fun y87 ey87 => ?_)
            replace h := k_nm_e h y87 ey87
            refine k_goto C dX4_knotChance_90 (tgt := 6) (by decide) ?_
            refine k_sub (L' := [(0, .ref (w.2.1 33)), (1, .int x1), (2, .int x2), (3, .int x3), (4, .long y85), (6, .int y87)]) [0, 1, 2, 3, 4, 5] rfl ?_
            exact ih6 _ _ h
        · replace h := k_if_t h c31
          refine k_lload C dX4_knotChance_34 4 rfl ?_
          refine k_iload C dX4_knotChance_36 7 rfl ?_
          refine k_iconst C dX4_knotChance_38 (v := 1) rfl ?_
          refine k_icmp_ne C dX4_knotChance_39 (tgt := 55) (by decide) (fun c39 => ?_) (fun c39 => ?_)
          · replace h := k_if_f h c39
            refine k_aload_n C dX4_knotChance_55 0 rfl ?_
            refine k_get C dX4_knotChance_56 (k_gX33_4 w) k_fX4_49 (Or.inl rfl) ?_
            refine k_get C dX4_knotChance_59 (k_gX16_5 w) k_fX4_65 (Or.inl rfl) ?_
            refine k_i2l C dX4_knotChance_62 ?_
            refine k_lmul C dX4_knotChance_63 ?_
            refine k_topl (fun y64 ey64 => ?_)
            replace h := k_nm_e h y64 ey64
            refine k_lstore C dX4_knotChance_64 (by decide) [1, 2, 3, 4, 0, 5, 6, 7] (L' := [(0, .ref (w.2.1 33)), (1, .int x1), (2, .int x2), (3, .int x3), (4, .long y64), (6, .int v6_6), (7, .int y18), (8, .int y26)]) rfl ?_
            refine k_goto C dX4_knotChance_66 (tgt := 87) (by decide) ?_
            refine k_iinc C dX4_knotChance_87 5 rfl (v := 1) rfl (by decide) [1, 2, 3, 4, 5, 0, 6, 7] (L' := fun z9 => [(0, .ref (w.2.1 33)), (1, .int x1), (2, .int x2), (3, .int x3), (4, .long y64), (6, .int z9), (7, .int y18), (8, .int y26)]) (fun z9 => rfl) (fun y87 ey87 => ?_)
            replace h := k_nm_e h y87 ey87
            refine k_goto C dX4_knotChance_90 (tgt := 6) (by decide) ?_
            refine k_sub (L' := [(0, .ref (w.2.1 33)), (1, .int x1), (2, .int x2), (3, .int x3), (4, .long y64), (6, .int y87)]) [0, 1, 2, 3, 4, 5] rfl ?_
            exact ih6 _ _ h
          · replace h := k_if_t h c39
            refine k_bipush C dX4_knotChance_42 (v := 100) rfl ?_
            refine k_aload_n C dX4_knotChance_44 0 rfl ?_
            refine k_get C dX4_knotChance_45 (k_gX33_4 w) k_fX4_49 (Or.inl rfl) ?_
            refine k_get C dX4_knotChance_48 (k_gX16_5 w) k_fX4_65 (Or.inl rfl) ?_
            refine k_isub C dX4_knotChance_51 ?_
            refine k_goto C dX4_knotChance_52 (tgt := 62) (by decide) ?_
            refine k_i2l C dX4_knotChance_62 ?_
            refine k_lmul C dX4_knotChance_63 ?_
            refine k_topl (fun y64 ey64 => ?_)
            replace h := k_nm_e h y64 ey64
            refine k_lstore C dX4_knotChance_64 (by decide) [1, 2, 3, 4, 0, 5, 6, 7] (L' := [(0, .ref (w.2.1 33)), (1, .int x1), (2, .int x2), (3, .int x3), (4, .long y64), (6, .int v6_6), (7, .int y18), (8, .int y26)]) rfl ?_
            refine k_goto C dX4_knotChance_66 (tgt := 87) (by decide) ?_
            refine k_iinc C dX4_knotChance_87 5 rfl (v := 1) rfl (by decide) [1, 2, 3, 4, 5, 0, 6, 7] (L' := fun z9 => [(0, .ref (w.2.1 33)), (1, .int x1), (2, .int x2), (3, .int x3), (4, .long y64), (6, .int z9), (7, .int y18), (8, .int y26)]) (fun z9 => rfl) (fun y87 ey87 => ?_)
            replace h := k_nm_e h y87 ey87
            refine k_goto C dX4_knotChance_90 (tgt := 6) (by decide) ?_
            refine k_sub (L' := [(0, .ref (w.2.1 33)), (1, .int x1), (2, .int x2), (3, .int x3), (4, .long y64), (6, .int y87)]) [0, 1, 2, 3, 4, 5] rfl ?_
            exact ih6 _ _ h
  exact K6 _ _ _ h
def f_X4_prepareKnots (x1 : Int32) (σ : k_St) : Option (k_St) :=
  k_nm ((o_max (1 : Int32) (o_min (3 : Int32) x1))) fun y9 =>
  k_bd (f_X4_prepare (o_shl (1 : Int32) y9) (k_rd σ 16 3) (k_rd σ 16 4) σ) fun s28 =>
  k_nm (k_wl s28 33 2 (1 : Int64)) fun s33 =>
  k_loop (fun (g38 : Int32 × k_St → Option (k_St)) (z38 : Int32 × k_St) => match z38 with
    | (v3_38, s_38) =>
      k_if (y9 ≤ v3_38)
        (k_loop (fun (g63 : Int32 × k_St → Option (k_St)) (z63 : Int32 × k_St) => match z63 with
          | (v3_63, s_63) =>
            k_if ((k_rd s_63 33 11) ≤ v3_63)
              (some s_63)
              (k_loop (fun (g74 : Int32 × k_St → Option (k_St)) (z74 : Int32 × k_St) => match z74 with
                | (v4_74, s_74) =>
                  k_if ((k_rd s_74 33 11) ≤ v4_74)
                    (k_nm (v3_63 + (1 : Int32)) fun y109 =>
                    g63 (y109, s_74))
                    (k_bd (f_X4_knotChance y9 v3_63 v4_74 s_74) fun v99 =>
                    k_gd (k_ix ((v3_63 * (8 : Int32)) + v4_74) 64 = true) <|
                    k_nm (k_wl s_74 34 ((v3_63 * (8 : Int32)) + v4_74).toNatClampNeg v99) fun s102 =>
                    k_nm (v4_74 + (1 : Int32)) fun y103 =>
                    g74 (y103, s102))) 100000 ((0 : Int32), s_63))) 100000 ((0 : Int32), s_38))
        (k_nm (k_wl s_38 33 2 ((k_rl s_38 33 2) * (100 : Int64))) fun s52 =>
        k_nm (v3_38 + (1 : Int32)) fun y55 =>
        g38 (y55, s52))) 100000 ((0 : Int32), s33)
set_option maxHeartbeats 4000000 in
set_option maxRecDepth 100000 in
theorem e_X4_prepareKnots {l : Launch} {w : k_WC} {d : Nat} (hd : 5 ≤ d) {x1 : Int32}  {σ σ' : k_St} (h : f_X4_prepareKnots x1 σ = some σ') : k_EV l (k_PX w) yX4_prepareKnots cX4_prepareKnots 5 d [.ref (w.2.1 33), .int x1] σ σ' := by
  refine k_of (own := RX4) rfl (by decide) (Nat.le_of_ble_eq_true rfl) (fun X hX C hr => ?_)
  show k_K (k_PX w) X (k_MQ X (k_Qv (k_PX w) σ') (k_PX w).2.2.1) 0 [(0, .ref (w.2.1 33)), (1, .int x1)] [] σ
  unfold f_X4_prepareKnots at h
  refine k_iconst C dX4_prepareKnots_0 (v := 1) rfl ?_
  refine k_iconst C dX4_prepareKnots_1 (v := 3) rfl ?_
  refine k_iload_n C dX4_prepareKnots_2 1 rfl ?_
  refine k_mmin C dX4_prepareKnots_3 k_lX4_53 k_ym_min (by omega) (Nat.le_of_ble_eq_true rfl) ?_
  refine k_mmax C dX4_prepareKnots_6 k_lX4_86 k_ym_max (by omega) (Nat.le_of_ble_eq_true rfl) ?_
  refine k_topi (fun y9 ey9 => ?_)
  replace h := k_nm_e h y9 ey9
  refine k_istore_n C dX4_prepareKnots_9 (by decide) [1, 2, 0] (L' := [(0, .ref (w.2.1 33)), (1, .int x1), (2, .int y9)]) rfl ?_
  refine k_aload_n C dX4_prepareKnots_10 0 rfl ?_
  refine k_iconst C dX4_prepareKnots_11 (v := 1) rfl ?_
  refine k_iload_n C dX4_prepareKnots_12 2 rfl ?_
  refine k_ishl C dX4_prepareKnots_13 ?_
  refine k_aload_n C dX4_prepareKnots_14 0 rfl ?_
  refine k_get C dX4_prepareKnots_15 (k_gX33_4 w) k_fX4_49 (Or.inl rfl) ?_
  refine k_get C dX4_prepareKnots_18 (k_gX16_3 w) k_fX4_89 (Or.inl rfl) ?_
  refine k_aload_n C dX4_prepareKnots_21 0 rfl ?_
  refine k_get C dX4_prepareKnots_22 (k_gX33_4 w) k_fX4_49 (Or.inl rfl) ?_
  refine k_get C dX4_prepareKnots_25 (k_gX16_4 w) k_fX4_93 (Or.inl rfl) ?_
  obtain ⟨s28, h28, h⟩ := k_bd_e h
  refine k_goV (k_runV C dX4_prepareKnots_28 (e_X4_prepare (d := 4) (Nat.le_refl _) h28) k_lX4_59 k_yX4_prepare (k_oX33 w) (by omega) rfl (Nat.le_of_ble_eq_true rfl)) ?_
  refine k_aload_n C dX4_prepareKnots_31 0 rfl ?_
  refine k_lconst C dX4_prepareKnots_32 (v := 1) rfl ?_
  refine k_putl C dX4_prepareKnots_33 (k_pX33_2 w) k_fX4_19 rfl ?_
  refine k_st (fun s33 es33 => ?_)
  replace h := k_nm_e h s33 es33
  refine k_iconst C dX4_prepareKnots_36 (v := 0) rfl ?_
  refine k_istore_n C dX4_prepareKnots_37 (by decide) [1, 2, 3, 0] (L' := [(0, .ref (w.2.1 33)), (1, .int x1), (2, .int y9), (3, .int (0 : Int32))]) rfl ?_
  obtain ⟨b38, eb38, h⟩ := k_lp_e h
  have K38 : ∀ (n : Nat) (v3_38 : Int32) (s_38 : k_St), k_loop b38 n (v3_38, s_38) = some σ' → k_K (k_PX w) X (k_MQ X (k_Qv (k_PX w) σ') (k_PX w).2.2.1) 38 [(0, .ref (w.2.1 33)), (2, .int y9), (3, .int v3_38)] [] s_38 := by
    intro n
    induction n with
    | zero => intro v3_38 s_38 h; cases h
    | succ n ih38 =>
      intro v3_38 s_38 h
      obtain ⟨g38, eg38, h⟩ := k_lp_s h
      rw [← eg38] at ih38
      rw [eb38] at h
      refine k_iload_n C dX4_prepareKnots_38 2 rfl ?_
      refine k_iload_n C dX4_prepareKnots_39 1 rfl ?_
      refine k_icmp_ge C dX4_prepareKnots_40 (tgt := 61) (by decide) (fun c40 => ?_) (fun c40 => ?_)
      · replace h := k_if_t h c40
        refine k_iconst C dX4_prepareKnots_61 (v := 0) rfl ?_
        refine k_istore_n C dX4_prepareKnots_62 (by decide) [1, 2, 0] (L' := [(0, .ref (w.2.1 33)), (2, .int y9), (3, .int (0 : Int32))]) rfl ?_
        obtain ⟨b63, eb63, h⟩ := k_lp_e h
        have K63 : ∀ (n : Nat) (v3_63 : Int32) (s_63 : k_St), k_loop b63 n (v3_63, s_63) = some σ' → k_K (k_PX w) X (k_MQ X (k_Qv (k_PX w) σ') (k_PX w).2.2.1) 63 [(0, .ref (w.2.1 33)), (2, .int y9), (3, .int v3_63)] [] s_63 := by
          intro n
          induction n with
          | zero => intro v3_63 s_63 h; cases h
          | succ n ih63 =>
            intro v3_63 s_63 h
            obtain ⟨g63, eg63, h⟩ := k_lp_s h
            rw [← eg63] at ih63
            rw [eb63] at h
            refine k_iload_n C dX4_prepareKnots_63 2 rfl ?_
            refine k_aload_n C dX4_prepareKnots_64 0 rfl ?_
            refine k_get C dX4_prepareKnots_65 (k_gX33_11 w) k_fX4_42 (Or.inl rfl) ?_
            refine k_icmp_ge C dX4_prepareKnots_68 (tgt := 115) (by decide) (fun c68 => ?_) (fun c68 => ?_)
            · replace h := k_if_t h c68
              exact k_vret C dX4_prepareKnots_115 hr (Option.some.inj h)
            · replace h := k_if_f h c68
              refine k_iconst C dX4_prepareKnots_71 (v := 0) rfl ?_
              refine k_istore C dX4_prepareKnots_72 (by decide) [1, 2, 3, 0] (L' := [(0, .ref (w.2.1 33)), (2, .int y9), (3, .int v3_63), (4, .int (0 : Int32))]) rfl ?_
              obtain ⟨b74, eb74, h⟩ := k_lp_e h
              have K74 : ∀ (n : Nat) (v4_74 : Int32) (s_74 : k_St), k_loop b74 n (v4_74, s_74) = some σ' → k_K (k_PX w) X (k_MQ X (k_Qv (k_PX w) σ') (k_PX w).2.2.1) 74 [(0, .ref (w.2.1 33)), (2, .int y9), (3, .int v3_63), (4, .int v4_74)] [] s_74 := by
                intro n
                induction n with
                | zero => intro v4_74 s_74 h; cases h
                | succ n ih74 =>
                  intro v4_74 s_74 h
                  obtain ⟨g74, eg74, h⟩ := k_lp_s h
                  rw [← eg74] at ih74
                  rw [eb74] at h
                  refine k_iload C dX4_prepareKnots_74 3 rfl ?_
                  refine k_aload_n C dX4_prepareKnots_76 0 rfl ?_
                  refine k_get C dX4_prepareKnots_77 (k_gX33_11 w) k_fX4_42 (Or.inl rfl) ?_
                  refine k_icmp_ge C dX4_prepareKnots_80 (tgt := 109) (by decide) (fun c80 => ?_) (fun c80 => ?_)
                  · replace h := k_if_t h c80
                    refine k_iinc C dX4_prepareKnots_109 2 rfl (v := 1) rfl (by decide) [1, 2, 0, 3] (L' := fun z9 => [(0, .ref (w.2.1 33)), (2, .int y9), (3, .int z9), (4, .int v4_74)]) (fun z9 => rfl) (fun y109 ey109 => ?_)
                    replace h := k_nm_e h y109 ey109
                    refine k_goto C dX4_prepareKnots_112 (tgt := 63) (by decide) ?_
                    refine k_sub (L' := [(0, .ref (w.2.1 33)), (2, .int y9), (3, .int y109)]) [0, 1, 2] rfl ?_
                    exact ih63 _ _ h
                  · replace h := k_if_f h c80
                    refine k_aload_n C dX4_prepareKnots_83 0 rfl ?_
                    refine k_get C dX4_prepareKnots_84 (k_gX33_5 w) k_fX4_22 (Or.inl rfl) ?_
                    refine k_iload_n C dX4_prepareKnots_87 2 rfl ?_
                    refine k_bipush C dX4_prepareKnots_88 (v := 8) rfl ?_
                    refine k_imul C dX4_prepareKnots_90 ?_
                    refine k_iload C dX4_prepareKnots_91 3 rfl ?_
                    refine k_iadd C dX4_prepareKnots_93 ?_
                    refine k_aload_n C dX4_prepareKnots_94 0 rfl ?_
                    refine k_iload_n C dX4_prepareKnots_95 1 rfl ?_
                    refine k_iload_n C dX4_prepareKnots_96 2 rfl ?_
                    refine k_iload C dX4_prepareKnots_97 3 rfl ?_
                    obtain ⟨v99, h99, h⟩ := k_bd_e h
                    refine k_goL (k_runV C dX4_prepareKnots_99 (e_X4_knotChance (d := 2) (Nat.le_refl _) h99) k_lX4_96 k_yX4_knotChance (k_oX33 w) (by omega) rfl (Nat.le_of_ble_eq_true rfl)) ?_
                    obtain ⟨q102, h⟩ := k_gd_e h
                    refine k_last C dX4_prepareKnots_102 (k_aX34 w) q102 ?_
                    refine k_st (fun s102 es102 => ?_)
                    replace h := k_nm_e h s102 es102
                    refine k_iinc C dX4_prepareKnots_103 3 rfl (v := 1) rfl (by decide) [1, 2, 3, 0] (L' := fun z9 => [(0, .ref (w.2.1 33)), (2, .int y9), (3, .int v3_63), (4, .int z9)]) (fun z9 => rfl) (fun y103 ey103 => ?_)
                    replace h := k_nm_e h y103 ey103
                    refine k_goto C dX4_prepareKnots_106 (tgt := 74) (by decide) ?_
                    exact ih74 _ _ h
              exact K74 _ _ _ h
        exact K63 _ _ _ h
      · replace h := k_if_f h c40
        refine k_aload_n C dX4_prepareKnots_43 0 rfl ?_
        refine k_aload_n C dX4_prepareKnots_44 0 rfl ?_
        refine k_get C dX4_prepareKnots_45 (k_gX33_2 w) k_fX4_19 (Or.inl rfl) ?_
        refine k_ldc2 C dX4_prepareKnots_48 k_cX4_63 ?_
        refine k_lmul C dX4_prepareKnots_51 ?_
        refine k_putl C dX4_prepareKnots_52 (k_pX33_2 w) k_fX4_19 rfl ?_
        refine k_st (fun s52 es52 => ?_)
        replace h := k_nm_e h s52 es52
        refine k_iinc C dX4_prepareKnots_55 2 rfl (v := 1) rfl (by decide) [1, 2, 0] (L' := fun z9 => [(0, .ref (w.2.1 33)), (2, .int y9), (3, .int z9)]) (fun z9 => rfl) (fun y55 ey55 => ?_)
        replace h := k_nm_e h y55 ey55
        refine k_goto C dX4_prepareKnots_58 (tgt := 38) (by decide) ?_
        exact ih38 _ _ h
  refine k_sub (L' := [(0, .ref (w.2.1 33)), (2, .int y9), (3, .int (0 : Int32))]) [0, 2, 3] rfl ?_
  exact K38 _ _ _ h
def f_X4_byKnots (x1 : Int32) (σ : k_St) : Option (k_St) :=
  k_bd (f_X4_prepareKnots x1 σ) fun s2 =>
  k_bd (f_X4_findTop s2) fun s6 =>
  some s6
set_option maxHeartbeats 4000000 in
set_option maxRecDepth 100000 in
theorem e_X4_byKnots {l : Launch} {w : k_WC} {d : Nat} (hd : 17 ≤ d) {x1 : Int32}  {σ σ' : k_St} (h : f_X4_byKnots x1 σ = some σ') : k_EV l (k_PX w) yX4_byKnots cX4_byKnots 2 d [.ref (w.2.1 33), .int x1] σ σ' := by
  refine k_of (own := RX4) rfl (by decide) (Nat.le_of_ble_eq_true rfl) (fun X hX C hr => ?_)
  show k_K (k_PX w) X (k_MQ X (k_Qv (k_PX w) σ') (k_PX w).2.2.1) 0 [(0, .ref (w.2.1 33)), (1, .int x1)] [] σ
  unfold f_X4_byKnots at h
  refine k_aload_n C dX4_byKnots_0 0 rfl ?_
  refine k_iload_n C dX4_byKnots_1 1 rfl ?_
  obtain ⟨s2, h2, h⟩ := k_bd_e h
  refine k_goV (k_runV C dX4_byKnots_2 (e_X4_prepareKnots (d := 5) (Nat.le_refl _) h2) k_lX4_73 k_yX4_prepareKnots (k_oX33 w) (by omega) rfl (Nat.le_of_ble_eq_true rfl)) ?_
  refine k_aload_n C dX4_byKnots_5 0 rfl ?_
  obtain ⟨s6, h6, h⟩ := k_bd_e h
  refine k_goV (k_runV C dX4_byKnots_6 (e_X4_findTop (d := 16) (Nat.le_refl _) h6) k_lX4_70 k_yX4_findTop (k_oX33 w) (by omega) rfl (Nat.le_of_ble_eq_true rfl)) ?_
  exact k_vret C dX4_byKnots_9 hr (Option.some.inj h)
def f_X4_knotsOf (x1 : Int32) (x2 : Int32) (σ : k_St) : Option (Int64 × k_St) :=
  k_bd (f_X4_prepareKnots x1 σ) fun s2 =>
  k_loop (fun (g10 : Int64 × Int32 × k_St → Option (Int64 × k_St)) (z10 : Int64 × Int32 × k_St) => match z10 with
    | (v3_10, v5_10, s_10) =>
      k_if ((4 : Int32) ≤ v5_10)
        (some (v3_10, s_10))
        (k_bd (f_X11_digitOf x2 v5_10) fun v19 =>
        k_if (v19 < (k_rd s_10 33 11))
          (k_b2 (f_X4_addSound v5_10 v19 v3_10 s_10) fun v43 s43 =>
          k_nm (v5_10 + (1 : Int32)) fun y47 =>
          g10 (v43, y47, s43))
          (some ((-1 : Int64), s_10)))) 100000 ((0 : Int64), (0 : Int32), s2)
set_option maxHeartbeats 4000000 in
set_option maxRecDepth 100000 in
theorem e_X4_knotsOf {l : Launch} {w : k_WC} {d : Nat} (hd : 6 ≤ d) {x1 : Int32} {x2 : Int32}  {σ σ' : k_St} {r : Int64} (h : f_X4_knotsOf x1 x2 σ = some (r, σ')) : k_EL l (k_PX w) yX4_knotsOf cX4_knotsOf 7 d [.ref (w.2.1 33), .int x1, .int x2] σ r σ' := by
  refine k_of (own := RX4) rfl (by decide) (Nat.le_of_ble_eq_true rfl) (fun X hX C hr => ?_)
  show k_K (k_PX w) X (k_MQ X (k_Ql (k_PX w) r σ') (k_PX w).2.2.1) 0 [(0, .ref (w.2.1 33)), (1, .int x1), (2, .int x2)] [] σ
  unfold f_X4_knotsOf at h
  refine k_aload_n C dX4_knotsOf_0 0 rfl ?_
  refine k_iload_n C dX4_knotsOf_1 1 rfl ?_
  obtain ⟨s2, h2, h⟩ := k_bd_e h
  refine k_goV (k_runV C dX4_knotsOf_2 (e_X4_prepareKnots (d := 5) (Nat.le_refl _) h2) k_lX4_73 k_yX4_prepareKnots (k_oX33 w) (by omega) rfl (Nat.le_of_ble_eq_true rfl)) ?_
  refine k_lconst C dX4_knotsOf_5 (v := 0) rfl ?_
  refine k_lstore_n C dX4_knotsOf_6 (by decide) [1, 2, 3, 0] (L' := [(0, .ref (w.2.1 33)), (1, .int x1), (2, .int x2), (3, .long (0 : Int64))]) rfl ?_
  refine k_iconst C dX4_knotsOf_7 (v := 0) rfl ?_
  refine k_istore C dX4_knotsOf_8 (by decide) [1, 2, 3, 4, 0] (L' := [(0, .ref (w.2.1 33)), (1, .int x1), (2, .int x2), (3, .long (0 : Int64)), (5, .int (0 : Int32))]) rfl ?_
  obtain ⟨b10, eb10, h⟩ := k_lp_e h
  have K10 : ∀ (n : Nat) (v3_10 : Int64) (v5_10 : Int32) (s_10 : k_St), k_loop b10 n (v3_10, v5_10, s_10) = some (r, σ') → k_K (k_PX w) X (k_MQ X (k_Ql (k_PX w) r σ') (k_PX w).2.2.1) 10 [(0, .ref (w.2.1 33)), (2, .int x2), (3, .long v3_10), (5, .int v5_10)] [] s_10 := by
    intro n
    induction n with
    | zero => intro v3_10 v5_10 s_10 h; cases h
    | succ n ih10 =>
      intro v3_10 v5_10 s_10 h
      obtain ⟨g10, eg10, h⟩ := k_lp_s h
      rw [← eg10] at ih10
      rw [eb10] at h
      refine k_iload C dX4_knotsOf_10 3 rfl ?_
      refine k_iconst C dX4_knotsOf_12 (v := 4) rfl ?_
      refine k_icmp_ge C dX4_knotsOf_13 (tgt := 53) (by decide) (fun c13 => ?_) (fun c13 => ?_)
      · replace h := k_if_t h c13
        refine k_lload_n C dX4_knotsOf_53 2 rfl ?_
        exact k_lret C dX4_knotsOf_54 hr (Option.some.inj h)
      · replace h := k_if_f h c13
        refine k_iload_n C dX4_knotsOf_16 1 rfl ?_
        refine k_iload C dX4_knotsOf_17 3 rfl ?_
        obtain ⟨v19, h19, h⟩ := k_bd_e h
        refine k_goI (k_runSN C dX4_knotsOf_19 (e_X11_digitOf (d := 2) (Nat.le_refl _) h19) k_lX4_77 k_yX11_digitOf (by omega) rfl (Nat.le_of_ble_eq_true rfl)) ?_
        refine k_istore C dX4_knotsOf_22 (by decide) [1, 2, 3, 4, 0] (L' := [(0, .ref (w.2.1 33)), (2, .int x2), (3, .long v3_10), (5, .int v5_10), (6, .int v19)]) rfl ?_
        refine k_iload C dX4_knotsOf_24 4 rfl ?_
        refine k_aload_n C dX4_knotsOf_26 0 rfl ?_
        refine k_get C dX4_knotsOf_27 (k_gX33_11 w) k_fX4_42 (Or.inl rfl) ?_
        refine k_icmp_lt C dX4_knotsOf_30 (tgt := 37) (by decide) (fun c30 => ?_) (fun c30 => ?_)
        · replace h := k_if_t h c30
          refine k_aload_n C dX4_knotsOf_37 0 rfl ?_
          refine k_iload C dX4_knotsOf_38 3 rfl ?_
          refine k_iload C dX4_knotsOf_40 4 rfl ?_
          refine k_lload_n C dX4_knotsOf_42 2 rfl ?_
          obtain ⟨v43, s43, h43, h⟩ := k_b2_e h
          refine k_goL (k_runV C dX4_knotsOf_43 (e_X4_addSound (d := 4) (Nat.le_refl _) h43) k_lX4_82 k_yX4_addSound (k_oX33 w) (by omega) rfl (Nat.le_of_ble_eq_true rfl)) ?_
          refine k_lstore_n C dX4_knotsOf_46 (by decide) [1, 2, 0, 3, 4] (L' := [(0, .ref (w.2.1 33)), (2, .int x2), (3, .long v43), (5, .int v5_10), (6, .int v19)]) rfl ?_
          refine k_iinc C dX4_knotsOf_47 3 rfl (v := 1) rfl (by decide) [1, 2, 3, 0, 4] (L' := fun z9 => [(0, .ref (w.2.1 33)), (2, .int x2), (3, .long v43), (5, .int z9), (6, .int v19)]) (fun z9 => rfl) (fun y47 ey47 => ?_)
          replace h := k_nm_e h y47 ey47
          refine k_goto C dX4_knotsOf_50 (tgt := 10) (by decide) ?_
          refine k_sub (L' := [(0, .ref (w.2.1 33)), (2, .int x2), (3, .long v43), (5, .int y47)]) [0, 1, 2, 3] rfl ?_
          exact ih10 _ _ _ h
        · replace h := k_if_f h c30
          refine k_ldc2 C dX4_knotsOf_33 k_cX4_80 ?_
          exact k_lret C dX4_knotsOf_36 hr (Option.some.inj h)
  refine k_sub (L' := [(0, .ref (w.2.1 33)), (2, .int x2), (3, .long (0 : Int64)), (5, .int (0 : Int32))]) [0, 2, 3, 4] rfl ?_
  exact K10 _ _ _ _ h
def f_X5_clear  (σ : k_St) : Option (k_St) :=
  k_bd (f_J7_fill_53178 43 (-1 : Int32) σ) fun s5 =>
  k_bd (f_J7_fill_d0a16 44 (-1 : Int64) s5) fun s15 =>
  some s15
set_option maxHeartbeats 4000000 in
set_option maxRecDepth 100000 in
theorem e_X5_clear {l : Launch} {w : k_WC} {d : Nat} (hd : 3 ≤ d)   {σ σ' : k_St} (h : f_X5_clear σ = some σ') : k_EV l (k_PX w) yX5_clear cX5_clear 1 d [.ref (w.2.1 42)] σ σ' := by
  refine k_of (own := RX5) rfl (by decide) (Nat.le_of_ble_eq_true rfl) (fun X hX C hr => ?_)
  show k_K (k_PX w) X (k_MQ X (k_Qv (k_PX w) σ') (k_PX w).2.2.1) 0 [(0, .ref (w.2.1 42))] [] σ
  unfold f_X5_clear at h
  refine k_aload_n C dX5_clear_0 0 rfl ?_
  refine k_get C dX5_clear_1 (k_gX42_0 w) k_fX5_9 (Or.inl rfl) ?_
  refine k_iconst C dX5_clear_4 (v := -1) rfl ?_
  obtain ⟨s5, h5, h⟩ := k_bd_e h
  refine k_goV (k_runS C dX5_clear_5 (e_J7_fill_53178 (d := 2) (Nat.le_refl _) (k_aX43 w) h5) k_lX5_40 k_yJ7_fill_53178 (by omega) rfl (Nat.le_of_ble_eq_true rfl)) ?_
  refine k_aload_n C dX5_clear_8 0 rfl ?_
  refine k_get C dX5_clear_9 (k_gX42_1 w) k_fX5_15 (Or.inl rfl) ?_
  refine k_ldc2 C dX5_clear_12 k_cX5_46 ?_
  obtain ⟨s15, h15, h⟩ := k_bd_e h
  refine k_goV (k_runS C dX5_clear_15 (e_J7_fill_d0a16 (d := 2) (Nat.le_refl _) (k_aX44 w) h15) k_lX5_48 k_yJ7_fill_d0a16 (by omega) rfl (Nat.le_of_ble_eq_true rfl)) ?_
  exact k_vret C dX5_clear_18 hr (Option.some.inj h)
def f_X5_hasTugs (x1 : Int32) (σ : k_St) : Option (Int32) :=
  k_bd (f_X11_isShelf x1) fun v1 =>
  k_if (v1 = (0 : Int32))
    (some (0 : Int32))
    (k_gd (k_ix x1 4 = true) <|
    k_if ((k_rd σ 43 x1.toNatClampNeg) = (-1 : Int32))
      (some (0 : Int32))
      (some (1 : Int32)))
set_option maxHeartbeats 4000000 in
set_option maxRecDepth 100000 in
theorem e_X5_hasTugs {l : Launch} {w : k_WC} {d : Nat} (hd : 4 ≤ d) {x1 : Int32}  {σ : k_St} {r : Int32} (h : f_X5_hasTugs x1 σ = some r) : k_EI l (k_PX w) yX5_hasTugs cX5_hasTugs 2 (some .boolean) d [.ref (w.2.1 42), .int x1] σ r σ := by
  refine k_of (own := RX5) rfl (by decide) (Nat.le_of_ble_eq_true rfl) (fun X hX C hr => ?_)
  show k_K (k_PX w) X (k_MQ X (k_Qi (k_PX w) r σ) (k_PX w).2.2.1) 0 [(0, .ref (w.2.1 42)), (1, .int x1)] [] σ
  unfold f_X5_hasTugs at h
  refine k_iload_n C dX5_hasTugs_0 1 rfl ?_
  obtain ⟨v1, h1, h⟩ := k_bd_e h
  refine k_goI (k_runSN C dX5_hasTugs_1 (e_X11_isShelf (d := 3) (Nat.le_refl _) h1) k_lX5_51 k_yX11_isShelf (by omega) rfl (Nat.le_of_ble_eq_true rfl)) ?_
  refine k_if_eq C dX5_hasTugs_4 (tgt := 21) (by decide) (fun c4 => ?_) (fun c4 => ?_)
  · replace h := k_if_t h c4
    refine k_iconst C dX5_hasTugs_21 (v := 0) rfl ?_
    exact k_zret C dX5_hasTugs_22 hr rfl (k_p1 h)
  · replace h := k_if_f h c4
    refine k_aload_n C dX5_hasTugs_7 0 rfl ?_
    refine k_get C dX5_hasTugs_8 (k_gX42_0 w) k_fX5_9 (Or.inl rfl) ?_
    refine k_iload_n C dX5_hasTugs_11 1 rfl ?_
    obtain ⟨q12, h⟩ := k_gd_e h
    refine k_iald C dX5_hasTugs_12 (k_aX43 w) q12 ?_
    refine k_iconst C dX5_hasTugs_13 (v := -1) rfl ?_
    refine k_icmp_eq C dX5_hasTugs_14 (tgt := 21) (by decide) (fun c14 => ?_) (fun c14 => ?_)
    · replace h := k_if_t h c14
      refine k_iconst C dX5_hasTugs_21 (v := 0) rfl ?_
      exact k_zret C dX5_hasTugs_22 hr rfl (k_p1 h)
    · replace h := k_if_f h c14
      refine k_iconst C dX5_hasTugs_17 (v := 1) rfl ?_
      refine k_goto C dX5_hasTugs_18 (tgt := 22) (by decide) ?_
      exact k_zret C dX5_hasTugs_22 hr rfl (k_p1 h)
def f_X5_hasThrows (x1 : Int32) (σ : k_St) : Option (Int32) :=
  k_bd (f_X11_isShelf x1) fun v1 =>
  k_if (v1 = (0 : Int32))
    (some (0 : Int32))
    (k_gd (k_ix x1 4 = true) <|
    k_if ((lg_cmp (k_rl σ 44 x1.toNatClampNeg) (-1 : Int64)) = (0 : Int32))
      (some (0 : Int32))
      (some (1 : Int32)))
set_option maxHeartbeats 4000000 in
set_option maxRecDepth 100000 in
theorem e_X5_hasThrows {l : Launch} {w : k_WC} {d : Nat} (hd : 4 ≤ d) {x1 : Int32}  {σ : k_St} {r : Int32} (h : f_X5_hasThrows x1 σ = some r) : k_EI l (k_PX w) yX5_hasThrows cX5_hasThrows 2 (some .boolean) d [.ref (w.2.1 42), .int x1] σ r σ := by
  refine k_of (own := RX5) rfl (by decide) (Nat.le_of_ble_eq_true rfl) (fun X hX C hr => ?_)
  show k_K (k_PX w) X (k_MQ X (k_Qi (k_PX w) r σ) (k_PX w).2.2.1) 0 [(0, .ref (w.2.1 42)), (1, .int x1)] [] σ
  unfold f_X5_hasThrows at h
  refine k_iload_n C dX5_hasThrows_0 1 rfl ?_
  obtain ⟨v1, h1, h⟩ := k_bd_e h
  refine k_goI (k_runSN C dX5_hasThrows_1 (e_X11_isShelf (d := 3) (Nat.le_refl _) h1) k_lX5_51 k_yX11_isShelf (by omega) rfl (Nat.le_of_ble_eq_true rfl)) ?_
  refine k_if_eq C dX5_hasThrows_4 (tgt := 24) (by decide) (fun c4 => ?_) (fun c4 => ?_)
  · replace h := k_if_t h c4
    refine k_iconst C dX5_hasThrows_24 (v := 0) rfl ?_
    exact k_zret C dX5_hasThrows_25 hr rfl (k_p1 h)
  · replace h := k_if_f h c4
    refine k_aload_n C dX5_hasThrows_7 0 rfl ?_
    refine k_get C dX5_hasThrows_8 (k_gX42_1 w) k_fX5_15 (Or.inl rfl) ?_
    refine k_iload_n C dX5_hasThrows_11 1 rfl ?_
    obtain ⟨q12, h⟩ := k_gd_e h
    refine k_lald C dX5_hasThrows_12 (k_aX44 w) q12 ?_
    refine k_ldc2 C dX5_hasThrows_13 k_cX5_46 ?_
    refine k_lcmp C dX5_hasThrows_16 ?_
    refine k_if_eq C dX5_hasThrows_17 (tgt := 24) (by decide) (fun c17 => ?_) (fun c17 => ?_)
    · replace h := k_if_t h c17
      refine k_iconst C dX5_hasThrows_24 (v := 0) rfl ?_
      exact k_zret C dX5_hasThrows_25 hr rfl (k_p1 h)
    · replace h := k_if_f h c17
      refine k_iconst C dX5_hasThrows_20 (v := 1) rfl ?_
      refine k_goto C dX5_hasThrows_21 (tgt := 25) (by decide) ?_
      exact k_zret C dX5_hasThrows_25 hr rfl (k_p1 h)
def f_X5_isBoat (x1 : Int32) (σ : k_St) : Option (Int32) :=
  k_if (x1 < (0 : Int32))
    (some (0 : Int32))
    (k_bd (f_X5_hasTugs (x1 / (10 : Int32)) σ) fun v9 =>
    k_if (v9 = (0 : Int32))
      (some (0 : Int32))
      (k_bd (f_X5_hasThrows (o_rem x1 (10 : Int32)) σ) fun v20 =>
      k_if (v20 = (0 : Int32))
        (some (0 : Int32))
        (some (1 : Int32))))
set_option maxHeartbeats 4000000 in
set_option maxRecDepth 100000 in
theorem e_X5_isBoat {l : Launch} {w : k_WC} {d : Nat} (hd : 5 ≤ d) {x1 : Int32}  {σ : k_St} {r : Int32} (h : f_X5_isBoat x1 σ = some r) : k_EI l (k_PX w) yX5_isBoat cX5_isBoat 2 (some .boolean) d [.ref (w.2.1 42), .int x1] σ r σ := by
  refine k_of (own := RX5) rfl (by decide) (Nat.le_of_ble_eq_true rfl) (fun X hX C hr => ?_)
  show k_K (k_PX w) X (k_MQ X (k_Qi (k_PX w) r σ) (k_PX w).2.2.1) 0 [(0, .ref (w.2.1 42)), (1, .int x1)] [] σ
  unfold f_X5_isBoat at h
  refine k_iload_n C dX5_isBoat_0 1 rfl ?_
  refine k_if_lt C dX5_isBoat_1 (tgt := 30) (by decide) (fun c1 => ?_) (fun c1 => ?_)
  · replace h := k_if_t h c1
    refine k_iconst C dX5_isBoat_30 (v := 0) rfl ?_
    exact k_zret C dX5_isBoat_31 hr rfl (k_p1 h)
  · replace h := k_if_f h c1
    refine k_aload_n C dX5_isBoat_4 0 rfl ?_
    refine k_iload_n C dX5_isBoat_5 1 rfl ?_
    refine k_bipush C dX5_isBoat_6 (v := 10) rfl ?_
    refine k_idiv C dX5_isBoat_8 (by decide) ?_
    obtain ⟨v9, h9, h⟩ := k_bd_e h
    refine k_goI (k_runV C dX5_isBoat_9 (e_X5_hasTugs (d := 4) (Nat.le_refl _) h9) k_lX5_55 k_yX5_hasTugs (k_oX42 w) (by omega) rfl (Nat.le_of_ble_eq_true rfl)) ?_
    refine k_if_eq C dX5_isBoat_12 (tgt := 30) (by decide) (fun c12 => ?_) (fun c12 => ?_)
    · replace h := k_if_t h c12
      refine k_iconst C dX5_isBoat_30 (v := 0) rfl ?_
      exact k_zret C dX5_isBoat_31 hr rfl (k_p1 h)
    · replace h := k_if_f h c12
      refine k_aload_n C dX5_isBoat_15 0 rfl ?_
      refine k_iload_n C dX5_isBoat_16 1 rfl ?_
      refine k_bipush C dX5_isBoat_17 (v := 10) rfl ?_
      refine k_irem C dX5_isBoat_19 (by decide) ?_
      obtain ⟨v20, h20, h⟩ := k_bd_e h
      refine k_goI (k_runV C dX5_isBoat_20 (e_X5_hasThrows (d := 4) (Nat.le_refl _) h20) k_lX5_58 k_yX5_hasThrows (k_oX42 w) (by omega) rfl (Nat.le_of_ble_eq_true rfl)) ?_
      refine k_if_eq C dX5_isBoat_23 (tgt := 30) (by decide) (fun c23 => ?_) (fun c23 => ?_)
      · replace h := k_if_t h c23
        refine k_iconst C dX5_isBoat_30 (v := 0) rfl ?_
        exact k_zret C dX5_isBoat_31 hr rfl (k_p1 h)
      · replace h := k_if_f h c23
        refine k_iconst C dX5_isBoat_26 (v := 1) rfl ?_
        refine k_goto C dX5_isBoat_27 (tgt := 31) (by decide) ?_
        exact k_zret C dX5_isBoat_31 hr rfl (k_p1 h)
def f_X5_reckonFits  (σ : k_St) : Option (k_St) :=
  k_loop (fun (g2 : Int32 × k_St → Option (k_St)) (z2 : Int32 × k_St) => match z2 with
    | (v1_2, s_2) =>
      k_if ((4 : Int32) ≤ v1_2)
        (some s_2)
        (k_loop (fun (g9 : Int32 × k_St → Option (k_St)) (z9 : Int32 × k_St) => match z9 with
          | (v2_9, s_9) =>
            k_if ((4 : Int32) ≤ v2_9)
              (k_nm (v1_2 + (1 : Int32)) fun y81 =>
              g2 (y81, s_9))
              (k_bd (f_X5_hasTugs v1_2 s_9) fun v16 =>
              k_jn (fun (t0_35 : Int32) =>
                k_if (t0_35 = (0 : Int32))
                  (k_gd (k_ix ((v1_2 * (4 : Int32)) + v2_9) 16 = true) <|
                  k_nm (k_wl s_9 45 ((v1_2 * (4 : Int32)) + v2_9).toNatClampNeg (-1 : Int64)) fun s74 =>
                  k_nm (v2_9 + (1 : Int32)) fun y75 =>
                  g9 (y75, s74))
                  (k_gd (k_ix v1_2 4 = true) <|
                  k_gd (k_ix v2_9 4 = true) <|
                  k_bd (f_X0_above (k_rd s_9 43 v1_2.toNatClampNeg) (k_rl s_9 44 v2_9.toNatClampNeg) s_9) fun v65 =>
                  k_gd (k_ix ((v1_2 * (4 : Int32)) + v2_9) 16 = true) <|
                  k_nm (k_wl s_9 45 ((v1_2 * (4 : Int32)) + v2_9).toNatClampNeg v65) fun s74 =>
                  k_nm (v2_9 + (1 : Int32)) fun y75 =>
                  g9 (y75, s74))) fun j35 =>
              k_jn (fun (_ : Unit) =>
                j35 (0 : Int32)) fun j34 =>
              k_if (v16 = (0 : Int32))
                (j34 ())
                (k_bd (f_X5_hasThrows v2_9 s_9) fun v24 =>
                k_if (v24 = (0 : Int32))
                  (j34 ())
                  (j35 (1 : Int32))))) 100000 ((0 : Int32), s_2))) 100000 ((0 : Int32), σ)
set_option maxHeartbeats 4000000 in
set_option maxRecDepth 100000 in
theorem e_X5_reckonFits {l : Launch} {w : k_WC} {d : Nat} (hd : 7 ≤ d)   {σ σ' : k_St} (h : f_X5_reckonFits σ = some σ') : k_EV l (k_PX w) yX5_reckonFits cX5_reckonFits 4 d [.ref (w.2.1 42)] σ σ' := by
  refine k_of (own := RX5) rfl (by decide) (Nat.le_of_ble_eq_true rfl) (fun X hX C hr => ?_)
  show k_K (k_PX w) X (k_MQ X (k_Qv (k_PX w) σ') (k_PX w).2.2.1) 0 [(0, .ref (w.2.1 42))] [] σ
  unfold f_X5_reckonFits at h
  refine k_iconst C dX5_reckonFits_0 (v := 0) rfl ?_
  refine k_istore_n C dX5_reckonFits_1 (by decide) [1, 0] (L' := [(0, .ref (w.2.1 42)), (1, .int (0 : Int32))]) rfl ?_
  obtain ⟨b2, eb2, h⟩ := k_lp_e h
  have K2 : ∀ (n : Nat) (v1_2 : Int32) (s_2 : k_St), k_loop b2 n (v1_2, s_2) = some σ' → k_K (k_PX w) X (k_MQ X (k_Qv (k_PX w) σ') (k_PX w).2.2.1) 2 [(0, .ref (w.2.1 42)), (1, .int v1_2)] [] s_2 := by
    intro n
    induction n with
    | zero => intro v1_2 s_2 h; cases h
    | succ n ih2 =>
      intro v1_2 s_2 h
      obtain ⟨g2, eg2, h⟩ := k_lp_s h
      rw [← eg2] at ih2
      rw [eb2] at h
      refine k_iload_n C dX5_reckonFits_2 1 rfl ?_
      refine k_iconst C dX5_reckonFits_3 (v := 4) rfl ?_
      refine k_icmp_ge C dX5_reckonFits_4 (tgt := 87) (by decide) (fun c4 => ?_) (fun c4 => ?_)
      · replace h := k_if_t h c4
        exact k_vret C dX5_reckonFits_87 hr (Option.some.inj h)
      · replace h := k_if_f h c4
        refine k_iconst C dX5_reckonFits_7 (v := 0) rfl ?_
        refine k_istore_n C dX5_reckonFits_8 (by decide) [1, 2, 0] (L' := [(0, .ref (w.2.1 42)), (1, .int v1_2), (2, .int (0 : Int32))]) rfl ?_
        obtain ⟨b9, eb9, h⟩ := k_lp_e h
        have K9 : ∀ (n : Nat) (v2_9 : Int32) (s_9 : k_St), k_loop b9 n (v2_9, s_9) = some σ' → k_K (k_PX w) X (k_MQ X (k_Qv (k_PX w) σ') (k_PX w).2.2.1) 9 [(0, .ref (w.2.1 42)), (1, .int v1_2), (2, .int v2_9)] [] s_9 := by
          intro n
          induction n with
          | zero => intro v2_9 s_9 h; cases h
          | succ n ih9 =>
            intro v2_9 s_9 h
            obtain ⟨g9, eg9, h⟩ := k_lp_s h
            rw [← eg9] at ih9
            rw [eb9] at h
            refine k_iload_n C dX5_reckonFits_9 2 rfl ?_
            refine k_iconst C dX5_reckonFits_10 (v := 4) rfl ?_
            refine k_icmp_ge C dX5_reckonFits_11 (tgt := 81) (by decide) (fun c11 => ?_) (fun c11 => ?_)
            · replace h := k_if_t h c11
              refine k_iinc C dX5_reckonFits_81 1 rfl (v := 1) rfl (by decide) [1, 0, 2] (L' := fun z9 => [(0, .ref (w.2.1 42)), (1, .int z9), (2, .int v2_9)]) (fun z9 => rfl) (fun y81 ey81 => ?_)
              replace h := k_nm_e h y81 ey81
              refine k_goto C dX5_reckonFits_84 (tgt := 2) (by decide) ?_
              refine k_sub (L' := [(0, .ref (w.2.1 42)), (1, .int y81)]) [0, 1] rfl ?_
              exact ih2 _ _ h
            · replace h := k_if_f h c11
              refine k_aload_n C dX5_reckonFits_14 0 rfl ?_
              refine k_iload_n C dX5_reckonFits_15 1 rfl ?_
              obtain ⟨v16, h16, h⟩ := k_bd_e h
              refine k_goI (k_runV C dX5_reckonFits_16 (e_X5_hasTugs (d := 4) (Nat.le_refl _) h16) k_lX5_55 k_yX5_hasTugs (k_oX42 w) (by omega) rfl (Nat.le_of_ble_eq_true rfl)) ?_
              obtain ⟨j35, ej35, h⟩ := k_jn_e h
              have Jj35 : ∀ (t0_35 : Int32), j35 t0_35 = some σ' → k_K (k_PX w) X (k_MQ X (k_Qv (k_PX w) σ') (k_PX w).2.2.1) 35 [(0, .ref (w.2.1 42)), (1, .int v1_2), (2, .int v2_9)] [.int t0_35] s_9 := by
                intro t0_35 h
                rw [ej35] at h
                refine k_istore_n C dX5_reckonFits_35 (by decide) [1, 2, 3, 0] (L' := [(0, .ref (w.2.1 42)), (1, .int v1_2), (2, .int v2_9), (3, .int t0_35)]) rfl ?_
                refine k_aload_n C dX5_reckonFits_36 0 rfl ?_
                refine k_get C dX5_reckonFits_37 (k_gX42_5 w) k_fX5_19 (Or.inl rfl) ?_
                refine k_iload_n C dX5_reckonFits_40 1 rfl ?_
                refine k_iconst C dX5_reckonFits_41 (v := 4) rfl ?_
                refine k_imul C dX5_reckonFits_42 ?_
                refine k_iload_n C dX5_reckonFits_43 2 rfl ?_
                refine k_iadd C dX5_reckonFits_44 ?_
                refine k_iload_n C dX5_reckonFits_45 3 rfl ?_
                refine k_if_eq C dX5_reckonFits_46 (tgt := 71) (by decide) (fun c46 => ?_) (fun c46 => ?_)
                · replace h := k_if_t h c46
                  refine k_ldc2 C dX5_reckonFits_71 k_cX5_46 ?_
                  obtain ⟨q74, h⟩ := k_gd_e h
                  refine k_last C dX5_reckonFits_74 (k_aX45 w) q74 ?_
                  refine k_st (fun s74 es74 => ?_)
                  replace h := k_nm_e h s74 es74
                  refine k_iinc C dX5_reckonFits_75 2 rfl (v := 1) rfl (by decide) [1, 2, 0, 3] (L' := fun z9 => [(0, .ref (w.2.1 42)), (1, .int v1_2), (2, .int z9), (3, .int t0_35)]) (fun z9 => rfl) (fun y75 ey75 => ?_)
                  replace h := k_nm_e h y75 ey75
                  refine k_goto C dX5_reckonFits_78 (tgt := 9) (by decide) ?_
                  refine k_sub (L' := [(0, .ref (w.2.1 42)), (1, .int v1_2), (2, .int y75)]) [0, 1, 2] rfl ?_
                  exact ih9 _ _ h
                · replace h := k_if_f h c46
                  refine k_aload_n C dX5_reckonFits_49 0 rfl ?_
                  refine k_get C dX5_reckonFits_50 (k_gX42_3 w) k_fX5_32 (Or.inl rfl) ?_
                  refine k_aload_n C dX5_reckonFits_53 0 rfl ?_
                  refine k_get C dX5_reckonFits_54 (k_gX42_0 w) k_fX5_9 (Or.inl rfl) ?_
                  refine k_iload_n C dX5_reckonFits_57 1 rfl ?_
                  obtain ⟨q58, h⟩ := k_gd_e h
                  refine k_iald C dX5_reckonFits_58 (k_aX43 w) q58 ?_
                  refine k_aload_n C dX5_reckonFits_59 0 rfl ?_
                  refine k_get C dX5_reckonFits_60 (k_gX42_1 w) k_fX5_15 (Or.inl rfl) ?_
                  refine k_iload_n C dX5_reckonFits_63 2 rfl ?_
                  obtain ⟨q64, h⟩ := k_gd_e h
                  refine k_lald C dX5_reckonFits_64 (k_aX44 w) q64 ?_
                  obtain ⟨v65, h65, h⟩ := k_bd_e h
                  refine k_goL (k_runV C dX5_reckonFits_65 (e_X0_above (d := 6) (Nat.le_refl _) h65) k_lX5_61 k_yX0_above (k_oX30 w) (by omega) rfl (Nat.le_of_ble_eq_true rfl)) ?_
                  refine k_goto C dX5_reckonFits_68 (tgt := 74) (by decide) ?_
                  obtain ⟨q74, h⟩ := k_gd_e h
                  refine k_last C dX5_reckonFits_74 (k_aX45 w) q74 ?_
                  refine k_st (fun s74 es74 => ?_)
                  replace h := k_nm_e h s74 es74
                  refine k_iinc C dX5_reckonFits_75 2 rfl (v := 1) rfl (by decide) [1, 2, 0, 3] (L' := fun z9 => [(0, .ref (w.2.1 42)), (1, .int v1_2), (2, .int z9), (3, .int t0_35)]) (fun z9 => rfl) (fun y75 ey75 => ?_)
                  replace h := k_nm_e h y75 ey75
                  refine k_goto C dX5_reckonFits_78 (tgt := 9) (by decide) ?_
                  refine k_sub (L' := [(0, .ref (w.2.1 42)), (1, .int v1_2), (2, .int y75)]) [0, 1, 2] rfl ?_
                  exact ih9 _ _ h
              obtain ⟨j34, ej34, h⟩ := k_jn_e h
              have Jj34 : j34 () = some σ' → k_K (k_PX w) X (k_MQ X (k_Qv (k_PX w) σ') (k_PX w).2.2.1) 34 [(0, .ref (w.2.1 42)), (1, .int v1_2), (2, .int v2_9)] [] s_9 := by
                intro  h
                rw [ej34] at h
                refine k_iconst C dX5_reckonFits_34 (v := 0) rfl ?_
                exact Jj35 _ h
              refine k_if_eq C dX5_reckonFits_19 (tgt := 34) (by decide) (fun c19 => ?_) (fun c19 => ?_)
              · replace h := k_if_t h c19
                exact Jj34 h
              · replace h := k_if_f h c19
                refine k_aload_n C dX5_reckonFits_22 0 rfl ?_
                refine k_iload_n C dX5_reckonFits_23 2 rfl ?_
                obtain ⟨v24, h24, h⟩ := k_bd_e h
                refine k_goI (k_runV C dX5_reckonFits_24 (e_X5_hasThrows (d := 4) (Nat.le_refl _) h24) k_lX5_58 k_yX5_hasThrows (k_oX42 w) (by omega) rfl (Nat.le_of_ble_eq_true rfl)) ?_
                refine k_if_eq C dX5_reckonFits_27 (tgt := 34) (by decide) (fun c27 => ?_) (fun c27 => ?_)
                · replace h := k_if_t h c27
                  exact Jj34 h
                · replace h := k_if_f h c27
                  refine k_iconst C dX5_reckonFits_30 (v := 1) rfl ?_
                  refine k_goto C dX5_reckonFits_31 (tgt := 35) (by decide) ?_
                  exact Jj35 _ h
        exact K9 _ _ _ h
  exact K2 _ _ _ h
def f_X5_bestFit  (σ : k_St) : Option (Int32) :=
  k_loop (fun (g9 : Int32 × Int64 × Int32 → Option (Int32)) (z9 : Int32 × Int64 × Int32) => match z9 with
    | (v1_9, v2_9, v4_9) =>
      k_if ((16 : Int32) ≤ v4_9)
        (some v1_9)
        (k_gd (k_ix v4_9 16 = true) <|
        k_if ((lg_cmp (k_rl σ 45 v4_9.toNatClampNeg) v2_9) ≤ (0 : Int32))
          (k_nm (v4_9 + (1 : Int32)) fun y42 =>
          g9 (v1_9, v2_9, y42))
          (k_gd (k_ix v4_9 16 = true) <|
          k_nm ((k_rl σ 45 v4_9.toNatClampNeg)) fun y38 =>
          k_nm (v4_9 + (1 : Int32)) fun y42 =>
          g9 (v4_9, y38, y42)))) 100000 ((-1 : Int32), (-1 : Int64), (0 : Int32))
set_option maxHeartbeats 4000000 in
set_option maxRecDepth 100000 in
theorem e_X5_bestFit {l : Launch} {w : k_WC} {d : Nat} (hd : 2 ≤ d)   {σ : k_St} {r : Int32} (h : f_X5_bestFit σ = some r) : k_EI l (k_PX w) yX5_bestFit cX5_bestFit 5 (some .int) d [.ref (w.2.1 42)] σ r σ := by
  refine k_of (own := RX5) rfl (by decide) (Nat.le_of_ble_eq_true rfl) (fun X hX C hr => ?_)
  show k_K (k_PX w) X (k_MQ X (k_Qi (k_PX w) r σ) (k_PX w).2.2.1) 0 [(0, .ref (w.2.1 42))] [] σ
  unfold f_X5_bestFit at h
  refine k_iconst C dX5_bestFit_0 (v := -1) rfl ?_
  refine k_istore_n C dX5_bestFit_1 (by decide) [1, 0] (L' := [(0, .ref (w.2.1 42)), (1, .int (-1 : Int32))]) rfl ?_
  refine k_ldc2 C dX5_bestFit_2 k_cX5_46 ?_
  refine k_lstore_n C dX5_bestFit_5 (by decide) [1, 2, 0] (L' := [(0, .ref (w.2.1 42)), (1, .int (-1 : Int32)), (2, .long (-1 : Int64))]) rfl ?_
  refine k_iconst C dX5_bestFit_6 (v := 0) rfl ?_
  refine k_istore C dX5_bestFit_7 (by decide) [1, 2, 3, 0] (L' := [(0, .ref (w.2.1 42)), (1, .int (-1 : Int32)), (2, .long (-1 : Int64)), (4, .int (0 : Int32))]) rfl ?_
  obtain ⟨b9, eb9, h⟩ := k_lp_e h
  have K9 : ∀ (n : Nat) (v1_9 : Int32) (v2_9 : Int64) (v4_9 : Int32), k_loop b9 n (v1_9, v2_9, v4_9) = some r → k_K (k_PX w) X (k_MQ X (k_Qi (k_PX w) r σ) (k_PX w).2.2.1) 9 [(0, .ref (w.2.1 42)), (1, .int v1_9), (2, .long v2_9), (4, .int v4_9)] [] σ := by
    intro n
    induction n with
    | zero => intro v1_9 v2_9 v4_9 h; cases h
    | succ n ih9 =>
      intro v1_9 v2_9 v4_9 h
      obtain ⟨g9, eg9, h⟩ := k_lp_s h
      rw [← eg9] at ih9
      rw [eb9] at h
      refine k_iload C dX5_bestFit_9 3 rfl ?_
      refine k_aload_n C dX5_bestFit_11 0 rfl ?_
      refine k_get C dX5_bestFit_12 (k_gX42_5 w) k_fX5_19 (Or.inl rfl) ?_
      refine k_alenL C dX5_bestFit_15 (k_aX45 w) (v := 16) rfl ?_
      refine k_icmp_ge C dX5_bestFit_16 (tgt := 48) (by decide) (fun c16 => ?_) (fun c16 => ?_)
      · replace h := k_if_t h c16
        refine k_iload_n C dX5_bestFit_48 1 rfl ?_
        exact k_iret C dX5_bestFit_49 hr (k_p1 h)
      · replace h := k_if_f h c16
        refine k_aload_n C dX5_bestFit_19 0 rfl ?_
        refine k_get C dX5_bestFit_20 (k_gX42_5 w) k_fX5_19 (Or.inl rfl) ?_
        refine k_iload C dX5_bestFit_23 3 rfl ?_
        obtain ⟨q25, h⟩ := k_gd_e h
        refine k_lald C dX5_bestFit_25 (k_aX45 w) q25 ?_
        refine k_lload_n C dX5_bestFit_26 2 rfl ?_
        refine k_lcmp C dX5_bestFit_27 ?_
        refine k_if_le C dX5_bestFit_28 (tgt := 42) (by decide) (fun c28 => ?_) (fun c28 => ?_)
        · replace h := k_if_t h c28
          refine k_iinc C dX5_bestFit_42 3 rfl (v := 1) rfl (by decide) [1, 2, 3, 0] (L' := fun z9 => [(0, .ref (w.2.1 42)), (1, .int v1_9), (2, .long v2_9), (4, .int z9)]) (fun z9 => rfl) (fun y42 ey42 => ?_)
          replace h := k_nm_e h y42 ey42
          refine k_goto C dX5_bestFit_45 (tgt := 9) (by decide) ?_
          exact ih9 _ _ _ h
        · replace h := k_if_f h c28
          refine k_aload_n C dX5_bestFit_31 0 rfl ?_
          refine k_get C dX5_bestFit_32 (k_gX42_5 w) k_fX5_19 (Or.inl rfl) ?_
          refine k_iload C dX5_bestFit_35 3 rfl ?_
          obtain ⟨q37, h⟩ := k_gd_e h
          refine k_lald C dX5_bestFit_37 (k_aX45 w) q37 ?_
          refine k_topl (fun y38 ey38 => ?_)
          replace h := k_nm_e h y38 ey38
          refine k_lstore_n C dX5_bestFit_38 (by decide) [1, 2, 0, 3] (L' := [(0, .ref (w.2.1 42)), (1, .int v1_9), (2, .long y38), (4, .int v4_9)]) rfl ?_
          refine k_iload C dX5_bestFit_39 3 rfl ?_
          refine k_istore_n C dX5_bestFit_41 (by decide) [1, 0, 2, 3] (L' := [(0, .ref (w.2.1 42)), (1, .int v4_9), (2, .long y38), (4, .int v4_9)]) rfl ?_
          refine k_iinc C dX5_bestFit_42 3 rfl (v := 1) rfl (by decide) [1, 2, 3, 0] (L' := fun z9 => [(0, .ref (w.2.1 42)), (1, .int v4_9), (2, .long y38), (4, .int z9)]) (fun z9 => rfl) (fun y42 ey42 => ?_)
          replace h := k_nm_e h y42 ey42
          refine k_goto C dX5_bestFit_45 (tgt := 9) (by decide) ?_
          exact ih9 _ _ _ h
  exact K9 _ _ _ _ h
def f_X5_strikeOut (x1 : Int32) (x2 : Int32) (σ : k_St) : Option (k_St) :=
  k_loop (fun (g2 : Int32 × k_St → Option (k_St)) (z2 : Int32 × k_St) => match z2 with
    | (v3_2, s_2) =>
      k_if ((4 : Int32) ≤ v3_2)
        (some s_2)
        (k_gd (k_ix ((x1 * (4 : Int32)) + v3_2) 16 = true) <|
        k_nm (k_wl s_2 45 ((x1 * (4 : Int32)) + v3_2).toNatClampNeg (-1 : Int64)) fun s19 =>
        k_gd (k_ix ((v3_2 * (4 : Int32)) + x2) 16 = true) <|
        k_nm (k_wl s19 45 ((v3_2 * (4 : Int32)) + x2).toNatClampNeg (-1 : Int64)) fun s32 =>
        k_nm (v3_2 + (1 : Int32)) fun y33 =>
        g2 (y33, s32))) 100000 ((0 : Int32), σ)
set_option maxHeartbeats 4000000 in
set_option maxRecDepth 100000 in
theorem e_X5_strikeOut {l : Launch} {w : k_WC} {d : Nat} (hd : 2 ≤ d) {x1 : Int32} {x2 : Int32}  {σ σ' : k_St} (h : f_X5_strikeOut x1 x2 σ = some σ') : k_EV l (k_PX w) yX5_strikeOut cX5_strikeOut 4 d [.ref (w.2.1 42), .int x1, .int x2] σ σ' := by
  refine k_of (own := RX5) rfl (by decide) (Nat.le_of_ble_eq_true rfl) (fun X hX C hr => ?_)
  show k_K (k_PX w) X (k_MQ X (k_Qv (k_PX w) σ') (k_PX w).2.2.1) 0 [(0, .ref (w.2.1 42)), (1, .int x1), (2, .int x2)] [] σ
  unfold f_X5_strikeOut at h
  refine k_iconst C dX5_strikeOut_0 (v := 0) rfl ?_
  refine k_istore_n C dX5_strikeOut_1 (by decide) [1, 2, 3, 0] (L' := [(0, .ref (w.2.1 42)), (1, .int x1), (2, .int x2), (3, .int (0 : Int32))]) rfl ?_
  obtain ⟨b2, eb2, h⟩ := k_lp_e h
  have K2 : ∀ (n : Nat) (v3_2 : Int32) (s_2 : k_St), k_loop b2 n (v3_2, s_2) = some σ' → k_K (k_PX w) X (k_MQ X (k_Qv (k_PX w) σ') (k_PX w).2.2.1) 2 [(0, .ref (w.2.1 42)), (1, .int x1), (2, .int x2), (3, .int v3_2)] [] s_2 := by
    intro n
    induction n with
    | zero => intro v3_2 s_2 h; cases h
    | succ n ih2 =>
      intro v3_2 s_2 h
      obtain ⟨g2, eg2, h⟩ := k_lp_s h
      rw [← eg2] at ih2
      rw [eb2] at h
      refine k_iload_n C dX5_strikeOut_2 3 rfl ?_
      refine k_iconst C dX5_strikeOut_3 (v := 4) rfl ?_
      refine k_icmp_ge C dX5_strikeOut_4 (tgt := 39) (by decide) (fun c4 => ?_) (fun c4 => ?_)
      · replace h := k_if_t h c4
        exact k_vret C dX5_strikeOut_39 hr (Option.some.inj h)
      · replace h := k_if_f h c4
        refine k_aload_n C dX5_strikeOut_7 0 rfl ?_
        refine k_get C dX5_strikeOut_8 (k_gX42_5 w) k_fX5_19 (Or.inl rfl) ?_
        refine k_iload_n C dX5_strikeOut_11 1 rfl ?_
        refine k_iconst C dX5_strikeOut_12 (v := 4) rfl ?_
        refine k_imul C dX5_strikeOut_13 ?_
        refine k_iload_n C dX5_strikeOut_14 3 rfl ?_
        refine k_iadd C dX5_strikeOut_15 ?_
        refine k_ldc2 C dX5_strikeOut_16 k_cX5_46 ?_
        obtain ⟨q19, h⟩ := k_gd_e h
        refine k_last C dX5_strikeOut_19 (k_aX45 w) q19 ?_
        refine k_st (fun s19 es19 => ?_)
        replace h := k_nm_e h s19 es19
        refine k_aload_n C dX5_strikeOut_20 0 rfl ?_
        refine k_get C dX5_strikeOut_21 (k_gX42_5 w) k_fX5_19 (Or.inl rfl) ?_
        refine k_iload_n C dX5_strikeOut_24 3 rfl ?_
        refine k_iconst C dX5_strikeOut_25 (v := 4) rfl ?_
        refine k_imul C dX5_strikeOut_26 ?_
        refine k_iload_n C dX5_strikeOut_27 2 rfl ?_
        refine k_iadd C dX5_strikeOut_28 ?_
        refine k_ldc2 C dX5_strikeOut_29 k_cX5_46 ?_
        obtain ⟨q32, h⟩ := k_gd_e h
        refine k_last C dX5_strikeOut_32 (k_aX45 w) q32 ?_
        refine k_st (fun s32 es32 => ?_)
        replace h := k_nm_e h s32 es32
        refine k_iinc C dX5_strikeOut_33 3 rfl (v := 1) rfl (by decide) [1, 2, 3, 0] (L' := fun z9 => [(0, .ref (w.2.1 42)), (1, .int x1), (2, .int x2), (3, .int z9)]) (fun z9 => rfl) (fun y33 ey33 => ?_)
        replace h := k_nm_e h y33 ey33
        refine k_goto C dX5_strikeOut_36 (tgt := 2) (by decide) ?_
        exact ih2 _ _ h
  exact K2 _ _ _ h
def f_X5_pairOf (x1 : Int32) (σ : k_St) : Option (Int32 × k_St) :=
  k_loop (fun (g2 : Int32 × k_St → Option (Int32 × k_St)) (z2 : Int32 × k_St) => match z2 with
    | (v2_2, s_2) =>
      k_if ((4 : Int32) ≤ v2_2)
        (some ((-1 : Int32), s_2))
        (k_bd (f_X5_bestFit s_2) fun v8 =>
        k_if (v8 = (-1 : Int32))
          (some ((-1 : Int32), s_2))
          (k_if ((v8 / (4 : Int32)) = x1)
            (some ((o_rem v8 (4 : Int32)), s_2))
            (k_bd (f_X5_strikeOut (v8 / (4 : Int32)) (o_rem v8 (4 : Int32)) s_2) fun s37 =>
            k_nm (v2_2 + (1 : Int32)) fun y40 =>
            g2 (y40, s37))))) 100000 ((0 : Int32), σ)
set_option maxHeartbeats 4000000 in
set_option maxRecDepth 100000 in
theorem e_X5_pairOf {l : Launch} {w : k_WC} {d : Nat} (hd : 3 ≤ d) {x1 : Int32}  {σ σ' : k_St} {r : Int32} (h : f_X5_pairOf x1 σ = some (r, σ')) : k_EI l (k_PX w) yX5_pairOf cX5_pairOf 4 (some .int) d [.ref (w.2.1 42), .int x1] σ r σ' := by
  refine k_of (own := RX5) rfl (by decide) (Nat.le_of_ble_eq_true rfl) (fun X hX C hr => ?_)
  show k_K (k_PX w) X (k_MQ X (k_Qi (k_PX w) r σ') (k_PX w).2.2.1) 0 [(0, .ref (w.2.1 42)), (1, .int x1)] [] σ
  unfold f_X5_pairOf at h
  refine k_iconst C dX5_pairOf_0 (v := 0) rfl ?_
  refine k_istore_n C dX5_pairOf_1 (by decide) [1, 2, 0] (L' := [(0, .ref (w.2.1 42)), (1, .int x1), (2, .int (0 : Int32))]) rfl ?_
  obtain ⟨b2, eb2, h⟩ := k_lp_e h
  have K2 : ∀ (n : Nat) (v2_2 : Int32) (s_2 : k_St), k_loop b2 n (v2_2, s_2) = some (r, σ') → k_K (k_PX w) X (k_MQ X (k_Qi (k_PX w) r σ') (k_PX w).2.2.1) 2 [(0, .ref (w.2.1 42)), (1, .int x1), (2, .int v2_2)] [] s_2 := by
    intro n
    induction n with
    | zero => intro v2_2 s_2 h; cases h
    | succ n ih2 =>
      intro v2_2 s_2 h
      obtain ⟨g2, eg2, h⟩ := k_lp_s h
      rw [← eg2] at ih2
      rw [eb2] at h
      refine k_iload_n C dX5_pairOf_2 2 rfl ?_
      refine k_iconst C dX5_pairOf_3 (v := 4) rfl ?_
      refine k_icmp_ge C dX5_pairOf_4 (tgt := 46) (by decide) (fun c4 => ?_) (fun c4 => ?_)
      · replace h := k_if_t h c4
        refine k_iconst C dX5_pairOf_46 (v := -1) rfl ?_
        exact k_iret C dX5_pairOf_47 hr (Option.some.inj h)
      · replace h := k_if_f h c4
        refine k_aload_n C dX5_pairOf_7 0 rfl ?_
        obtain ⟨v8, h8, h⟩ := k_bd_e h
        refine k_goI (k_runV C dX5_pairOf_8 (e_X5_bestFit (d := 2) (Nat.le_refl _) h8) k_lX5_67 k_yX5_bestFit (k_oX42 w) (by omega) rfl (Nat.le_of_ble_eq_true rfl)) ?_
        refine k_istore_n C dX5_pairOf_11 (by decide) [1, 2, 3, 0] (L' := [(0, .ref (w.2.1 42)), (1, .int x1), (2, .int v2_2), (3, .int v8)]) rfl ?_
        refine k_iload_n C dX5_pairOf_12 3 rfl ?_
        refine k_iconst C dX5_pairOf_13 (v := -1) rfl ?_
        refine k_icmp_ne C dX5_pairOf_14 (tgt := 19) (by decide) (fun c14 => ?_) (fun c14 => ?_)
        · replace h := k_if_f h c14
          refine k_iload_n C dX5_pairOf_19 3 rfl ?_
          refine k_iconst C dX5_pairOf_20 (v := 4) rfl ?_
          refine k_idiv C dX5_pairOf_21 (by decide) ?_
          refine k_iload_n C dX5_pairOf_22 1 rfl ?_
          refine k_icmp_ne C dX5_pairOf_23 (tgt := 30) (by decide) (fun c23 => ?_) (fun c23 => ?_)
          · replace h := k_if_f h c23
            refine k_aload_n C dX5_pairOf_30 0 rfl ?_
            refine k_iload_n C dX5_pairOf_31 3 rfl ?_
            refine k_iconst C dX5_pairOf_32 (v := 4) rfl ?_
            refine k_idiv C dX5_pairOf_33 (by decide) ?_
            refine k_iload_n C dX5_pairOf_34 3 rfl ?_
            refine k_iconst C dX5_pairOf_35 (v := 4) rfl ?_
            refine k_irem C dX5_pairOf_36 (by decide) ?_
            obtain ⟨s37, h37, h⟩ := k_bd_e h
            refine k_goV (k_runV C dX5_pairOf_37 (e_X5_strikeOut (d := 2) (Nat.le_refl _) h37) k_lX5_71 k_yX5_strikeOut (k_oX42 w) (by omega) rfl (Nat.le_of_ble_eq_true rfl)) ?_
            refine k_iinc C dX5_pairOf_40 2 rfl (v := 1) rfl (by decide) [1, 2, 0, 3] (L' := fun z9 => [(0, .ref (w.2.1 42)), (1, .int x1), (2, .int z9), (3, .int v8)]) (fun z9 => rfl) (fun y40 ey40 => ?_)
            replace h := k_nm_e h y40 ey40
            refine k_goto C dX5_pairOf_43 (tgt := 2) (by decide) ?_
            refine k_sub (L' := [(0, .ref (w.2.1 42)), (1, .int x1), (2, .int y40)]) [0, 1, 2] rfl ?_
            exact ih2 _ _ h
          · replace h := k_if_t h c23
            refine k_iload_n C dX5_pairOf_26 3 rfl ?_
            refine k_iconst C dX5_pairOf_27 (v := 4) rfl ?_
            refine k_irem C dX5_pairOf_28 (by decide) ?_
            exact k_iret C dX5_pairOf_29 hr (Option.some.inj h)
        · replace h := k_if_t h c14
          refine k_iconst C dX5_pairOf_17 (v := -1) rfl ?_
          exact k_iret C dX5_pairOf_18 hr (Option.some.inj h)
  exact K2 _ _ _ h
def f_X5_isRow (x1 : Int32) (σ : k_St) : Option (Int32) :=
  k_bd (f_X11_within x1 (0 : Int32) (9999 : Int32)) fun v5 =>
  k_if (v5 = (0 : Int32))
    (some (0 : Int32))
    (k_loop (fun (g17 : Int32 × Int32 → Option (Int32)) (z17 : Int32 × Int32) => match z17 with
      | (v2_17, v3_17) =>
        k_if ((4 : Int32) ≤ v3_17)
          (some (1 : Int32))
          (k_bd (f_X11_digitOf x1 v3_17) fun v24 =>
          k_if (v24 = (9 : Int32))
            (k_nm (v3_17 + (1 : Int32)) fun y71 =>
            g17 (v2_17, y71))
            (k_bd (f_X5_hasTugs v3_17 σ) fun v38 =>
            k_if (v38 = (0 : Int32))
              (some (0 : Int32))
              (k_bd (f_X5_hasThrows v24 σ) fun v47 =>
              k_if (v47 = (0 : Int32))
                (some (0 : Int32))
                (k_if ((v2_17 &&& (o_shl (1 : Int32) v24)) = (0 : Int32))
                  (k_nm ((v2_17 ||| (o_shl (1 : Int32) v24))) fun y70 =>
                  k_nm (v3_17 + (1 : Int32)) fun y71 =>
                  g17 (y70, y71))
                  (some (0 : Int32))))))) 100000 ((0 : Int32), (0 : Int32)))
set_option maxHeartbeats 4000000 in
set_option maxRecDepth 100000 in
theorem e_X5_isRow {l : Launch} {w : k_WC} {d : Nat} (hd : 5 ≤ d) {x1 : Int32}  {σ : k_St} {r : Int32} (h : f_X5_isRow x1 σ = some r) : k_EI l (k_PX w) yX5_isRow cX5_isRow 5 (some .boolean) d [.ref (w.2.1 42), .int x1] σ r σ := by
  refine k_of (own := RX5) rfl (by decide) (Nat.le_of_ble_eq_true rfl) (fun X hX C hr => ?_)
  show k_K (k_PX w) X (k_MQ X (k_Qi (k_PX w) r σ) (k_PX w).2.2.1) 0 [(0, .ref (w.2.1 42)), (1, .int x1)] [] σ
  unfold f_X5_isRow at h
  refine k_iload_n C dX5_isRow_0 1 rfl ?_
  refine k_iconst C dX5_isRow_1 (v := 0) rfl ?_
  refine k_sipush C dX5_isRow_2 (v := 9999) rfl ?_
  obtain ⟨v5, h5, h⟩ := k_bd_e h
  refine k_goI (k_runSN C dX5_isRow_5 (e_X11_within (d := 2) (Nat.le_refl _) h5) k_lX5_75 k_yX11_within (by omega) rfl (Nat.le_of_ble_eq_true rfl)) ?_
  refine k_if_ne C dX5_isRow_8 (tgt := 13) (by decide) (fun c8 => ?_) (fun c8 => ?_)
  · replace h := k_if_f h c8
    refine k_iconst C dX5_isRow_13 (v := 0) rfl ?_
    refine k_istore_n C dX5_isRow_14 (by decide) [1, 2, 0] (L' := [(0, .ref (w.2.1 42)), (1, .int x1), (2, .int (0 : Int32))]) rfl ?_
    refine k_iconst C dX5_isRow_15 (v := 0) rfl ?_
    refine k_istore_n C dX5_isRow_16 (by decide) [1, 2, 3, 0] (L' := [(0, .ref (w.2.1 42)), (1, .int x1), (2, .int (0 : Int32)), (3, .int (0 : Int32))]) rfl ?_
    obtain ⟨b17, eb17, h⟩ := k_lp_e h
    have K17 : ∀ (n : Nat) (v2_17 : Int32) (v3_17 : Int32), k_loop b17 n (v2_17, v3_17) = some r → k_K (k_PX w) X (k_MQ X (k_Qi (k_PX w) r σ) (k_PX w).2.2.1) 17 [(0, .ref (w.2.1 42)), (1, .int x1), (2, .int v2_17), (3, .int v3_17)] [] σ := by
      intro n
      induction n with
      | zero => intro v2_17 v3_17 h; cases h
      | succ n ih17 =>
        intro v2_17 v3_17 h
        obtain ⟨g17, eg17, h⟩ := k_lp_s h
        rw [← eg17] at ih17
        rw [eb17] at h
        refine k_iload_n C dX5_isRow_17 3 rfl ?_
        refine k_iconst C dX5_isRow_18 (v := 4) rfl ?_
        refine k_icmp_ge C dX5_isRow_19 (tgt := 77) (by decide) (fun c19 => ?_) (fun c19 => ?_)
        · replace h := k_if_t h c19
          refine k_iconst C dX5_isRow_77 (v := 1) rfl ?_
          exact k_zret C dX5_isRow_78 hr rfl (k_p1 h)
        · replace h := k_if_f h c19
          refine k_iload_n C dX5_isRow_22 1 rfl ?_
          refine k_iload_n C dX5_isRow_23 3 rfl ?_
          obtain ⟨v24, h24, h⟩ := k_bd_e h
          refine k_goI (k_runSN C dX5_isRow_24 (e_X11_digitOf (d := 2) (Nat.le_refl _) h24) k_lX5_79 k_yX11_digitOf (by omega) rfl (Nat.le_of_ble_eq_true rfl)) ?_
          refine k_istore C dX5_isRow_27 (by decide) [1, 2, 3, 4, 0] (L' := [(0, .ref (w.2.1 42)), (1, .int x1), (2, .int v2_17), (3, .int v3_17), (4, .int v24)]) rfl ?_
          refine k_iload C dX5_isRow_29 4 rfl ?_
          refine k_bipush C dX5_isRow_31 (v := 9) rfl ?_
          refine k_icmp_eq C dX5_isRow_33 (tgt := 71) (by decide) (fun c33 => ?_) (fun c33 => ?_)
          · replace h := k_if_t h c33
            refine k_iinc C dX5_isRow_71 3 rfl (v := 1) rfl (by decide) [1, 2, 3, 0, 4] (L' := fun z9 => [(0, .ref (w.2.1 42)), (1, .int x1), (2, .int v2_17), (3, .int z9), (4, .int v24)]) (fun z9 => rfl) (fun y71 ey71 => ?_)
            replace h := k_nm_e h y71 ey71
            refine k_goto C dX5_isRow_74 (tgt := 17) (by decide) ?_
            refine k_sub (L' := [(0, .ref (w.2.1 42)), (1, .int x1), (2, .int v2_17), (3, .int y71)]) [0, 1, 2, 3] rfl ?_
            exact ih17 _ _ h
          · replace h := k_if_f h c33
            refine k_aload_n C dX5_isRow_36 0 rfl ?_
            refine k_iload_n C dX5_isRow_37 3 rfl ?_
            obtain ⟨v38, h38, h⟩ := k_bd_e h
            refine k_goI (k_runV C dX5_isRow_38 (e_X5_hasTugs (d := 4) (Nat.le_refl _) h38) k_lX5_55 k_yX5_hasTugs (k_oX42 w) (by omega) rfl (Nat.le_of_ble_eq_true rfl)) ?_
            refine k_if_eq C dX5_isRow_41 (tgt := 62) (by decide) (fun c41 => ?_) (fun c41 => ?_)
            · replace h := k_if_t h c41
              refine k_iconst C dX5_isRow_62 (v := 0) rfl ?_
              exact k_zret C dX5_isRow_63 hr rfl (k_p1 h)
            · replace h := k_if_f h c41
              refine k_aload_n C dX5_isRow_44 0 rfl ?_
              refine k_iload C dX5_isRow_45 4 rfl ?_
              obtain ⟨v47, h47, h⟩ := k_bd_e h
              refine k_goI (k_runV C dX5_isRow_47 (e_X5_hasThrows (d := 4) (Nat.le_refl _) h47) k_lX5_58 k_yX5_hasThrows (k_oX42 w) (by omega) rfl (Nat.le_of_ble_eq_true rfl)) ?_
              refine k_if_eq C dX5_isRow_50 (tgt := 62) (by decide) (fun c50 => ?_) (fun c50 => ?_)
              · replace h := k_if_t h c50
                refine k_iconst C dX5_isRow_62 (v := 0) rfl ?_
                exact k_zret C dX5_isRow_63 hr rfl (k_p1 h)
              · replace h := k_if_f h c50
                refine k_iload_n C dX5_isRow_53 2 rfl ?_
                refine k_iconst C dX5_isRow_54 (v := 1) rfl ?_
                refine k_iload C dX5_isRow_55 4 rfl ?_
                refine k_ishl C dX5_isRow_57 ?_
                refine k_iand C dX5_isRow_58 ?_
                refine k_if_eq C dX5_isRow_59 (tgt := 64) (by decide) (fun c59 => ?_) (fun c59 => ?_)
                · replace h := k_if_t h c59
                  refine k_iload_n C dX5_isRow_64 2 rfl ?_
                  refine k_iconst C dX5_isRow_65 (v := 1) rfl ?_
                  refine k_iload C dX5_isRow_66 4 rfl ?_
                  refine k_ishl C dX5_isRow_68 ?_
                  refine k_ior C dX5_isRow_69 ?_
                  refine k_topi (fun y70 ey70 => ?_)
                  replace h := k_nm_e h y70 ey70
                  refine k_istore_n C dX5_isRow_70 (by decide) [1, 2, 0, 3, 4] (L' := [(0, .ref (w.2.1 42)), (1, .int x1), (2, .int y70), (3, .int v3_17), (4, .int v24)]) rfl ?_
                  refine k_iinc C dX5_isRow_71 3 rfl (v := 1) rfl (by decide) [1, 2, 3, 0, 4] (L' := fun z9 => [(0, .ref (w.2.1 42)), (1, .int x1), (2, .int y70), (3, .int z9), (4, .int v24)]) (fun z9 => rfl) (fun y71 ey71 => ?_)
                  replace h := k_nm_e h y71 ey71
                  refine k_goto C dX5_isRow_74 (tgt := 17) (by decide) ?_
                  refine k_sub (L' := [(0, .ref (w.2.1 42)), (1, .int x1), (2, .int y70), (3, .int y71)]) [0, 1, 2, 3] rfl ?_
                  exact ih17 _ _ h
                · replace h := k_if_f h c59
                  refine k_iconst C dX5_isRow_62 (v := 0) rfl ?_
                  exact k_zret C dX5_isRow_63 hr rfl (k_p1 h)
    exact K17 _ _ _ h
  · replace h := k_if_t h c8
    refine k_iconst C dX5_isRow_11 (v := 0) rfl ?_
    exact k_zret C dX5_isRow_12 hr rfl (k_p1 h)
def f_X5_tugsFitNow (x1 : Int32) (x2 : Int32) (σ : k_St) : Option (Int64) :=
  k_bd (f_X11_digitOf x1 x2) fun v2 =>
  k_bd (f_X11_isShelf v2) fun v7 =>
  k_if (v7 = (0 : Int32))
    (some (-1 : Int64))
    (k_gd (k_ix ((x2 * (4 : Int32)) + v2) 16 = true) <|
    some (k_rl σ 45 ((x2 * (4 : Int32)) + v2).toNatClampNeg))
set_option maxHeartbeats 4000000 in
set_option maxRecDepth 100000 in
theorem e_X5_tugsFitNow {l : Launch} {w : k_WC} {d : Nat} (hd : 4 ≤ d) {x1 : Int32} {x2 : Int32}  {σ : k_St} {r : Int64} (h : f_X5_tugsFitNow x1 x2 σ = some r) : k_EL l (k_PX w) yX5_tugsFitNow cX5_tugsFitNow 4 d [.ref (w.2.1 42), .int x1, .int x2] σ r σ := by
  refine k_of (own := RX5) rfl (by decide) (Nat.le_of_ble_eq_true rfl) (fun X hX C hr => ?_)
  show k_K (k_PX w) X (k_MQ X (k_Ql (k_PX w) r σ) (k_PX w).2.2.1) 0 [(0, .ref (w.2.1 42)), (1, .int x1), (2, .int x2)] [] σ
  unfold f_X5_tugsFitNow at h
  refine k_iload_n C dX5_tugsFitNow_0 1 rfl ?_
  refine k_iload_n C dX5_tugsFitNow_1 2 rfl ?_
  obtain ⟨v2, h2, h⟩ := k_bd_e h
  refine k_goI (k_runSN C dX5_tugsFitNow_2 (e_X11_digitOf (d := 2) (Nat.le_refl _) h2) k_lX5_79 k_yX11_digitOf (by omega) rfl (Nat.le_of_ble_eq_true rfl)) ?_
  refine k_istore_n C dX5_tugsFitNow_5 (by decide) [1, 2, 3, 0] (L' := [(0, .ref (w.2.1 42)), (1, .int x1), (2, .int x2), (3, .int v2)]) rfl ?_
  refine k_iload_n C dX5_tugsFitNow_6 3 rfl ?_
  obtain ⟨v7, h7, h⟩ := k_bd_e h
  refine k_goI (k_runSN C dX5_tugsFitNow_7 (e_X11_isShelf (d := 3) (Nat.le_refl _) h7) k_lX5_51 k_yX11_isShelf (by omega) rfl (Nat.le_of_ble_eq_true rfl)) ?_
  refine k_if_eq C dX5_tugsFitNow_10 (tgt := 26) (by decide) (fun c10 => ?_) (fun c10 => ?_)
  · replace h := k_if_t h c10
    refine k_ldc2 C dX5_tugsFitNow_26 k_cX5_46 ?_
    exact k_lret C dX5_tugsFitNow_29 hr (k_p1 h)
  · replace h := k_if_f h c10
    refine k_aload_n C dX5_tugsFitNow_13 0 rfl ?_
    refine k_get C dX5_tugsFitNow_14 (k_gX42_5 w) k_fX5_19 (Or.inl rfl) ?_
    refine k_iload_n C dX5_tugsFitNow_17 2 rfl ?_
    refine k_iconst C dX5_tugsFitNow_18 (v := 4) rfl ?_
    refine k_imul C dX5_tugsFitNow_19 ?_
    refine k_iload_n C dX5_tugsFitNow_20 3 rfl ?_
    refine k_iadd C dX5_tugsFitNow_21 ?_
    obtain ⟨q22, h⟩ := k_gd_e h
    refine k_lald C dX5_tugsFitNow_22 (k_aX45 w) q22 ?_
    refine k_goto C dX5_tugsFitNow_23 (tgt := 29) (by decide) ?_
    exact k_lret C dX5_tugsFitNow_29 hr (k_p1 h)
def f_X5_throwsFitNow (x1 : Int32) (x2 : Int32) (σ : k_St) : Option (Int64) :=
  k_loop (fun (g2 : Int32 → Option (Int64)) (z2 : Int32) => match z2 with
    | v3_2 =>
      k_if ((4 : Int32) ≤ v3_2)
        (some (-1 : Int64))
        (k_bd (f_X11_digitOf x1 v3_2) fun v9 =>
        k_if (v9 = x2)
          (k_gd (k_ix ((v3_2 * (4 : Int32)) + x2) 16 = true) <|
          some (k_rl σ 45 ((v3_2 * (4 : Int32)) + x2).toNatClampNeg))
          (k_nm (v3_2 + (1 : Int32)) fun y27 =>
          g2 y27))) 100000 (0 : Int32)
set_option maxHeartbeats 4000000 in
set_option maxRecDepth 100000 in
theorem e_X5_throwsFitNow {l : Launch} {w : k_WC} {d : Nat} (hd : 3 ≤ d) {x1 : Int32} {x2 : Int32}  {σ : k_St} {r : Int64} (h : f_X5_throwsFitNow x1 x2 σ = some r) : k_EL l (k_PX w) yX5_throwsFitNow cX5_throwsFitNow 4 d [.ref (w.2.1 42), .int x1, .int x2] σ r σ := by
  refine k_of (own := RX5) rfl (by decide) (Nat.le_of_ble_eq_true rfl) (fun X hX C hr => ?_)
  show k_K (k_PX w) X (k_MQ X (k_Ql (k_PX w) r σ) (k_PX w).2.2.1) 0 [(0, .ref (w.2.1 42)), (1, .int x1), (2, .int x2)] [] σ
  unfold f_X5_throwsFitNow at h
  refine k_iconst C dX5_throwsFitNow_0 (v := 0) rfl ?_
  refine k_istore_n C dX5_throwsFitNow_1 (by decide) [1, 2, 3, 0] (L' := [(0, .ref (w.2.1 42)), (1, .int x1), (2, .int x2), (3, .int (0 : Int32))]) rfl ?_
  obtain ⟨b2, eb2, h⟩ := k_lp_e h
  have K2 : ∀ (n : Nat) (v3_2 : Int32), k_loop b2 n v3_2 = some r → k_K (k_PX w) X (k_MQ X (k_Ql (k_PX w) r σ) (k_PX w).2.2.1) 2 [(0, .ref (w.2.1 42)), (1, .int x1), (2, .int x2), (3, .int v3_2)] [] σ := by
    intro n
    induction n with
    | zero => intro v3_2 h; cases h
    | succ n ih2 =>
      intro v3_2 h
      obtain ⟨g2, eg2, h⟩ := k_lp_s h
      rw [← eg2] at ih2
      rw [eb2] at h
      refine k_iload_n C dX5_throwsFitNow_2 3 rfl ?_
      refine k_iconst C dX5_throwsFitNow_3 (v := 4) rfl ?_
      refine k_icmp_ge C dX5_throwsFitNow_4 (tgt := 33) (by decide) (fun c4 => ?_) (fun c4 => ?_)
      · replace h := k_if_t h c4
        refine k_ldc2 C dX5_throwsFitNow_33 k_cX5_46 ?_
        exact k_lret C dX5_throwsFitNow_36 hr (k_p1 h)
      · replace h := k_if_f h c4
        refine k_iload_n C dX5_throwsFitNow_7 1 rfl ?_
        refine k_iload_n C dX5_throwsFitNow_8 3 rfl ?_
        obtain ⟨v9, h9, h⟩ := k_bd_e h
        refine k_goI (k_runSN C dX5_throwsFitNow_9 (e_X11_digitOf (d := 2) (Nat.le_refl _) h9) k_lX5_79 k_yX11_digitOf (by omega) rfl (Nat.le_of_ble_eq_true rfl)) ?_
        refine k_iload_n C dX5_throwsFitNow_12 2 rfl ?_
        refine k_icmp_ne C dX5_throwsFitNow_13 (tgt := 27) (by decide) (fun c13 => ?_) (fun c13 => ?_)
        · replace h := k_if_f h c13
          refine k_iinc C dX5_throwsFitNow_27 3 rfl (v := 1) rfl (by decide) [1, 2, 3, 0] (L' := fun z9 => [(0, .ref (w.2.1 42)), (1, .int x1), (2, .int x2), (3, .int z9)]) (fun z9 => rfl) (fun y27 ey27 => ?_)
          replace h := k_nm_e h y27 ey27
          refine k_goto C dX5_throwsFitNow_30 (tgt := 2) (by decide) ?_
          exact ih2 _ h
        · replace h := k_if_t h c13
          refine k_aload_n C dX5_throwsFitNow_16 0 rfl ?_
          refine k_get C dX5_throwsFitNow_17 (k_gX42_5 w) k_fX5_19 (Or.inl rfl) ?_
          refine k_iload_n C dX5_throwsFitNow_20 3 rfl ?_
          refine k_iconst C dX5_throwsFitNow_21 (v := 4) rfl ?_
          refine k_imul C dX5_throwsFitNow_22 ?_
          refine k_iload_n C dX5_throwsFitNow_23 2 rfl ?_
          refine k_iadd C dX5_throwsFitNow_24 ?_
          obtain ⟨q25, h⟩ := k_gd_e h
          refine k_lald C dX5_throwsFitNow_25 (k_aX45 w) q25 ?_
          exact k_lret C dX5_throwsFitNow_26 hr (k_p1 h)
  exact K2 _ _ h
def f_X5_listLeavers (x1 : Int32) (x2 : Int32) (σ : k_St) : Option (Int32 × k_St) :=
  k_bd (f_X7_start x2 σ) fun s5 =>
  k_loop (fun (g10 : Int32 × k_St → Option (Int32 × k_St)) (z10 : Int32 × k_St) => match z10 with
    | (v3_10, s_10) =>
      k_if ((4 : Int32) ≤ v3_10)
        (k_bd (f_X7_told s_10) fun v92 =>
        some (v92, s_10))
        (k_loop (fun (g18 : Int32 × k_St → Option (Int32 × k_St)) (z18 : Int32 × k_St) => match z18 with
          | (v4_18, s_18) =>
            k_if ((4 : Int32) ≤ v4_18)
              (k_nm (v3_10 + (1 : Int32)) fun y82 =>
              g10 (y82, s_18))
              (k_gd (k_ix ((v3_10 * (4 : Int32)) + v4_18) 16 = true) <|
              k_nm ((k_rl s_18 45 ((v3_10 * (4 : Int32)) + v4_18).toNatClampNeg)) fun y35 =>
              k_bd (f_X5_tugsFitNow x1 v3_10 s_18) fun v42 =>
              k_if ((lg_cmp y35 v42) ≤ (0 : Int32))
                (k_nm (v4_18 + (1 : Int32)) fun y76 =>
                g18 (y76, s_18))
                (k_bd (f_X5_throwsFitNow x1 v4_18 s_18) fun v55 =>
                k_if ((lg_cmp y35 v55) ≤ (0 : Int32))
                  (k_nm (v4_18 + (1 : Int32)) fun y76 =>
                  g18 (y76, s_18))
                  (k_bd (f_X7_add (((10 : Int32) * v3_10) + v4_18) s_18) fun s73 =>
                  k_nm (v4_18 + (1 : Int32)) fun y76 =>
                  g18 (y76, s73))))) 100000 ((0 : Int32), s_10))) 100000 ((0 : Int32), s5)
set_option maxHeartbeats 4000000 in
set_option maxRecDepth 100000 in
theorem e_X5_listLeavers {l : Launch} {w : k_WC} {d : Nat} (hd : 5 ≤ d) {x1 : Int32} {x2 : Int32}  {σ σ' : k_St} {r : Int32} (h : f_X5_listLeavers x1 x2 σ = some (r, σ')) : k_EI l (k_PX w) yX5_listLeavers cX5_listLeavers 7 (some .int) d [.ref (w.2.1 42), .int x1, .int x2] σ r σ' := by
  refine k_of (own := RX5) rfl (by decide) (Nat.le_of_ble_eq_true rfl) (fun X hX C hr => ?_)
  show k_K (k_PX w) X (k_MQ X (k_Qi (k_PX w) r σ') (k_PX w).2.2.1) 0 [(0, .ref (w.2.1 42)), (1, .int x1), (2, .int x2)] [] σ
  unfold f_X5_listLeavers at h
  refine k_aload_n C dX5_listLeavers_0 0 rfl ?_
  refine k_get C dX5_listLeavers_1 (k_gX42_4 w) k_fX5_36 (Or.inl rfl) ?_
  refine k_iload_n C dX5_listLeavers_4 2 rfl ?_
  obtain ⟨s5, h5, h⟩ := k_bd_e h
  refine k_goV (k_runV C dX5_listLeavers_5 (e_X7_start (d := 2) (Nat.le_refl _) h5) k_lX5_83 k_yX7_start (k_oX41 w) (by omega) rfl (Nat.le_of_ble_eq_true rfl)) ?_
  refine k_iconst C dX5_listLeavers_8 (v := 0) rfl ?_
  refine k_istore_n C dX5_listLeavers_9 (by decide) [1, 2, 3, 0] (L' := [(0, .ref (w.2.1 42)), (1, .int x1), (2, .int x2), (3, .int (0 : Int32))]) rfl ?_
  obtain ⟨b10, eb10, h⟩ := k_lp_e h
  have K10 : ∀ (n : Nat) (v3_10 : Int32) (s_10 : k_St), k_loop b10 n (v3_10, s_10) = some (r, σ') → k_K (k_PX w) X (k_MQ X (k_Qi (k_PX w) r σ') (k_PX w).2.2.1) 10 [(0, .ref (w.2.1 42)), (1, .int x1), (3, .int v3_10)] [] s_10 := by
    intro n
    induction n with
    | zero => intro v3_10 s_10 h; cases h
    | succ n ih10 =>
      intro v3_10 s_10 h
      obtain ⟨g10, eg10, h⟩ := k_lp_s h
      rw [← eg10] at ih10
      rw [eb10] at h
      refine k_iload_n C dX5_listLeavers_10 2 rfl ?_
      refine k_iconst C dX5_listLeavers_11 (v := 4) rfl ?_
      refine k_icmp_ge C dX5_listLeavers_12 (tgt := 88) (by decide) (fun c12 => ?_) (fun c12 => ?_)
      · replace h := k_if_t h c12
        refine k_aload_n C dX5_listLeavers_88 0 rfl ?_
        refine k_get C dX5_listLeavers_89 (k_gX42_4 w) k_fX5_36 (Or.inl rfl) ?_
        obtain ⟨v92, h92, h⟩ := k_bd_e h
        refine k_goI (k_runV C dX5_listLeavers_92 (e_X7_told (d := 2) (Nat.le_refl _) h92) k_lX5_99 k_yX7_told (k_oX41 w) (by omega) rfl (Nat.le_of_ble_eq_true rfl)) ?_
        exact k_iret C dX5_listLeavers_95 hr (Option.some.inj h)
      · replace h := k_if_f h c12
        refine k_iconst C dX5_listLeavers_15 (v := 0) rfl ?_
        refine k_istore C dX5_listLeavers_16 (by decide) [1, 2, 3, 0] (L' := [(0, .ref (w.2.1 42)), (1, .int x1), (3, .int v3_10), (4, .int (0 : Int32))]) rfl ?_
        obtain ⟨b18, eb18, h⟩ := k_lp_e h
        have K18 : ∀ (n : Nat) (v4_18 : Int32) (s_18 : k_St), k_loop b18 n (v4_18, s_18) = some (r, σ') → k_K (k_PX w) X (k_MQ X (k_Qi (k_PX w) r σ') (k_PX w).2.2.1) 18 [(0, .ref (w.2.1 42)), (1, .int x1), (3, .int v3_10), (4, .int v4_18)] [] s_18 := by
          intro n
          induction n with
          | zero => intro v4_18 s_18 h; cases h
          | succ n ih18 =>
            intro v4_18 s_18 h
            obtain ⟨g18, eg18, h⟩ := k_lp_s h
            rw [← eg18] at ih18
            rw [eb18] at h
            refine k_iload C dX5_listLeavers_18 3 rfl ?_
            refine k_iconst C dX5_listLeavers_20 (v := 4) rfl ?_
            refine k_icmp_ge C dX5_listLeavers_21 (tgt := 82) (by decide) (fun c21 => ?_) (fun c21 => ?_)
            · replace h := k_if_t h c21
              refine k_iinc C dX5_listLeavers_82 2 rfl (v := 1) rfl (by decide) [1, 2, 0, 3] (L' := fun z9 => [(0, .ref (w.2.1 42)), (1, .int x1), (3, .int z9), (4, .int v4_18)]) (fun z9 => rfl) (fun y82 ey82 => ?_)
              replace h := k_nm_e h y82 ey82
              refine k_goto C dX5_listLeavers_85 (tgt := 10) (by decide) ?_
              refine k_sub (L' := [(0, .ref (w.2.1 42)), (1, .int x1), (3, .int y82)]) [0, 1, 2] rfl ?_
              exact ih10 _ _ h
            · replace h := k_if_f h c21
              refine k_aload_n C dX5_listLeavers_24 0 rfl ?_
              refine k_get C dX5_listLeavers_25 (k_gX42_5 w) k_fX5_19 (Or.inl rfl) ?_
              refine k_iload_n C dX5_listLeavers_28 2 rfl ?_
              refine k_iconst C dX5_listLeavers_29 (v := 4) rfl ?_
              refine k_imul C dX5_listLeavers_30 ?_
              refine k_iload C dX5_listLeavers_31 3 rfl ?_
              refine k_iadd C dX5_listLeavers_33 ?_
              obtain ⟨q34, h⟩ := k_gd_e h
              refine k_lald C dX5_listLeavers_34 (k_aX45 w) q34 ?_
              refine k_topl (fun y35 ey35 => ?_)
              replace h := k_nm_e h y35 ey35
              refine k_lstore C dX5_listLeavers_35 (by decide) [1, 2, 3, 4, 0] (L' := [(0, .ref (w.2.1 42)), (1, .int x1), (3, .int v3_10), (4, .int v4_18), (5, .long y35)]) rfl ?_
              refine k_lload C dX5_listLeavers_37 4 rfl ?_
              refine k_aload_n C dX5_listLeavers_39 0 rfl ?_
              refine k_iload_n C dX5_listLeavers_40 1 rfl ?_
              refine k_iload_n C dX5_listLeavers_41 2 rfl ?_
              obtain ⟨v42, h42, h⟩ := k_bd_e h
              refine k_goL (k_runV C dX5_listLeavers_42 (e_X5_tugsFitNow (d := 4) (Nat.le_refl _) h42) k_lX5_89 k_yX5_tugsFitNow (k_oX42 w) (by omega) rfl (Nat.le_of_ble_eq_true rfl)) ?_
              refine k_lcmp C dX5_listLeavers_45 ?_
              refine k_if_le C dX5_listLeavers_46 (tgt := 76) (by decide) (fun c46 => ?_) (fun c46 => ?_)
              · replace h := k_if_t h c46
                refine k_iinc C dX5_listLeavers_76 3 rfl (v := 1) rfl (by decide) [1, 2, 3, 0, 4] (L' := fun z9 => [(0, .ref (w.2.1 42)), (1, .int x1), (3, .int v3_10), (4, .int z9), (5, .long y35)]) (fun z9 => rfl) (fun y76 ey76 => ?_)
                replace h := k_nm_e h y76 ey76
                refine k_goto C dX5_listLeavers_79 (tgt := 18) (by decide) ?_
                refine k_sub (L' := [(0, .ref (w.2.1 42)), (1, .int x1), (3, .int v3_10), (4, .int y76)]) [0, 1, 2, 3] rfl ?_
                exact ih18 _ _ h
              · replace h := k_if_f h c46
                refine k_lload C dX5_listLeavers_49 4 rfl ?_
                refine k_aload_n C dX5_listLeavers_51 0 rfl ?_
                refine k_iload_n C dX5_listLeavers_52 1 rfl ?_
                refine k_iload C dX5_listLeavers_53 3 rfl ?_
                obtain ⟨v55, h55, h⟩ := k_bd_e h
                refine k_goL (k_runV C dX5_listLeavers_55 (e_X5_throwsFitNow (d := 3) (Nat.le_refl _) h55) k_lX5_93 k_yX5_throwsFitNow (k_oX42 w) (by omega) rfl (Nat.le_of_ble_eq_true rfl)) ?_
                refine k_lcmp C dX5_listLeavers_58 ?_
                refine k_if_le C dX5_listLeavers_59 (tgt := 76) (by decide) (fun c59 => ?_) (fun c59 => ?_)
                · replace h := k_if_t h c59
                  refine k_iinc C dX5_listLeavers_76 3 rfl (v := 1) rfl (by decide) [1, 2, 3, 0, 4] (L' := fun z9 => [(0, .ref (w.2.1 42)), (1, .int x1), (3, .int v3_10), (4, .int z9), (5, .long y35)]) (fun z9 => rfl) (fun y76 ey76 => ?_)
                  replace h := k_nm_e h y76 ey76
                  refine k_goto C dX5_listLeavers_79 (tgt := 18) (by decide) ?_
                  refine k_sub (L' := [(0, .ref (w.2.1 42)), (1, .int x1), (3, .int v3_10), (4, .int y76)]) [0, 1, 2, 3] rfl ?_
                  exact ih18 _ _ h
                · replace h := k_if_f h c59
                  refine k_aload_n C dX5_listLeavers_62 0 rfl ?_
                  refine k_get C dX5_listLeavers_63 (k_gX42_4 w) k_fX5_36 (Or.inl rfl) ?_
                  refine k_bipush C dX5_listLeavers_66 (v := 10) rfl ?_
                  refine k_iload_n C dX5_listLeavers_68 2 rfl ?_
                  refine k_imul C dX5_listLeavers_69 ?_
                  refine k_iload C dX5_listLeavers_70 3 rfl ?_
                  refine k_iadd C dX5_listLeavers_72 ?_
                  obtain ⟨s73, h73, h⟩ := k_bd_e h
                  refine k_goV (k_runV C dX5_listLeavers_73 (e_X7_add (d := 2) (Nat.le_refl _) h73) k_lX5_96 k_yX7_add (k_oX41 w) (by omega) rfl (Nat.le_of_ble_eq_true rfl)) ?_
                  refine k_iinc C dX5_listLeavers_76 3 rfl (v := 1) rfl (by decide) [1, 2, 3, 0, 4] (L' := fun z9 => [(0, .ref (w.2.1 42)), (1, .int x1), (3, .int v3_10), (4, .int z9), (5, .long y35)]) (fun z9 => rfl) (fun y76 ey76 => ?_)
                  replace h := k_nm_e h y76 ey76
                  refine k_goto C dX5_listLeavers_79 (tgt := 18) (by decide) ?_
                  refine k_sub (L' := [(0, .ref (w.2.1 42)), (1, .int x1), (3, .int v3_10), (4, .int y76)]) [0, 1, 2, 3] rfl ?_
                  exact ih18 _ _ h
        exact K18 _ _ _ h
  refine k_sub (L' := [(0, .ref (w.2.1 42)), (1, .int x1), (3, .int (0 : Int32))]) [0, 1, 3] rfl ?_
  exact K10 _ _ _ h
def f_X5_gainOf (x1 : Int32) (x2 : Int32) (σ : k_St) : Option (Int64) :=
  k_bd (f_X5_isBoat x1 σ) fun v2 =>
  k_if (v2 = (0 : Int32))
    (some (-1 : Int64))
    (k_bd (f_X5_isBoat x2 σ) fun v10 =>
    k_if (v10 = (0 : Int32))
      (some (-1 : Int64))
      (k_loop (fun (g25 : Int64 × Int32 → Option (Int64)) (z25 : Int64 × Int32) => match z25 with
        | (v3_25, v5_25) =>
          k_if ((k_rd σ 12 0) ≤ v5_25)
            (some v3_25)
            (k_gd (k_ix (x1 / (10 : Int32)) 4 = true) <|
            k_gd (k_ix (o_rem x1 (10 : Int32)) 4 = true) <|
            k_bd (f_X0_hitBy v5_25 (k_rd σ 43 (x1 / (10 : Int32)).toNatClampNeg) (k_rl σ 44 (o_rem x1 (10 : Int32)).toNatClampNeg) σ) fun v61 =>
            k_nm (v61.toInt64) fun y65 =>
            k_gd (k_ix (x2 / (10 : Int32)) 4 = true) <|
            k_gd (k_ix (o_rem x2 (10 : Int32)) 4 = true) <|
            k_bd (f_X0_hitBy v5_25 (k_rd σ 43 (x2 / (10 : Int32)).toNatClampNeg) (k_rl σ 44 (o_rem x2 (10 : Int32)).toNatClampNeg) σ) fun v91 =>
            k_nm (v91.toInt64) fun y95 =>
            k_bd (f_X1_worthOf v5_25 σ) fun v103 =>
            k_nm (v103.toInt64) fun y107 =>
            k_nm ((((y65 * y95) * (y107 / (2 : Int64))) + ((y65 * ((100 : Int64) - y95)) * y107))) fun y134 =>
            k_bd (f_X1_told v5_25 (0 : Int32) σ) fun v146 =>
            k_nm ((v3_25 + (y134 * v146.toInt64))) fun y152 =>
            k_nm (v5_25 + (1 : Int32)) fun y153 =>
            g25 (y152, y153))) 100000 ((0 : Int64), (0 : Int32))))
set_option maxHeartbeats 4000000 in
set_option maxRecDepth 100000 in
theorem e_X5_gainOf {l : Launch} {w : k_WC} {d : Nat} (hd : 6 ≤ d) {x1 : Int32} {x2 : Int32}  {σ : k_St} {r : Int64} (h : f_X5_gainOf x1 x2 σ = some r) : k_EL l (k_PX w) yX5_gainOf cX5_gainOf 14 d [.ref (w.2.1 42), .int x1, .int x2] σ r σ := by
  refine k_of (own := RX5) rfl (by decide) (Nat.le_of_ble_eq_true rfl) (fun X hX C hr => ?_)
  show k_K (k_PX w) X (k_MQ X (k_Ql (k_PX w) r σ) (k_PX w).2.2.1) 0 [(0, .ref (w.2.1 42)), (1, .int x1), (2, .int x2)] [] σ
  unfold f_X5_gainOf at h
  refine k_aload_n C dX5_gainOf_0 0 rfl ?_
  refine k_iload_n C dX5_gainOf_1 1 rfl ?_
  obtain ⟨v2, h2, h⟩ := k_bd_e h
  refine k_goI (k_runV C dX5_gainOf_2 (e_X5_isBoat (d := 5) (Nat.le_refl _) h2) k_lX5_102 k_yX5_isBoat (k_oX42 w) (by omega) rfl (Nat.le_of_ble_eq_true rfl)) ?_
  refine k_if_eq C dX5_gainOf_5 (tgt := 16) (by decide) (fun c5 => ?_) (fun c5 => ?_)
  · replace h := k_if_t h c5
    refine k_ldc2 C dX5_gainOf_16 k_cX5_46 ?_
    exact k_lret C dX5_gainOf_19 hr (k_p1 h)
  · replace h := k_if_f h c5
    refine k_aload_n C dX5_gainOf_8 0 rfl ?_
    refine k_iload_n C dX5_gainOf_9 2 rfl ?_
    obtain ⟨v10, h10, h⟩ := k_bd_e h
    refine k_goI (k_runV C dX5_gainOf_10 (e_X5_isBoat (d := 5) (Nat.le_refl _) h10) k_lX5_102 k_yX5_isBoat (k_oX42 w) (by omega) rfl (Nat.le_of_ble_eq_true rfl)) ?_
    refine k_if_ne C dX5_gainOf_13 (tgt := 20) (by decide) (fun c13 => ?_) (fun c13 => ?_)
    · replace h := k_if_f h c13
      refine k_lconst C dX5_gainOf_20 (v := 0) rfl ?_
      refine k_lstore_n C dX5_gainOf_21 (by decide) [1, 2, 3, 0] (L' := [(0, .ref (w.2.1 42)), (1, .int x1), (2, .int x2), (3, .long (0 : Int64))]) rfl ?_
      refine k_iconst C dX5_gainOf_22 (v := 0) rfl ?_
      refine k_istore C dX5_gainOf_23 (by decide) [1, 2, 3, 4, 0] (L' := [(0, .ref (w.2.1 42)), (1, .int x1), (2, .int x2), (3, .long (0 : Int64)), (5, .int (0 : Int32))]) rfl ?_
      obtain ⟨b25, eb25, h⟩ := k_lp_e h
      have K25 : ∀ (n : Nat) (v3_25 : Int64) (v5_25 : Int32), k_loop b25 n (v3_25, v5_25) = some r → k_K (k_PX w) X (k_MQ X (k_Ql (k_PX w) r σ) (k_PX w).2.2.1) 25 [(0, .ref (w.2.1 42)), (1, .int x1), (2, .int x2), (3, .long v3_25), (5, .int v5_25)] [] σ := by
        intro n
        induction n with
        | zero => intro v3_25 v5_25 h; cases h
        | succ n ih25 =>
          intro v3_25 v5_25 h
          obtain ⟨g25, eg25, h⟩ := k_lp_s h
          rw [← eg25] at ih25
          rw [eb25] at h
          refine k_iload C dX5_gainOf_25 4 rfl ?_
          refine k_aload_n C dX5_gainOf_27 0 rfl ?_
          refine k_get C dX5_gainOf_28 (k_gX42_2 w) k_fX5_28 (Or.inl rfl) ?_
          refine k_get C dX5_gainOf_31 (k_gX12_0 w) k_fX5_105 (Or.inl rfl) ?_
          refine k_icmp_ge C dX5_gainOf_34 (tgt := 159) (by decide) (fun c34 => ?_) (fun c34 => ?_)
          · replace h := k_if_t h c34
            refine k_lload_n C dX5_gainOf_159 3 rfl ?_
            exact k_lret C dX5_gainOf_160 hr (k_p1 h)
          · replace h := k_if_f h c34
            refine k_aload_n C dX5_gainOf_37 0 rfl ?_
            refine k_get C dX5_gainOf_38 (k_gX42_3 w) k_fX5_32 (Or.inl rfl) ?_
            refine k_iload C dX5_gainOf_41 4 rfl ?_
            refine k_aload_n C dX5_gainOf_43 0 rfl ?_
            refine k_get C dX5_gainOf_44 (k_gX42_0 w) k_fX5_9 (Or.inl rfl) ?_
            refine k_iload_n C dX5_gainOf_47 1 rfl ?_
            refine k_bipush C dX5_gainOf_48 (v := 10) rfl ?_
            refine k_idiv C dX5_gainOf_50 (by decide) ?_
            obtain ⟨q51, h⟩ := k_gd_e h
            refine k_iald C dX5_gainOf_51 (k_aX43 w) q51 ?_
            refine k_aload_n C dX5_gainOf_52 0 rfl ?_
            refine k_get C dX5_gainOf_53 (k_gX42_1 w) k_fX5_15 (Or.inl rfl) ?_
            refine k_iload_n C dX5_gainOf_56 1 rfl ?_
            refine k_bipush C dX5_gainOf_57 (v := 10) rfl ?_
            refine k_irem C dX5_gainOf_59 (by decide) ?_
            obtain ⟨q60, h⟩ := k_gd_e h
            refine k_lald C dX5_gainOf_60 (k_aX44 w) q60 ?_
            obtain ⟨v61, h61, h⟩ := k_bd_e h
            refine k_goI (k_runV C dX5_gainOf_61 (e_X0_hitBy (d := 5) (Nat.le_refl _) h61) k_lX5_111 k_yX0_hitBy (k_oX30 w) (by omega) rfl (Nat.le_of_ble_eq_true rfl)) ?_
            refine k_i2l C dX5_gainOf_64 ?_
            refine k_topl (fun y65 ey65 => ?_)
            replace h := k_nm_e h y65 ey65
            refine k_lstore C dX5_gainOf_65 (by decide) [1, 2, 3, 4, 5, 0] (L' := [(0, .ref (w.2.1 42)), (1, .int x1), (2, .int x2), (3, .long v3_25), (5, .int v5_25), (6, .long y65)]) rfl ?_
            refine k_aload_n C dX5_gainOf_67 0 rfl ?_
            refine k_get C dX5_gainOf_68 (k_gX42_3 w) k_fX5_32 (Or.inl rfl) ?_
            refine k_iload C dX5_gainOf_71 4 rfl ?_
            refine k_aload_n C dX5_gainOf_73 0 rfl ?_
            refine k_get C dX5_gainOf_74 (k_gX42_0 w) k_fX5_9 (Or.inl rfl) ?_
            refine k_iload_n C dX5_gainOf_77 2 rfl ?_
            refine k_bipush C dX5_gainOf_78 (v := 10) rfl ?_
            refine k_idiv C dX5_gainOf_80 (by decide) ?_
            obtain ⟨q81, h⟩ := k_gd_e h
            refine k_iald C dX5_gainOf_81 (k_aX43 w) q81 ?_
            refine k_aload_n C dX5_gainOf_82 0 rfl ?_
            refine k_get C dX5_gainOf_83 (k_gX42_1 w) k_fX5_15 (Or.inl rfl) ?_
            refine k_iload_n C dX5_gainOf_86 2 rfl ?_
            refine k_bipush C dX5_gainOf_87 (v := 10) rfl ?_
            refine k_irem C dX5_gainOf_89 (by decide) ?_
            obtain ⟨q90, h⟩ := k_gd_e h
            refine k_lald C dX5_gainOf_90 (k_aX44 w) q90 ?_
            obtain ⟨v91, h91, h⟩ := k_bd_e h
            refine k_goI (k_runV C dX5_gainOf_91 (e_X0_hitBy (d := 5) (Nat.le_refl _) h91) k_lX5_111 k_yX0_hitBy (k_oX30 w) (by omega) rfl (Nat.le_of_ble_eq_true rfl)) ?_
            refine k_i2l C dX5_gainOf_94 ?_
            refine k_topl (fun y95 ey95 => ?_)
            replace h := k_nm_e h y95 ey95
            refine k_lstore C dX5_gainOf_95 (by decide) [1, 2, 3, 4, 5, 6, 0] (L' := [(0, .ref (w.2.1 42)), (1, .int x1), (2, .int x2), (3, .long v3_25), (5, .int v5_25), (6, .long y65), (8, .long y95)]) rfl ?_
            refine k_aload_n C dX5_gainOf_97 0 rfl ?_
            refine k_get C dX5_gainOf_98 (k_gX42_2 w) k_fX5_28 (Or.inl rfl) ?_
            refine k_iload C dX5_gainOf_101 4 rfl ?_
            obtain ⟨v103, h103, h⟩ := k_bd_e h
            refine k_goI (k_runV C dX5_gainOf_103 (e_X1_worthOf (d := 2) (Nat.le_refl _) h103) k_lX5_115 k_yX1_worthOf (k_oX12 w) (by omega) rfl (Nat.le_of_ble_eq_true rfl)) ?_
            refine k_i2l C dX5_gainOf_106 ?_
            refine k_topl (fun y107 ey107 => ?_)
            replace h := k_nm_e h y107 ey107
            refine k_lstore C dX5_gainOf_107 (by decide) [1, 2, 3, 4, 5, 6, 7, 0] (L' := [(0, .ref (w.2.1 42)), (1, .int x1), (2, .int x2), (3, .long v3_25), (5, .int v5_25), (6, .long y65), (8, .long y95), (10, .long y107)]) rfl ?_
            refine k_lload C dX5_gainOf_109 5 rfl ?_
            refine k_lload C dX5_gainOf_111 6 rfl ?_
            refine k_lmul C dX5_gainOf_113 ?_
            refine k_lload C dX5_gainOf_114 7 rfl ?_
            refine k_ldc2 C dX5_gainOf_116 k_cX5_119 ?_
            refine k_ldiv C dX5_gainOf_119 (by decide) ?_
            refine k_lmul C dX5_gainOf_120 ?_
            refine k_lload C dX5_gainOf_121 5 rfl ?_
            refine k_ldc2 C dX5_gainOf_123 k_cX5_121 ?_
            refine k_lload C dX5_gainOf_126 6 rfl ?_
            refine k_lsub C dX5_gainOf_128 ?_
            refine k_lmul C dX5_gainOf_129 ?_
            refine k_lload C dX5_gainOf_130 7 rfl ?_
            refine k_lmul C dX5_gainOf_132 ?_
            refine k_ladd C dX5_gainOf_133 ?_
            refine k_topl (fun y134 ey134 => ?_)
            replace h := k_nm_e h y134 ey134
            refine k_lstore C dX5_gainOf_134 (by decide) [1, 2, 3, 4, 5, 6, 7, 8, 0] (L' := [(0, .ref (w.2.1 42)), (1, .int x1), (2, .int x2), (3, .long v3_25), (5, .int v5_25), (6, .long y65), (8, .long y95), (10, .long y107), (12, .long y134)]) rfl ?_
            refine k_lload_n C dX5_gainOf_136 3 rfl ?_
            refine k_lload C dX5_gainOf_137 8 rfl ?_
            refine k_aload_n C dX5_gainOf_139 0 rfl ?_
            refine k_get C dX5_gainOf_140 (k_gX42_2 w) k_fX5_28 (Or.inl rfl) ?_
            refine k_iload C dX5_gainOf_143 4 rfl ?_
            refine k_iconst C dX5_gainOf_145 (v := 0) rfl ?_
            obtain ⟨v146, h146, h⟩ := k_bd_e h
            refine k_goI (k_runV C dX5_gainOf_146 (e_X1_told (d := 2) (Nat.le_refl _) h146) k_lX5_123 k_yX1_told (k_oX12 w) (by omega) rfl (Nat.le_of_ble_eq_true rfl)) ?_
            refine k_i2l C dX5_gainOf_149 ?_
            refine k_lmul C dX5_gainOf_150 ?_
            refine k_ladd C dX5_gainOf_151 ?_
            refine k_topl (fun y152 ey152 => ?_)
            replace h := k_nm_e h y152 ey152
            refine k_lstore_n C dX5_gainOf_152 (by decide) [1, 2, 3, 0, 4, 5, 6, 7, 8] (L' := [(0, .ref (w.2.1 42)), (1, .int x1), (2, .int x2), (3, .long y152), (5, .int v5_25), (6, .long y65), (8, .long y95), (10, .long y107), (12, .long y134)]) rfl ?_
            refine k_iinc C dX5_gainOf_153 4 rfl (v := 1) rfl (by decide) [1, 2, 3, 4, 0, 5, 6, 7, 8] (L' := fun z9 => [(0, .ref (w.2.1 42)), (1, .int x1), (2, .int x2), (3, .long y152), (5, .int z9), (6, .long y65), (8, .long y95), (10, .long y107), (12, .long y134)]) (fun z9 => rfl) (fun y153 ey153 => ?_)
            replace h := k_nm_e h y153 ey153
            refine k_goto C dX5_gainOf_156 (tgt := 25) (by decide) ?_
            refine k_sub (L' := [(0, .ref (w.2.1 42)), (1, .int x1), (2, .int x2), (3, .long y152), (5, .int y153)]) [0, 1, 2, 3, 4] rfl ?_
            exact ih25 _ _ h
      exact K25 _ _ _ h
    · replace h := k_if_t h c13
      refine k_ldc2 C dX5_gainOf_16 k_cX5_46 ?_
      exact k_lret C dX5_gainOf_19 hr (k_p1 h)
def f_X5_isRest (x1 : Int32) (x2 : Int32) (σ : k_St) : Option (Int32) :=
  k_gd (k_ix ((x1 * (4 : Int32)) + x2) 16 = true) <|
  k_nm ((k_rl σ 46 ((x1 * (4 : Int32)) + x2).toNatClampNeg)) fun y10 =>
  k_gd (k_ix ((x1 * (4 : Int32)) + x2) 16 = true) <|
  k_nm ((k_rl σ 47 ((x1 * (4 : Int32)) + x2).toNatClampNeg)) fun y21 =>
  k_loop (fun (g26 : Int32 → Option (Int32)) (z26 : Int32) => match z26 with
    | v7_26 =>
      k_if ((4 : Int32) ≤ v7_26)
        (some (1 : Int32))
        (k_gd (k_ix ((v7_26 * (4 : Int32)) + x2) 16 = true) <|
        k_if ((0 : Int32) < (lg_cmp (k_rl σ 46 ((v7_26 * (4 : Int32)) + x2).toNatClampNeg) y10))
          (some (0 : Int32))
          (k_gd (k_ix ((x1 * (4 : Int32)) + v7_26) 16 = true) <|
          k_if ((lg_cmp (k_rl σ 47 ((x1 * (4 : Int32)) + v7_26).toNatClampNeg) y21) ≤ (0 : Int32))
            (k_nm (v7_26 + (1 : Int32)) fun y67 =>
            g26 y67)
            (some (0 : Int32))))) 100000 (0 : Int32)
set_option maxHeartbeats 4000000 in
set_option maxRecDepth 100000 in
theorem e_X5_isRest {l : Launch} {w : k_WC} {d : Nat} (hd : 2 ≤ d) {x1 : Int32} {x2 : Int32}  {σ : k_St} {r : Int32} (h : f_X5_isRest x1 x2 σ = some r) : k_EI l (k_PX w) yX5_isRest cX5_isRest 8 (some .boolean) d [.ref (w.2.1 42), .int x1, .int x2] σ r σ := by
  refine k_of (own := RX5) rfl (by decide) (Nat.le_of_ble_eq_true rfl) (fun X hX C hr => ?_)
  show k_K (k_PX w) X (k_MQ X (k_Qi (k_PX w) r σ) (k_PX w).2.2.1) 0 [(0, .ref (w.2.1 42)), (1, .int x1), (2, .int x2)] [] σ
  unfold f_X5_isRest at h
  refine k_aload_n C dX5_isRest_0 0 rfl ?_
  refine k_get C dX5_isRest_1 (k_gX42_6 w) k_fX5_22 (Or.inl rfl) ?_
  refine k_iload_n C dX5_isRest_4 1 rfl ?_
  refine k_iconst C dX5_isRest_5 (v := 4) rfl ?_
  refine k_imul C dX5_isRest_6 ?_
  refine k_iload_n C dX5_isRest_7 2 rfl ?_
  refine k_iadd C dX5_isRest_8 ?_
  obtain ⟨q9, h⟩ := k_gd_e h
  refine k_lald C dX5_isRest_9 (k_aX46 w) q9 ?_
  refine k_topl (fun y10 ey10 => ?_)
  replace h := k_nm_e h y10 ey10
  refine k_lstore_n C dX5_isRest_10 (by decide) [1, 2, 3, 0] (L' := [(0, .ref (w.2.1 42)), (1, .int x1), (2, .int x2), (3, .long y10)]) rfl ?_
  refine k_aload_n C dX5_isRest_11 0 rfl ?_
  refine k_get C dX5_isRest_12 (k_gX42_7 w) k_fX5_25 (Or.inl rfl) ?_
  refine k_iload_n C dX5_isRest_15 1 rfl ?_
  refine k_iconst C dX5_isRest_16 (v := 4) rfl ?_
  refine k_imul C dX5_isRest_17 ?_
  refine k_iload_n C dX5_isRest_18 2 rfl ?_
  refine k_iadd C dX5_isRest_19 ?_
  obtain ⟨q20, h⟩ := k_gd_e h
  refine k_lald C dX5_isRest_20 (k_aX47 w) q20 ?_
  refine k_topl (fun y21 ey21 => ?_)
  replace h := k_nm_e h y21 ey21
  refine k_lstore C dX5_isRest_21 (by decide) [1, 2, 3, 4, 0] (L' := [(0, .ref (w.2.1 42)), (1, .int x1), (2, .int x2), (3, .long y10), (5, .long y21)]) rfl ?_
  refine k_iconst C dX5_isRest_23 (v := 0) rfl ?_
  refine k_istore C dX5_isRest_24 (by decide) [1, 2, 3, 4, 5, 0] (L' := [(0, .ref (w.2.1 42)), (1, .int x1), (2, .int x2), (3, .long y10), (5, .long y21), (7, .int (0 : Int32))]) rfl ?_
  obtain ⟨b26, eb26, h⟩ := k_lp_e h
  have K26 : ∀ (n : Nat) (v7_26 : Int32), k_loop b26 n v7_26 = some r → k_K (k_PX w) X (k_MQ X (k_Qi (k_PX w) r σ) (k_PX w).2.2.1) 26 [(0, .ref (w.2.1 42)), (1, .int x1), (2, .int x2), (3, .long y10), (5, .long y21), (7, .int v7_26)] [] σ := by
    intro n
    induction n with
    | zero => intro v7_26 h; cases h
    | succ n ih26 =>
      intro v7_26 h
      obtain ⟨g26, eg26, h⟩ := k_lp_s h
      rw [← eg26] at ih26
      rw [eb26] at h
      refine k_iload C dX5_isRest_26 5 rfl ?_
      refine k_iconst C dX5_isRest_28 (v := 4) rfl ?_
      refine k_icmp_ge C dX5_isRest_29 (tgt := 73) (by decide) (fun c29 => ?_) (fun c29 => ?_)
      · replace h := k_if_t h c29
        refine k_iconst C dX5_isRest_73 (v := 1) rfl ?_
        exact k_zret C dX5_isRest_74 hr rfl (k_p1 h)
      · replace h := k_if_f h c29
        refine k_aload_n C dX5_isRest_32 0 rfl ?_
        refine k_get C dX5_isRest_33 (k_gX42_6 w) k_fX5_22 (Or.inl rfl) ?_
        refine k_iload C dX5_isRest_36 5 rfl ?_
        refine k_iconst C dX5_isRest_38 (v := 4) rfl ?_
        refine k_imul C dX5_isRest_39 ?_
        refine k_iload_n C dX5_isRest_40 2 rfl ?_
        refine k_iadd C dX5_isRest_41 ?_
        obtain ⟨q42, h⟩ := k_gd_e h
        refine k_lald C dX5_isRest_42 (k_aX46 w) q42 ?_
        refine k_lload_n C dX5_isRest_43 3 rfl ?_
        refine k_lcmp C dX5_isRest_44 ?_
        refine k_if_gt C dX5_isRest_45 (tgt := 65) (by decide) (fun c45 => ?_) (fun c45 => ?_)
        · replace h := k_if_t h c45
          refine k_iconst C dX5_isRest_65 (v := 0) rfl ?_
          exact k_zret C dX5_isRest_66 hr rfl (k_p1 h)
        · replace h := k_if_f h c45
          refine k_aload_n C dX5_isRest_48 0 rfl ?_
          refine k_get C dX5_isRest_49 (k_gX42_7 w) k_fX5_25 (Or.inl rfl) ?_
          refine k_iload_n C dX5_isRest_52 1 rfl ?_
          refine k_iconst C dX5_isRest_53 (v := 4) rfl ?_
          refine k_imul C dX5_isRest_54 ?_
          refine k_iload C dX5_isRest_55 5 rfl ?_
          refine k_iadd C dX5_isRest_57 ?_
          obtain ⟨q58, h⟩ := k_gd_e h
          refine k_lald C dX5_isRest_58 (k_aX47 w) q58 ?_
          refine k_lload C dX5_isRest_59 4 rfl ?_
          refine k_lcmp C dX5_isRest_61 ?_
          refine k_if_le C dX5_isRest_62 (tgt := 67) (by decide) (fun c62 => ?_) (fun c62 => ?_)
          · replace h := k_if_t h c62
            refine k_iinc C dX5_isRest_67 5 rfl (v := 1) rfl (by decide) [1, 2, 3, 4, 5, 0] (L' := fun z9 => [(0, .ref (w.2.1 42)), (1, .int x1), (2, .int x2), (3, .long y10), (5, .long y21), (7, .int z9)]) (fun z9 => rfl) (fun y67 ey67 => ?_)
            replace h := k_nm_e h y67 ey67
            refine k_goto C dX5_isRest_70 (tgt := 26) (by decide) ?_
            exact ih26 _ h
          · replace h := k_if_f h c62
            refine k_iconst C dX5_isRest_65 (v := 0) rfl ?_
            exact k_zret C dX5_isRest_66 hr rfl (k_p1 h)
  exact K26 _ _ h
def f_X5_listRests (x1 : Int32) (σ : k_St) : Option (Int32 × k_St) :=
  k_bd (f_X7_start x1 σ) fun s5 =>
  k_loop (fun (g10 : Int32 × k_St → Option (Int32 × k_St)) (z10 : Int32 × k_St) => match z10 with
    | (v2_10, s_10) =>
      k_if ((4 : Int32) ≤ v2_10)
        (k_bd (f_X7_told s_10) fun v76 =>
        some (v76, s_10))
        (k_loop (fun (g17 : Int32 × k_St → Option (Int32 × k_St)) (z17 : Int32 × k_St) => match z17 with
          | (v3_17, s_17) =>
            k_if ((4 : Int32) ≤ v3_17)
              (k_nm (v2_10 + (1 : Int32)) fun y66 =>
              g10 (y66, s_17))
              (k_bd (f_X5_hasThrows v2_10 s_17) fun v24 =>
              k_if (v24 = (0 : Int32))
                (k_nm (v3_17 + (1 : Int32)) fun y60 =>
                g17 (y60, s_17))
                (k_bd (f_X5_hasThrows v3_17 s_17) fun v32 =>
                k_if (v32 = (0 : Int32))
                  (k_nm (v3_17 + (1 : Int32)) fun y60 =>
                  g17 (y60, s_17))
                  (k_bd (f_X5_isRest v2_10 v3_17 s_17) fun v41 =>
                  k_if (v41 = (0 : Int32))
                    (k_nm (v3_17 + (1 : Int32)) fun y60 =>
                    g17 (y60, s_17))
                    (k_bd (f_X7_add (((10 : Int32) * v2_10) + v3_17) s_17) fun s57 =>
                    k_nm (v3_17 + (1 : Int32)) fun y60 =>
                    g17 (y60, s57)))))) 100000 ((0 : Int32), s_10))) 100000 ((0 : Int32), s5)
set_option maxHeartbeats 4000000 in
set_option maxRecDepth 100000 in
theorem e_X5_listRests {l : Launch} {w : k_WC} {d : Nat} (hd : 5 ≤ d) {x1 : Int32}  {σ σ' : k_St} {r : Int32} (h : f_X5_listRests x1 σ = some (r, σ')) : k_EI l (k_PX w) yX5_listRests cX5_listRests 4 (some .int) d [.ref (w.2.1 42), .int x1] σ r σ' := by
  refine k_of (own := RX5) rfl (by decide) (Nat.le_of_ble_eq_true rfl) (fun X hX C hr => ?_)
  show k_K (k_PX w) X (k_MQ X (k_Qi (k_PX w) r σ') (k_PX w).2.2.1) 0 [(0, .ref (w.2.1 42)), (1, .int x1)] [] σ
  unfold f_X5_listRests at h
  refine k_aload_n C dX5_listRests_0 0 rfl ?_
  refine k_get C dX5_listRests_1 (k_gX42_4 w) k_fX5_36 (Or.inl rfl) ?_
  refine k_iload_n C dX5_listRests_4 1 rfl ?_
  obtain ⟨s5, h5, h⟩ := k_bd_e h
  refine k_goV (k_runV C dX5_listRests_5 (e_X7_start (d := 2) (Nat.le_refl _) h5) k_lX5_83 k_yX7_start (k_oX41 w) (by omega) rfl (Nat.le_of_ble_eq_true rfl)) ?_
  refine k_iconst C dX5_listRests_8 (v := 0) rfl ?_
  refine k_istore_n C dX5_listRests_9 (by decide) [1, 2, 0] (L' := [(0, .ref (w.2.1 42)), (1, .int x1), (2, .int (0 : Int32))]) rfl ?_
  obtain ⟨b10, eb10, h⟩ := k_lp_e h
  have K10 : ∀ (n : Nat) (v2_10 : Int32) (s_10 : k_St), k_loop b10 n (v2_10, s_10) = some (r, σ') → k_K (k_PX w) X (k_MQ X (k_Qi (k_PX w) r σ') (k_PX w).2.2.1) 10 [(0, .ref (w.2.1 42)), (2, .int v2_10)] [] s_10 := by
    intro n
    induction n with
    | zero => intro v2_10 s_10 h; cases h
    | succ n ih10 =>
      intro v2_10 s_10 h
      obtain ⟨g10, eg10, h⟩ := k_lp_s h
      rw [← eg10] at ih10
      rw [eb10] at h
      refine k_iload_n C dX5_listRests_10 1 rfl ?_
      refine k_iconst C dX5_listRests_11 (v := 4) rfl ?_
      refine k_icmp_ge C dX5_listRests_12 (tgt := 72) (by decide) (fun c12 => ?_) (fun c12 => ?_)
      · replace h := k_if_t h c12
        refine k_aload_n C dX5_listRests_72 0 rfl ?_
        refine k_get C dX5_listRests_73 (k_gX42_4 w) k_fX5_36 (Or.inl rfl) ?_
        obtain ⟨v76, h76, h⟩ := k_bd_e h
        refine k_goI (k_runV C dX5_listRests_76 (e_X7_told (d := 2) (Nat.le_refl _) h76) k_lX5_99 k_yX7_told (k_oX41 w) (by omega) rfl (Nat.le_of_ble_eq_true rfl)) ?_
        exact k_iret C dX5_listRests_79 hr (Option.some.inj h)
      · replace h := k_if_f h c12
        refine k_iconst C dX5_listRests_15 (v := 0) rfl ?_
        refine k_istore_n C dX5_listRests_16 (by decide) [1, 2, 0] (L' := [(0, .ref (w.2.1 42)), (2, .int v2_10), (3, .int (0 : Int32))]) rfl ?_
        obtain ⟨b17, eb17, h⟩ := k_lp_e h
        have K17 : ∀ (n : Nat) (v3_17 : Int32) (s_17 : k_St), k_loop b17 n (v3_17, s_17) = some (r, σ') → k_K (k_PX w) X (k_MQ X (k_Qi (k_PX w) r σ') (k_PX w).2.2.1) 17 [(0, .ref (w.2.1 42)), (2, .int v2_10), (3, .int v3_17)] [] s_17 := by
          intro n
          induction n with
          | zero => intro v3_17 s_17 h; cases h
          | succ n ih17 =>
            intro v3_17 s_17 h
            obtain ⟨g17, eg17, h⟩ := k_lp_s h
            rw [← eg17] at ih17
            rw [eb17] at h
            refine k_iload_n C dX5_listRests_17 2 rfl ?_
            refine k_iconst C dX5_listRests_18 (v := 4) rfl ?_
            refine k_icmp_ge C dX5_listRests_19 (tgt := 66) (by decide) (fun c19 => ?_) (fun c19 => ?_)
            · replace h := k_if_t h c19
              refine k_iinc C dX5_listRests_66 1 rfl (v := 1) rfl (by decide) [1, 0, 2] (L' := fun z9 => [(0, .ref (w.2.1 42)), (2, .int z9), (3, .int v3_17)]) (fun z9 => rfl) (fun y66 ey66 => ?_)
              replace h := k_nm_e h y66 ey66
              refine k_goto C dX5_listRests_69 (tgt := 10) (by decide) ?_
              refine k_sub (L' := [(0, .ref (w.2.1 42)), (2, .int y66)]) [0, 1] rfl ?_
              exact ih10 _ _ h
            · replace h := k_if_f h c19
              refine k_aload_n C dX5_listRests_22 0 rfl ?_
              refine k_iload_n C dX5_listRests_23 1 rfl ?_
              obtain ⟨v24, h24, h⟩ := k_bd_e h
              refine k_goI (k_runV C dX5_listRests_24 (e_X5_hasThrows (d := 4) (Nat.le_refl _) h24) k_lX5_58 k_yX5_hasThrows (k_oX42 w) (by omega) rfl (Nat.le_of_ble_eq_true rfl)) ?_
              refine k_if_eq C dX5_listRests_27 (tgt := 60) (by decide) (fun c27 => ?_) (fun c27 => ?_)
              · replace h := k_if_t h c27
                refine k_iinc C dX5_listRests_60 2 rfl (v := 1) rfl (by decide) [1, 2, 0] (L' := fun z9 => [(0, .ref (w.2.1 42)), (2, .int v2_10), (3, .int z9)]) (fun z9 => rfl) (fun y60 ey60 => ?_)
                replace h := k_nm_e h y60 ey60
                refine k_goto C dX5_listRests_63 (tgt := 17) (by decide) ?_
                exact ih17 _ _ h
              · replace h := k_if_f h c27
                refine k_aload_n C dX5_listRests_30 0 rfl ?_
                refine k_iload_n C dX5_listRests_31 2 rfl ?_
                obtain ⟨v32, h32, h⟩ := k_bd_e h
                refine k_goI (k_runV C dX5_listRests_32 (e_X5_hasThrows (d := 4) (Nat.le_refl _) h32) k_lX5_58 k_yX5_hasThrows (k_oX42 w) (by omega) rfl (Nat.le_of_ble_eq_true rfl)) ?_
                refine k_if_eq C dX5_listRests_35 (tgt := 60) (by decide) (fun c35 => ?_) (fun c35 => ?_)
                · replace h := k_if_t h c35
                  refine k_iinc C dX5_listRests_60 2 rfl (v := 1) rfl (by decide) [1, 2, 0] (L' := fun z9 => [(0, .ref (w.2.1 42)), (2, .int v2_10), (3, .int z9)]) (fun z9 => rfl) (fun y60 ey60 => ?_)
                  replace h := k_nm_e h y60 ey60
                  refine k_goto C dX5_listRests_63 (tgt := 17) (by decide) ?_
                  exact ih17 _ _ h
                · replace h := k_if_f h c35
                  refine k_aload_n C dX5_listRests_38 0 rfl ?_
                  refine k_iload_n C dX5_listRests_39 1 rfl ?_
                  refine k_iload_n C dX5_listRests_40 2 rfl ?_
                  obtain ⟨v41, h41, h⟩ := k_bd_e h
                  refine k_goI (k_runV C dX5_listRests_41 (e_X5_isRest (d := 2) (Nat.le_refl _) h41) k_lX5_125 k_yX5_isRest (k_oX42 w) (by omega) rfl (Nat.le_of_ble_eq_true rfl)) ?_
                  refine k_if_eq C dX5_listRests_44 (tgt := 60) (by decide) (fun c44 => ?_) (fun c44 => ?_)
                  · replace h := k_if_t h c44
                    refine k_iinc C dX5_listRests_60 2 rfl (v := 1) rfl (by decide) [1, 2, 0] (L' := fun z9 => [(0, .ref (w.2.1 42)), (2, .int v2_10), (3, .int z9)]) (fun z9 => rfl) (fun y60 ey60 => ?_)
                    replace h := k_nm_e h y60 ey60
                    refine k_goto C dX5_listRests_63 (tgt := 17) (by decide) ?_
                    exact ih17 _ _ h
                  · replace h := k_if_f h c44
                    refine k_aload_n C dX5_listRests_47 0 rfl ?_
                    refine k_get C dX5_listRests_48 (k_gX42_4 w) k_fX5_36 (Or.inl rfl) ?_
                    refine k_bipush C dX5_listRests_51 (v := 10) rfl ?_
                    refine k_iload_n C dX5_listRests_53 1 rfl ?_
                    refine k_imul C dX5_listRests_54 ?_
                    refine k_iload_n C dX5_listRests_55 2 rfl ?_
                    refine k_iadd C dX5_listRests_56 ?_
                    obtain ⟨s57, h57, h⟩ := k_bd_e h
                    refine k_goV (k_runV C dX5_listRests_57 (e_X7_add (d := 2) (Nat.le_refl _) h57) k_lX5_96 k_yX7_add (k_oX41 w) (by omega) rfl (Nat.le_of_ble_eq_true rfl)) ?_
                    refine k_iinc C dX5_listRests_60 2 rfl (v := 1) rfl (by decide) [1, 2, 0] (L' := fun z9 => [(0, .ref (w.2.1 42)), (2, .int v2_10), (3, .int z9)]) (fun z9 => rfl) (fun y60 ey60 => ?_)
                    replace h := k_nm_e h y60 ey60
                    refine k_goto C dX5_listRests_63 (tgt := 17) (by decide) ?_
                    exact ih17 _ _ h
        exact K17 _ _ _ h
  refine k_sub (L' := [(0, .ref (w.2.1 42)), (2, .int (0 : Int32))]) [0, 2] rfl ?_
  exact K10 _ _ _ h
def f_X5_reckonGains (x1 : Int32) (x2 : Int32) (σ : k_St) : Option (k_St) :=
  k_loop (fun (g2 : Int32 × k_St → Option (k_St)) (z2 : Int32 × k_St) => match z2 with
    | (v3_2, s_2) =>
      k_if ((4 : Int32) ≤ v3_2)
        (some s_2)
        (k_loop (fun (g10 : Int32 × k_St → Option (k_St)) (z10 : Int32 × k_St) => match z10 with
          | (v4_10, s_10) =>
            k_if ((4 : Int32) ≤ v4_10)
              (k_nm (v3_2 + (1 : Int32)) fun y78 =>
              g2 (y78, s_10))
              (k_bd (f_X5_gainOf (((10 : Int32) * x1) + v3_2) (((10 : Int32) * x2) + v4_10) s_10) fun v40 =>
              k_gd (k_ix ((v3_2 * (4 : Int32)) + v4_10) 16 = true) <|
              k_nm (k_wl s_10 46 ((v3_2 * (4 : Int32)) + v4_10).toNatClampNeg v40) fun s43 =>
              k_bd (f_X5_gainOf (((10 : Int32) * x2) + v4_10) (((10 : Int32) * x1) + v3_2) s43) fun v68 =>
              k_gd (k_ix ((v3_2 * (4 : Int32)) + v4_10) 16 = true) <|
              k_nm (k_wl s43 47 ((v3_2 * (4 : Int32)) + v4_10).toNatClampNeg v68) fun s71 =>
              k_nm (v4_10 + (1 : Int32)) fun y72 =>
              g10 (y72, s71))) 100000 ((0 : Int32), s_2))) 100000 ((0 : Int32), σ)
set_option maxHeartbeats 4000000 in
set_option maxRecDepth 100000 in
theorem e_X5_reckonGains {l : Launch} {w : k_WC} {d : Nat} (hd : 7 ≤ d) {x1 : Int32} {x2 : Int32}  {σ σ' : k_St} (h : f_X5_reckonGains x1 x2 σ = some σ') : k_EV l (k_PX w) yX5_reckonGains cX5_reckonGains 5 d [.ref (w.2.1 42), .int x1, .int x2] σ σ' := by
  refine k_of (own := RX5) rfl (by decide) (Nat.le_of_ble_eq_true rfl) (fun X hX C hr => ?_)
  show k_K (k_PX w) X (k_MQ X (k_Qv (k_PX w) σ') (k_PX w).2.2.1) 0 [(0, .ref (w.2.1 42)), (1, .int x1), (2, .int x2)] [] σ
  unfold f_X5_reckonGains at h
  refine k_iconst C dX5_reckonGains_0 (v := 0) rfl ?_
  refine k_istore_n C dX5_reckonGains_1 (by decide) [1, 2, 3, 0] (L' := [(0, .ref (w.2.1 42)), (1, .int x1), (2, .int x2), (3, .int (0 : Int32))]) rfl ?_
  obtain ⟨b2, eb2, h⟩ := k_lp_e h
  have K2 : ∀ (n : Nat) (v3_2 : Int32) (s_2 : k_St), k_loop b2 n (v3_2, s_2) = some σ' → k_K (k_PX w) X (k_MQ X (k_Qv (k_PX w) σ') (k_PX w).2.2.1) 2 [(0, .ref (w.2.1 42)), (1, .int x1), (2, .int x2), (3, .int v3_2)] [] s_2 := by
    intro n
    induction n with
    | zero => intro v3_2 s_2 h; cases h
    | succ n ih2 =>
      intro v3_2 s_2 h
      obtain ⟨g2, eg2, h⟩ := k_lp_s h
      rw [← eg2] at ih2
      rw [eb2] at h
      refine k_iload_n C dX5_reckonGains_2 3 rfl ?_
      refine k_iconst C dX5_reckonGains_3 (v := 4) rfl ?_
      refine k_icmp_ge C dX5_reckonGains_4 (tgt := 84) (by decide) (fun c4 => ?_) (fun c4 => ?_)
      · replace h := k_if_t h c4
        exact k_vret C dX5_reckonGains_84 hr (Option.some.inj h)
      · replace h := k_if_f h c4
        refine k_iconst C dX5_reckonGains_7 (v := 0) rfl ?_
        refine k_istore C dX5_reckonGains_8 (by decide) [1, 2, 3, 4, 0] (L' := [(0, .ref (w.2.1 42)), (1, .int x1), (2, .int x2), (3, .int v3_2), (4, .int (0 : Int32))]) rfl ?_
        obtain ⟨b10, eb10, h⟩ := k_lp_e h
        have K10 : ∀ (n : Nat) (v4_10 : Int32) (s_10 : k_St), k_loop b10 n (v4_10, s_10) = some σ' → k_K (k_PX w) X (k_MQ X (k_Qv (k_PX w) σ') (k_PX w).2.2.1) 10 [(0, .ref (w.2.1 42)), (1, .int x1), (2, .int x2), (3, .int v3_2), (4, .int v4_10)] [] s_10 := by
          intro n
          induction n with
          | zero => intro v4_10 s_10 h; cases h
          | succ n ih10 =>
            intro v4_10 s_10 h
            obtain ⟨g10, eg10, h⟩ := k_lp_s h
            rw [← eg10] at ih10
            rw [eb10] at h
            refine k_iload C dX5_reckonGains_10 4 rfl ?_
            refine k_iconst C dX5_reckonGains_12 (v := 4) rfl ?_
            refine k_icmp_ge C dX5_reckonGains_13 (tgt := 78) (by decide) (fun c13 => ?_) (fun c13 => ?_)
            · replace h := k_if_t h c13
              refine k_iinc C dX5_reckonGains_78 3 rfl (v := 1) rfl (by decide) [1, 2, 3, 0, 4] (L' := fun z9 => [(0, .ref (w.2.1 42)), (1, .int x1), (2, .int x2), (3, .int z9), (4, .int v4_10)]) (fun z9 => rfl) (fun y78 ey78 => ?_)
              replace h := k_nm_e h y78 ey78
              refine k_goto C dX5_reckonGains_81 (tgt := 2) (by decide) ?_
              refine k_sub (L' := [(0, .ref (w.2.1 42)), (1, .int x1), (2, .int x2), (3, .int y78)]) [0, 1, 2, 3] rfl ?_
              exact ih2 _ _ h
            · replace h := k_if_f h c13
              refine k_aload_n C dX5_reckonGains_16 0 rfl ?_
              refine k_get C dX5_reckonGains_17 (k_gX42_6 w) k_fX5_22 (Or.inl rfl) ?_
              refine k_iload_n C dX5_reckonGains_20 3 rfl ?_
              refine k_iconst C dX5_reckonGains_21 (v := 4) rfl ?_
              refine k_imul C dX5_reckonGains_22 ?_
              refine k_iload C dX5_reckonGains_23 4 rfl ?_
              refine k_iadd C dX5_reckonGains_25 ?_
              refine k_aload_n C dX5_reckonGains_26 0 rfl ?_
              refine k_bipush C dX5_reckonGains_27 (v := 10) rfl ?_
              refine k_iload_n C dX5_reckonGains_29 1 rfl ?_
              refine k_imul C dX5_reckonGains_30 ?_
              refine k_iload_n C dX5_reckonGains_31 3 rfl ?_
              refine k_iadd C dX5_reckonGains_32 ?_
              refine k_bipush C dX5_reckonGains_33 (v := 10) rfl ?_
              refine k_iload_n C dX5_reckonGains_35 2 rfl ?_
              refine k_imul C dX5_reckonGains_36 ?_
              refine k_iload C dX5_reckonGains_37 4 rfl ?_
              refine k_iadd C dX5_reckonGains_39 ?_
              obtain ⟨v40, h40, h⟩ := k_bd_e h
              refine k_goL (k_runV C dX5_reckonGains_40 (e_X5_gainOf (d := 6) (Nat.le_refl _) h40) k_lX5_129 k_yX5_gainOf (k_oX42 w) (by omega) rfl (Nat.le_of_ble_eq_true rfl)) ?_
              obtain ⟨q43, h⟩ := k_gd_e h
              refine k_last C dX5_reckonGains_43 (k_aX46 w) q43 ?_
              refine k_st (fun s43 es43 => ?_)
              replace h := k_nm_e h s43 es43
              refine k_aload_n C dX5_reckonGains_44 0 rfl ?_
              refine k_get C dX5_reckonGains_45 (k_gX42_7 w) k_fX5_25 (Or.inl rfl) ?_
              refine k_iload_n C dX5_reckonGains_48 3 rfl ?_
              refine k_iconst C dX5_reckonGains_49 (v := 4) rfl ?_
              refine k_imul C dX5_reckonGains_50 ?_
              refine k_iload C dX5_reckonGains_51 4 rfl ?_
              refine k_iadd C dX5_reckonGains_53 ?_
              refine k_aload_n C dX5_reckonGains_54 0 rfl ?_
              refine k_bipush C dX5_reckonGains_55 (v := 10) rfl ?_
              refine k_iload_n C dX5_reckonGains_57 2 rfl ?_
              refine k_imul C dX5_reckonGains_58 ?_
              refine k_iload C dX5_reckonGains_59 4 rfl ?_
              refine k_iadd C dX5_reckonGains_61 ?_
              refine k_bipush C dX5_reckonGains_62 (v := 10) rfl ?_
              refine k_iload_n C dX5_reckonGains_64 1 rfl ?_
              refine k_imul C dX5_reckonGains_65 ?_
              refine k_iload_n C dX5_reckonGains_66 3 rfl ?_
              refine k_iadd C dX5_reckonGains_67 ?_
              obtain ⟨v68, h68, h⟩ := k_bd_e h
              refine k_goL (k_runV C dX5_reckonGains_68 (e_X5_gainOf (d := 6) (Nat.le_refl _) h68) k_lX5_129 k_yX5_gainOf (k_oX42 w) (by omega) rfl (Nat.le_of_ble_eq_true rfl)) ?_
              obtain ⟨q71, h⟩ := k_gd_e h
              refine k_last C dX5_reckonGains_71 (k_aX47 w) q71 ?_
              refine k_st (fun s71 es71 => ?_)
              replace h := k_nm_e h s71 es71
              refine k_iinc C dX5_reckonGains_72 4 rfl (v := 1) rfl (by decide) [1, 2, 3, 4, 0] (L' := fun z9 => [(0, .ref (w.2.1 42)), (1, .int x1), (2, .int x2), (3, .int v3_2), (4, .int z9)]) (fun z9 => rfl) (fun y72 ey72 => ?_)
              replace h := k_nm_e h y72 ey72
              refine k_goto C dX5_reckonGains_75 (tgt := 10) (by decide) ?_
              exact ih10 _ _ h
        exact K10 _ _ _ h
  exact K2 _ _ _ h
def f_X10_held (x0 : Int64) : Option (Int64) :=
  some (o_lmax (-1000000 : Int64) (o_lmin (1000000 : Int64) x0))
set_option maxHeartbeats 4000000 in
set_option maxRecDepth 100000 in
theorem e_X10_held {l : Launch} {w : k_WC} {d : Nat} (hd : 3 ≤ d) {x0 : Int64}  {σ : k_St} {r : Int64} (h : f_X10_held x0 = some r) : k_EL l (k_PX w) yX10_held cX10_held 2 d [.long x0] σ r σ := by
  refine k_of (own := RX10) rfl (by decide) (Nat.le_of_ble_eq_true rfl) (fun X hX C hr => ?_)
  show k_K (k_PX w) X (k_MQ X (k_Ql (k_PX w) r σ) (k_PX w).2.2.1) 0 [(0, .long x0)] [] σ
  unfold f_X10_held at h
  refine k_ldc2 C dX10_held_0 k_cX10_160 ?_
  refine k_ldc2 C dX10_held_3 k_cX10_162 ?_
  refine k_lload_n C dX10_held_6 0 rfl ?_
  refine k_mmin_long C dX10_held_7 k_lX10_164 k_ym_lmin (by omega) (Nat.le_of_ble_eq_true rfl) ?_
  refine k_mmax_long C dX10_held_10 k_lX10_167 k_ym_lmax (by omega) (Nat.le_of_ble_eq_true rfl) ?_
  exact k_lret C dX10_held_13 hr (k_p1 h)
def b_X10_readAtom (p_readSum : Int32 → k_St → Option (Int32 × k_St)) (x1 : Int32) (σ : k_St) : Option (Int32 × k_St) :=
  k_b2 (f_X3_next 7 σ) fun v1 s1 =>
  k_bd (f_X11_within v1 (48 : Int32) (57 : Int32)) fun v10 =>
  k_if (v10 = (0 : Int32))
    (k_jn (fun (s_56 : k_St) =>
      k_jn (fun (t0_73 : Int32) =>
        k_bd (f_X11_within t0_73 (0 : Int32) ((5 : Int32) - (1 : Int32))) fun v83 =>
        k_if (v83 = (0 : Int32))
          (k_bd (f_X3_fail 7 s_56) fun s90 =>
          some ((0 : Int32), s90))
          (k_bd (f_X3_pass 7 s_56) fun s96 =>
          k_gd (k_ix t0_73 5 = true) <|
          some ((k_rd s96 11 t0_73.toNatClampNeg), s96))) fun j73 =>
      k_if (v1 = (-2 : Int32))
        (j73 (-1 : Int32))
        (k_bd (f_J0_indexOf_0f7a4 2 (o_i2c v1) s_56) fun v70 =>
        j73 v70)) fun j56 =>
    k_if ((6 : Int32) ≤ x1)
      (j56 s1)
      (k_b2 (f_X3_take 7 (91 : Int32) s1) fun v34 s34 =>
      k_if (v34 = (0 : Int32))
        (j56 s34)
        (k_b2 (p_readSum (x1 + (1 : Int32)) s34) fun v44 s44 =>
        k_bd (f_X3_need 7 (93 : Int32) s44) fun s51 =>
        some (v44, s51))))
    (k_b2 (f_X3_number 7 (4 : Int32) (0 : Int32) (1000000 : Int32) s1) fun v21 s21 =>
    some (v21, s21))
set_option maxHeartbeats 4000000 in
set_option maxRecDepth 100000 in
theorem eb_X10_readAtom {p_readSum : Int32 → k_St → Option (Int32 × k_St)} {d0 : Nat} (H_readSum : ∀ {l : Launch} {w : k_WC} {d : Nat} (_ : d0 ≤ d) {x1 : Int32} {σ σ' : k_St} {r : Int32} (_ : p_readSum x1 σ = some (r, σ')), k_EI l (k_PX w) yX10_readSum cX10_readSum 8 (some .int) d [.ref (w.2.1 7), .int x1] σ r σ') {l : Launch} {w : k_WC} {d : Nat} (hb : 6 ≤ d0) (hd : d0 < d) {x1 : Int32}  {σ σ' : k_St} {r : Int32} (h : b_X10_readAtom p_readSum x1 σ = some (r, σ')) : k_EI l (k_PX w) yX10_readAtom cX10_readAtom 4 (some .int) d [.ref (w.2.1 7), .int x1] σ r σ' := by
  refine k_of (own := RX10) rfl (by decide) (Nat.le_of_ble_eq_true rfl) (fun X hX C hr => ?_)
  show k_K (k_PX w) X (k_MQ X (k_Qi (k_PX w) r σ') (k_PX w).2.2.1) 0 [(0, .ref (w.2.1 7)), (1, .int x1)] [] σ
  unfold b_X10_readAtom at h
  refine k_aload_n C dX10_readAtom_0 0 rfl ?_
  obtain ⟨v1, s1, h1, h⟩ := k_b2_e h
  refine k_goI (k_runU C dX10_readAtom_1 (e_X3_next_7 (d := 2) (Nat.le_refl _) h1) k_lX10_99 rfl k_yX3_next (k_oX7 w) (by omega) rfl (Nat.le_of_ble_eq_true rfl)) ?_
  refine k_istore_n C dX10_readAtom_4 (by decide) [1, 2, 0] (L' := [(0, .ref (w.2.1 7)), (1, .int x1), (2, .int v1)]) rfl ?_
  refine k_iload_n C dX10_readAtom_5 2 rfl ?_
  refine k_bipush C dX10_readAtom_6 (v := 48) rfl ?_
  refine k_bipush C dX10_readAtom_8 (v := 57) rfl ?_
  obtain ⟨v10, h10, h⟩ := k_bd_e h
  refine k_goI (k_runSN C dX10_readAtom_10 (e_X11_within (d := 2) (Nat.le_refl _) h10) k_lX10_54 k_yX11_within (by omega) rfl (Nat.le_of_ble_eq_true rfl)) ?_
  refine k_if_eq C dX10_readAtom_13 (tgt := 25) (by decide) (fun c13 => ?_) (fun c13 => ?_)
  · replace h := k_if_t h c13
    refine k_iload_n C dX10_readAtom_25 1 rfl ?_
    refine k_bipush C dX10_readAtom_26 (v := 6) rfl ?_
    obtain ⟨j56, ej56, h⟩ := k_jn_e h
    have Jj56 : ∀ (s_56 : k_St), j56 s_56 = some (r, σ') → k_K (k_PX w) X (k_MQ X (k_Qi (k_PX w) r σ') (k_PX w).2.2.1) 56 [(0, .ref (w.2.1 7)), (2, .int v1)] [] s_56 := by
      intro s_56 h
      rw [ej56] at h
      refine k_iload_n C dX10_readAtom_56 1 rfl ?_
      refine k_bipush C dX10_readAtom_57 (v := -2) rfl ?_
      obtain ⟨j73, ej73, h⟩ := k_jn_e h
      have Jj73 : ∀ (t0_73 : Int32), j73 t0_73 = some (r, σ') → k_K (k_PX w) X (k_MQ X (k_Qi (k_PX w) r σ') (k_PX w).2.2.1) 73 [(0, .ref (w.2.1 7))] [.int t0_73] s_56 := by
        intro t0_73 h
        rw [ej73] at h
        refine k_istore_n C dX10_readAtom_73 (by decide) [1, 0] (L' := [(0, .ref (w.2.1 7)), (3, .int t0_73)]) rfl ?_
        refine k_iload_n C dX10_readAtom_74 1 rfl ?_
        refine k_iconst C dX10_readAtom_75 (v := 0) rfl ?_
        refine k_aload_n C dX10_readAtom_76 0 rfl ?_
        refine k_get C dX10_readAtom_77 (k_gX7_8 w) k_fX10_25 (Or.inl rfl) ?_
        refine k_alen C dX10_readAtom_80 (k_aX11 w) (v := 5) rfl ?_
        refine k_iconst C dX10_readAtom_81 (v := 1) rfl ?_
        refine k_isub C dX10_readAtom_82 ?_
        obtain ⟨v83, h83, h⟩ := k_bd_e h
        refine k_goI (k_runSN C dX10_readAtom_83 (e_X11_within (d := 2) (Nat.le_refl _) h83) k_lX10_54 k_yX11_within (by omega) rfl (Nat.le_of_ble_eq_true rfl)) ?_
        refine k_if_ne C dX10_readAtom_86 (tgt := 95) (by decide) (fun c86 => ?_) (fun c86 => ?_)
        · replace h := k_if_f h c86
          refine k_aload_n C dX10_readAtom_95 0 rfl ?_
          obtain ⟨s96, h96, h⟩ := k_bd_e h
          refine k_goV (k_runU C dX10_readAtom_96 (e_X3_pass_7 (d := 2) (Nat.le_refl _) h96) k_lX10_135 rfl k_yX3_pass (k_oX7 w) (by omega) rfl (Nat.le_of_ble_eq_true rfl)) ?_
          refine k_aload_n C dX10_readAtom_99 0 rfl ?_
          refine k_get C dX10_readAtom_100 (k_gX7_8 w) k_fX10_25 (Or.inl rfl) ?_
          refine k_iload_n C dX10_readAtom_103 1 rfl ?_
          obtain ⟨q104, h⟩ := k_gd_e h
          refine k_iald C dX10_readAtom_104 (k_aX11 w) q104 ?_
          exact k_iret C dX10_readAtom_105 hr (Option.some.inj h)
        · replace h := k_if_t h c86
          refine k_aload_n C dX10_readAtom_89 0 rfl ?_
          obtain ⟨s90, h90, h⟩ := k_bd_e h
          refine k_goV (k_runU C dX10_readAtom_90 (e_X3_fail_7 (d := 3) (Nat.le_refl _) h90) k_lX10_132 rfl k_yX3_fail (k_oX7 w) (by omega) rfl (Nat.le_of_ble_eq_true rfl)) ?_
          refine k_iconst C dX10_readAtom_93 (v := 0) rfl ?_
          exact k_iret C dX10_readAtom_94 hr (Option.some.inj h)
      refine k_icmp_ne C dX10_readAtom_59 (tgt := 66) (by decide) (fun c59 => ?_) (fun c59 => ?_)
      · replace h := k_if_f h c59
        refine k_ldS2 C dX10_readAtom_66 ?_
        refine k_iload_n C dX10_readAtom_68 1 rfl ?_
        refine k_i2c C dX10_readAtom_69 ?_
        obtain ⟨v70, h70, h⟩ := k_bd_e h
        refine k_goI (k_runVS C dX10_readAtom_70 (e_J0_indexOf_0f7a4 (d := 5) (Nat.le_refl _) (by decide) h70) (by decide) k_lX10_155 k_yJ0_indexOf_0f7a4 (by omega) rfl (Nat.le_of_ble_eq_true rfl)) ?_
        refine k_sub (L' := [(0, .ref (w.2.1 7))]) [0] rfl ?_
        exact Jj73 _ h
      · replace h := k_if_t h c59
        refine k_iconst C dX10_readAtom_62 (v := -1) rfl ?_
        refine k_goto C dX10_readAtom_63 (tgt := 73) (by decide) ?_
        refine k_sub (L' := [(0, .ref (w.2.1 7))]) [0] rfl ?_
        exact Jj73 _ h
    refine k_icmp_ge C dX10_readAtom_28 (tgt := 56) (by decide) (fun c28 => ?_) (fun c28 => ?_)
    · replace h := k_if_t h c28
      refine k_sub (L' := [(0, .ref (w.2.1 7)), (2, .int v1)]) [0, 2] rfl ?_
      exact Jj56 _ h
    · replace h := k_if_f h c28
      refine k_aload_n C dX10_readAtom_31 0 rfl ?_
      refine k_bipush C dX10_readAtom_32 (v := 91) rfl ?_
      obtain ⟨v34, s34, h34, h⟩ := k_b2_e h
      refine k_goI (k_runU C dX10_readAtom_34 (e_X3_take_7 (d := 3) (Nat.le_refl _) h34) k_lX10_129 rfl k_yX3_take (k_oX7 w) (by omega) rfl (Nat.le_of_ble_eq_true rfl)) ?_
      refine k_if_eq C dX10_readAtom_37 (tgt := 56) (by decide) (fun c37 => ?_) (fun c37 => ?_)
      · replace h := k_if_t h c37
        refine k_sub (L' := [(0, .ref (w.2.1 7)), (2, .int v1)]) [0, 2] rfl ?_
        exact Jj56 _ h
      · replace h := k_if_f h c37
        refine k_aload_n C dX10_readAtom_40 0 rfl ?_
        refine k_iload_n C dX10_readAtom_41 1 rfl ?_
        refine k_iconst C dX10_readAtom_42 (v := 1) rfl ?_
        refine k_iadd C dX10_readAtom_43 ?_
        obtain ⟨v44, s44, h44, h⟩ := k_b2_e h
        refine k_goI (k_runV C dX10_readAtom_44 (H_readSum (d := d0) (Nat.le_refl _) h44) k_lX10_113 k_yX10_readSum (k_oX7 w) (by omega) rfl (Nat.le_of_ble_eq_true rfl)) ?_
        refine k_istore_n C dX10_readAtom_47 (by decide) [1, 2, 3, 0] (L' := [(0, .ref (w.2.1 7)), (1, .int x1), (2, .int v1), (3, .int v44)]) rfl ?_
        refine k_aload_n C dX10_readAtom_48 0 rfl ?_
        refine k_bipush C dX10_readAtom_49 (v := 93) rfl ?_
        obtain ⟨s51, h51, h⟩ := k_bd_e h
        refine k_goV (k_runU C dX10_readAtom_51 (e_X3_need_7 (d := 3) (Nat.le_refl _) h51) k_lX10_102 rfl k_yX3_need (k_oX7 w) (by omega) rfl (Nat.le_of_ble_eq_true rfl)) ?_
        refine k_iload_n C dX10_readAtom_54 3 rfl ?_
        exact k_iret C dX10_readAtom_55 hr (Option.some.inj h)
  · replace h := k_if_f h c13
    refine k_aload_n C dX10_readAtom_16 0 rfl ?_
    refine k_iconst C dX10_readAtom_17 (v := 4) rfl ?_
    refine k_iconst C dX10_readAtom_18 (v := 0) rfl ?_
    refine k_ldc C dX10_readAtom_19 k_cX10_148 ?_
    obtain ⟨v21, s21, h21, h⟩ := k_b2_e h
    refine k_goI (k_runU C dX10_readAtom_21 (e_X3_number_7 (d := 3) (Nat.le_refl _) h21) k_lX10_149 rfl k_yX3_number (k_oX7 w) (by omega) rfl (Nat.le_of_ble_eq_true rfl)) ?_
    exact k_iret C dX10_readAtom_24 hr (Option.some.inj h)
def b_X10_readTerm (p_readAtom : Int32 → k_St → Option (Int32 × k_St)) (x1 : Int32) (σ : k_St) : Option (Int32 × k_St) :=
  k_b2 (p_readAtom x1 σ) fun v2 s2 =>
  k_nm (v2.toInt64) fun y6 =>
  k_loop (fun (g10 : Int64 × Int32 × k_St → Option (Int32 × k_St)) (z10 : Int64 × Int32 × k_St) => match z10 with
    | (v2_10, v4_10, s_10) =>
      k_if ((160 : Int32) < v4_10)
        (some (v2_10.toInt32, s_10))
        (k_b2 (f_X3_next 7 s_10) fun v19 s19 =>
        k_bd (f_X3_failed 7 s19) fun v25 =>
        k_if (v25 = (0 : Int32))
          (k_jn (fun (_ : Unit) =>
            k_bd (f_X3_pass 7 s19) fun s49 =>
            k_b2 (p_readAtom x1 s49) fun v54 s54 =>
            k_if (v19 = (42 : Int32))
              (k_bd (f_X10_held (v2_10 * v54.toInt64)) fun v71 =>
              k_nm (v4_10 + (1 : Int32)) fun y96 =>
              g10 (v71, y96, s54))
              (k_if (v54 = (0 : Int32))
                (k_nm (v4_10 + (1 : Int32)) fun y96 =>
                g10 ((0 : Int64), y96, s54))
                (k_gd (¬ v54.toInt64 = 0) <|
                k_bd (f_X10_held (v2_10 / v54.toInt64)) fun v92 =>
                k_nm (v4_10 + (1 : Int32)) fun y96 =>
                g10 (v92, y96, s54)))) fun j48 =>
          k_if (v19 = (42 : Int32))
            (j48 ())
            (k_if (v19 = (47 : Int32))
              (j48 ())
              (some (v2_10.toInt32, s19))))
          (some (v2_10.toInt32, s19)))) 100000 (y6, (0 : Int32), s2)
set_option maxHeartbeats 4000000 in
set_option maxRecDepth 100000 in
theorem eb_X10_readTerm {p_readAtom : Int32 → k_St → Option (Int32 × k_St)} {d0 : Nat} (H_readAtom : ∀ {l : Launch} {w : k_WC} {d : Nat} (_ : d0 ≤ d) {x1 : Int32} {σ σ' : k_St} {r : Int32} (_ : p_readAtom x1 σ = some (r, σ')), k_EI l (k_PX w) yX10_readAtom cX10_readAtom 4 (some .int) d [.ref (w.2.1 7), .int x1] σ r σ') {l : Launch} {w : k_WC} {d : Nat} (hb : 6 ≤ d0) (hd : d0 < d) {x1 : Int32}  {σ σ' : k_St} {r : Int32} (h : b_X10_readTerm p_readAtom x1 σ = some (r, σ')) : k_EI l (k_PX w) yX10_readTerm cX10_readTerm 7 (some .int) d [.ref (w.2.1 7), .int x1] σ r σ' := by
  refine k_of (own := RX10) rfl (by decide) (Nat.le_of_ble_eq_true rfl) (fun X hX C hr => ?_)
  show k_K (k_PX w) X (k_MQ X (k_Qi (k_PX w) r σ') (k_PX w).2.2.1) 0 [(0, .ref (w.2.1 7)), (1, .int x1)] [] σ
  unfold b_X10_readTerm at h
  refine k_aload_n C dX10_readTerm_0 0 rfl ?_
  refine k_iload_n C dX10_readTerm_1 1 rfl ?_
  obtain ⟨v2, s2, h2, h⟩ := k_b2_e h
  refine k_goI (k_runV C dX10_readTerm_2 (H_readAtom (d := d0) (Nat.le_refl _) h2) k_lX10_145 k_yX10_readAtom (k_oX7 w) (by omega) rfl (Nat.le_of_ble_eq_true rfl)) ?_
  refine k_i2l C dX10_readTerm_5 ?_
  refine k_topl (fun y6 ey6 => ?_)
  replace h := k_nm_e h y6 ey6
  refine k_lstore_n C dX10_readTerm_6 (by decide) [1, 2, 0] (L' := [(0, .ref (w.2.1 7)), (1, .int x1), (2, .long y6)]) rfl ?_
  refine k_iconst C dX10_readTerm_7 (v := 0) rfl ?_
  refine k_istore C dX10_readTerm_8 (by decide) [1, 2, 3, 0] (L' := [(0, .ref (w.2.1 7)), (1, .int x1), (2, .long y6), (4, .int (0 : Int32))]) rfl ?_
  obtain ⟨b10, eb10, h⟩ := k_lp_e h
  have K10 : ∀ (n : Nat) (v2_10 : Int64) (v4_10 : Int32) (s_10 : k_St), k_loop b10 n (v2_10, v4_10, s_10) = some (r, σ') → k_K (k_PX w) X (k_MQ X (k_Qi (k_PX w) r σ') (k_PX w).2.2.1) 10 [(0, .ref (w.2.1 7)), (1, .int x1), (2, .long v2_10), (4, .int v4_10)] [] s_10 := by
    intro n
    induction n with
    | zero => intro v2_10 v4_10 s_10 h; cases h
    | succ n ih10 =>
      intro v2_10 v4_10 s_10 h
      obtain ⟨g10, eg10, h⟩ := k_lp_s h
      rw [← eg10] at ih10
      rw [eb10] at h
      refine k_iload C dX10_readTerm_10 3 rfl ?_
      refine k_sipush C dX10_readTerm_12 (v := 160) rfl ?_
      refine k_icmp_gt C dX10_readTerm_15 (tgt := 102) (by decide) (fun c15 => ?_) (fun c15 => ?_)
      · replace h := k_if_t h c15
        refine k_lload_n C dX10_readTerm_102 2 rfl ?_
        refine k_l2i C dX10_readTerm_103 ?_
        exact k_iret C dX10_readTerm_104 hr (Option.some.inj h)
      · replace h := k_if_f h c15
        refine k_aload_n C dX10_readTerm_18 0 rfl ?_
        obtain ⟨v19, s19, h19, h⟩ := k_b2_e h
        refine k_goI (k_runU C dX10_readTerm_19 (e_X3_next_7 (d := 2) (Nat.le_refl _) h19) k_lX10_99 rfl k_yX3_next (k_oX7 w) (by omega) rfl (Nat.le_of_ble_eq_true rfl)) ?_
        refine k_istore C dX10_readTerm_22 (by decide) [1, 2, 3, 4, 0] (L' := [(0, .ref (w.2.1 7)), (1, .int x1), (2, .long v2_10), (4, .int v4_10), (5, .int v19)]) rfl ?_
        refine k_aload_n C dX10_readTerm_24 0 rfl ?_
        obtain ⟨v25, h25, h⟩ := k_bd_e h
        refine k_goI (k_runU C dX10_readTerm_25 (e_X3_failed_7 (d := 2) (Nat.le_refl _) h25) k_lX10_95 rfl k_yX3_failed (k_oX7 w) (by omega) rfl (Nat.le_of_ble_eq_true rfl)) ?_
        refine k_if_ne C dX10_readTerm_28 (tgt := 45) (by decide) (fun c28 => ?_) (fun c28 => ?_)
        · replace h := k_if_f h c28
          refine k_lload_n C dX10_readTerm_45 2 rfl ?_
          refine k_l2i C dX10_readTerm_46 ?_
          exact k_iret C dX10_readTerm_47 hr (Option.some.inj h)
        · replace h := k_if_t h c28
          refine k_iload C dX10_readTerm_31 4 rfl ?_
          refine k_bipush C dX10_readTerm_33 (v := 42) rfl ?_
          obtain ⟨j48, ej48, h⟩ := k_jn_e h
          have Jj48 : j48 () = some (r, σ') → k_K (k_PX w) X (k_MQ X (k_Qi (k_PX w) r σ') (k_PX w).2.2.1) 48 [(0, .ref (w.2.1 7)), (1, .int x1), (2, .long v2_10), (4, .int v4_10), (5, .int v19)] [] s19 := by
            intro  h
            rw [ej48] at h
            refine k_aload_n C dX10_readTerm_48 0 rfl ?_
            obtain ⟨s49, h49, h⟩ := k_bd_e h
            refine k_goV (k_runU C dX10_readTerm_49 (e_X3_pass_7 (d := 2) (Nat.le_refl _) h49) k_lX10_135 rfl k_yX3_pass (k_oX7 w) (by omega) rfl (Nat.le_of_ble_eq_true rfl)) ?_
            refine k_aload_n C dX10_readTerm_52 0 rfl ?_
            refine k_iload_n C dX10_readTerm_53 1 rfl ?_
            obtain ⟨v54, s54, h54, h⟩ := k_b2_e h
            refine k_goI (k_runV C dX10_readTerm_54 (H_readAtom (d := d0) (Nat.le_refl _) h54) k_lX10_145 k_yX10_readAtom (k_oX7 w) (by omega) rfl (Nat.le_of_ble_eq_true rfl)) ?_
            refine k_istore C dX10_readTerm_57 (by decide) [1, 2, 3, 4, 5, 0] (L' := [(0, .ref (w.2.1 7)), (1, .int x1), (2, .long v2_10), (4, .int v4_10), (5, .int v19), (6, .int v54)]) rfl ?_
            refine k_iload C dX10_readTerm_59 4 rfl ?_
            refine k_bipush C dX10_readTerm_61 (v := 42) rfl ?_
            refine k_icmp_ne C dX10_readTerm_63 (tgt := 78) (by decide) (fun c63 => ?_) (fun c63 => ?_)
            · replace h := k_if_f h c63
              refine k_iload C dX10_readTerm_78 5 rfl ?_
              refine k_if_ne C dX10_readTerm_80 (tgt := 87) (by decide) (fun c80 => ?_) (fun c80 => ?_)
              · replace h := k_if_f h c80
                refine k_lload_n C dX10_readTerm_87 2 rfl ?_
                refine k_iload C dX10_readTerm_88 5 rfl ?_
                refine k_i2l C dX10_readTerm_90 ?_
                obtain ⟨q91, h⟩ := k_gd_e h
                refine k_ldiv C dX10_readTerm_91 q91 ?_
                obtain ⟨v92, h92, h⟩ := k_bd_e h
                refine k_goL (k_runS C dX10_readTerm_92 (e_X10_held (d := 3) (Nat.le_refl _) h92) k_lX10_141 k_yX10_held (by omega) rfl (Nat.le_of_ble_eq_true rfl)) ?_
                refine k_lstore_n C dX10_readTerm_95 (by decide) [1, 2, 0, 3, 4, 5] (L' := [(0, .ref (w.2.1 7)), (1, .int x1), (2, .long v92), (4, .int v4_10), (5, .int v19), (6, .int v54)]) rfl ?_
                refine k_iinc C dX10_readTerm_96 3 rfl (v := 1) rfl (by decide) [1, 2, 3, 0, 4, 5] (L' := fun z9 => [(0, .ref (w.2.1 7)), (1, .int x1), (2, .long v92), (4, .int z9), (5, .int v19), (6, .int v54)]) (fun z9 => rfl) (fun y96 ey96 => ?_)
                replace h := k_nm_e h y96 ey96
                refine k_goto C dX10_readTerm_99 (tgt := 10) (by decide) ?_
                refine k_sub (L' := [(0, .ref (w.2.1 7)), (1, .int x1), (2, .long v92), (4, .int y96)]) [0, 1, 2, 3] rfl ?_
                exact ih10 _ _ _ h
              · replace h := k_if_t h c80
                refine k_lconst C dX10_readTerm_83 (v := 0) rfl ?_
                refine k_goto C dX10_readTerm_84 (tgt := 95) (by decide) ?_
                refine k_lstore_n C dX10_readTerm_95 (by decide) [1, 2, 0, 3, 4, 5] (L' := [(0, .ref (w.2.1 7)), (1, .int x1), (2, .long (0 : Int64)), (4, .int v4_10), (5, .int v19), (6, .int v54)]) rfl ?_
                refine k_iinc C dX10_readTerm_96 3 rfl (v := 1) rfl (by decide) [1, 2, 3, 0, 4, 5] (L' := fun z9 => [(0, .ref (w.2.1 7)), (1, .int x1), (2, .long (0 : Int64)), (4, .int z9), (5, .int v19), (6, .int v54)]) (fun z9 => rfl) (fun y96 ey96 => ?_)
                replace h := k_nm_e h y96 ey96
                refine k_goto C dX10_readTerm_99 (tgt := 10) (by decide) ?_
                refine k_sub (L' := [(0, .ref (w.2.1 7)), (1, .int x1), (2, .long (0 : Int64)), (4, .int y96)]) [0, 1, 2, 3] rfl ?_
                exact ih10 _ _ _ h
            · replace h := k_if_t h c63
              refine k_lload_n C dX10_readTerm_66 2 rfl ?_
              refine k_iload C dX10_readTerm_67 5 rfl ?_
              refine k_i2l C dX10_readTerm_69 ?_
              refine k_lmul C dX10_readTerm_70 ?_
              obtain ⟨v71, h71, h⟩ := k_bd_e h
              refine k_goL (k_runS C dX10_readTerm_71 (e_X10_held (d := 3) (Nat.le_refl _) h71) k_lX10_141 k_yX10_held (by omega) rfl (Nat.le_of_ble_eq_true rfl)) ?_
              refine k_lstore_n C dX10_readTerm_74 (by decide) [1, 2, 0, 3, 4, 5] (L' := [(0, .ref (w.2.1 7)), (1, .int x1), (2, .long v71), (4, .int v4_10), (5, .int v19), (6, .int v54)]) rfl ?_
              refine k_goto C dX10_readTerm_75 (tgt := 96) (by decide) ?_
              refine k_iinc C dX10_readTerm_96 3 rfl (v := 1) rfl (by decide) [1, 2, 3, 0, 4, 5] (L' := fun z9 => [(0, .ref (w.2.1 7)), (1, .int x1), (2, .long v71), (4, .int z9), (5, .int v19), (6, .int v54)]) (fun z9 => rfl) (fun y96 ey96 => ?_)
              replace h := k_nm_e h y96 ey96
              refine k_goto C dX10_readTerm_99 (tgt := 10) (by decide) ?_
              refine k_sub (L' := [(0, .ref (w.2.1 7)), (1, .int x1), (2, .long v71), (4, .int y96)]) [0, 1, 2, 3] rfl ?_
              exact ih10 _ _ _ h
          refine k_icmp_eq C dX10_readTerm_35 (tgt := 48) (by decide) (fun c35 => ?_) (fun c35 => ?_)
          · replace h := k_if_t h c35
            exact Jj48 h
          · replace h := k_if_f h c35
            refine k_iload C dX10_readTerm_38 4 rfl ?_
            refine k_bipush C dX10_readTerm_40 (v := 47) rfl ?_
            refine k_icmp_eq C dX10_readTerm_42 (tgt := 48) (by decide) (fun c42 => ?_) (fun c42 => ?_)
            · replace h := k_if_t h c42
              exact Jj48 h
            · replace h := k_if_f h c42
              refine k_lload_n C dX10_readTerm_45 2 rfl ?_
              refine k_l2i C dX10_readTerm_46 ?_
              exact k_iret C dX10_readTerm_47 hr (Option.some.inj h)
  exact K10 _ _ _ _ h
def b_X10_readSum (p_readTerm : Int32 → k_St → Option (Int32 × k_St)) (x1 : Int32) (σ : k_St) : Option (Int32 × k_St) :=
  k_loop (fun (g8 : Int64 × Int32 × Int32 × k_St → Option (Int32 × k_St)) (z8 : Int64 × Int32 × Int32 × k_St) => match z8 with
    | (v2_8, v4_8, v5_8, s_8) =>
      k_if ((160 : Int32) < v5_8)
        (some (v2_8.toInt32, s_8))
        (k_b2 (p_readTerm x1 s_8) fun v18 s18 =>
        k_jn (fun (t0_41 : Int64) =>
          k_bd (f_X10_held t0_41) fun v41 =>
          k_b2 (f_X3_next 7 s18) fun v46 s46 =>
          k_bd (f_X3_failed 7 s46) fun v52 =>
          k_if (v52 = (0 : Int32))
            (k_jn (fun (_ : Unit) =>
              k_jn (fun (t0_87 : Int32) =>
                k_bd (f_X3_pass 7 s46) fun s90 =>
                k_nm (v5_8 + (1 : Int32)) fun y93 =>
                g8 (v41, t0_87, y93, s90)) fun j87 =>
              k_if (v46 = (45 : Int32))
                (j87 (1 : Int32))
                (j87 (0 : Int32))) fun j75 =>
            k_if (v46 = (43 : Int32))
              (j75 ())
              (k_if (v46 = (45 : Int32))
                (j75 ())
                (some (v41.toInt32, s46))))
            (some (v41.toInt32, s46))) fun j41 =>
        k_if (v4_8 = (0 : Int32))
          (j41 (v2_8 + v18.toInt64))
          (j41 (v2_8 - v18.toInt64)))) 100000 ((0 : Int64), (0 : Int32), (0 : Int32), σ)
set_option maxHeartbeats 4000000 in
set_option maxRecDepth 100000 in
theorem eb_X10_readSum {p_readTerm : Int32 → k_St → Option (Int32 × k_St)} {d0 : Nat} (H_readTerm : ∀ {l : Launch} {w : k_WC} {d : Nat} (_ : d0 ≤ d) {x1 : Int32} {σ σ' : k_St} {r : Int32} (_ : p_readTerm x1 σ = some (r, σ')), k_EI l (k_PX w) yX10_readTerm cX10_readTerm 7 (some .int) d [.ref (w.2.1 7), .int x1] σ r σ') {l : Launch} {w : k_WC} {d : Nat} (hb : 6 ≤ d0) (hd : d0 < d) {x1 : Int32}  {σ σ' : k_St} {r : Int32} (h : b_X10_readSum p_readTerm x1 σ = some (r, σ')) : k_EI l (k_PX w) yX10_readSum cX10_readSum 8 (some .int) d [.ref (w.2.1 7), .int x1] σ r σ' := by
  refine k_of (own := RX10) rfl (by decide) (Nat.le_of_ble_eq_true rfl) (fun X hX C hr => ?_)
  show k_K (k_PX w) X (k_MQ X (k_Qi (k_PX w) r σ') (k_PX w).2.2.1) 0 [(0, .ref (w.2.1 7)), (1, .int x1)] [] σ
  unfold b_X10_readSum at h
  refine k_lconst C dX10_readSum_0 (v := 0) rfl ?_
  refine k_lstore_n C dX10_readSum_1 (by decide) [1, 2, 0] (L' := [(0, .ref (w.2.1 7)), (1, .int x1), (2, .long (0 : Int64))]) rfl ?_
  refine k_iconst C dX10_readSum_2 (v := 0) rfl ?_
  refine k_istore C dX10_readSum_3 (by decide) [1, 2, 3, 0] (L' := [(0, .ref (w.2.1 7)), (1, .int x1), (2, .long (0 : Int64)), (4, .int (0 : Int32))]) rfl ?_
  refine k_iconst C dX10_readSum_5 (v := 0) rfl ?_
  refine k_istore C dX10_readSum_6 (by decide) [1, 2, 3, 4, 0] (L' := [(0, .ref (w.2.1 7)), (1, .int x1), (2, .long (0 : Int64)), (4, .int (0 : Int32)), (5, .int (0 : Int32))]) rfl ?_
  obtain ⟨b8, eb8, h⟩ := k_lp_e h
  have K8 : ∀ (n : Nat) (v2_8 : Int64) (v4_8 : Int32) (v5_8 : Int32) (s_8 : k_St), k_loop b8 n (v2_8, v4_8, v5_8, s_8) = some (r, σ') → k_K (k_PX w) X (k_MQ X (k_Qi (k_PX w) r σ') (k_PX w).2.2.1) 8 [(0, .ref (w.2.1 7)), (1, .int x1), (2, .long v2_8), (4, .int v4_8), (5, .int v5_8)] [] s_8 := by
    intro n
    induction n with
    | zero => intro v2_8 v4_8 v5_8 s_8 h; cases h
    | succ n ih8 =>
      intro v2_8 v4_8 v5_8 s_8 h
      obtain ⟨g8, eg8, h⟩ := k_lp_s h
      rw [← eg8] at ih8
      rw [eb8] at h
      refine k_iload C dX10_readSum_8 4 rfl ?_
      refine k_sipush C dX10_readSum_10 (v := 160) rfl ?_
      refine k_icmp_gt C dX10_readSum_13 (tgt := 99) (by decide) (fun c13 => ?_) (fun c13 => ?_)
      · replace h := k_if_t h c13
        refine k_lload_n C dX10_readSum_99 2 rfl ?_
        refine k_l2i C dX10_readSum_100 ?_
        exact k_iret C dX10_readSum_101 hr (Option.some.inj h)
      · replace h := k_if_f h c13
        refine k_aload_n C dX10_readSum_16 0 rfl ?_
        refine k_iload_n C dX10_readSum_17 1 rfl ?_
        obtain ⟨v18, s18, h18, h⟩ := k_b2_e h
        refine k_goI (k_runV C dX10_readSum_18 (H_readTerm (d := d0) (Nat.le_refl _) h18) k_lX10_138 k_yX10_readTerm (k_oX7 w) (by omega) rfl (Nat.le_of_ble_eq_true rfl)) ?_
        refine k_istore C dX10_readSum_21 (by decide) [1, 2, 3, 4, 5, 0] (L' := [(0, .ref (w.2.1 7)), (1, .int x1), (2, .long v2_8), (4, .int v4_8), (5, .int v5_8), (6, .int v18)]) rfl ?_
        refine k_iload C dX10_readSum_23 3 rfl ?_
        obtain ⟨j41, ej41, h⟩ := k_jn_e h
        have Jj41 : ∀ (t0_41 : Int64), j41 t0_41 = some (r, σ') → k_K (k_PX w) X (k_MQ X (k_Qi (k_PX w) r σ') (k_PX w).2.2.1) 41 [(0, .ref (w.2.1 7)), (1, .int x1), (5, .int v5_8)] [.long t0_41] s18 := by
          intro t0_41 h
          rw [ej41] at h
          obtain ⟨v41, h41, h⟩ := k_bd_e h
          refine k_goL (k_runS C dX10_readSum_41 (e_X10_held (d := 3) (Nat.le_refl _) h41) k_lX10_141 k_yX10_held (by omega) rfl (Nat.le_of_ble_eq_true rfl)) ?_
          refine k_lstore_n C dX10_readSum_44 (by decide) [1, 2, 0, 3] (L' := [(0, .ref (w.2.1 7)), (1, .int x1), (2, .long v41), (5, .int v5_8)]) rfl ?_
          refine k_aload_n C dX10_readSum_45 0 rfl ?_
          obtain ⟨v46, s46, h46, h⟩ := k_b2_e h
          refine k_goI (k_runU C dX10_readSum_46 (e_X3_next_7 (d := 2) (Nat.le_refl _) h46) k_lX10_99 rfl k_yX3_next (k_oX7 w) (by omega) rfl (Nat.le_of_ble_eq_true rfl)) ?_
          refine k_istore C dX10_readSum_49 (by decide) [1, 2, 3, 4, 0] (L' := [(0, .ref (w.2.1 7)), (1, .int x1), (2, .long v41), (5, .int v5_8), (7, .int v46)]) rfl ?_
          refine k_aload_n C dX10_readSum_51 0 rfl ?_
          obtain ⟨v52, h52, h⟩ := k_bd_e h
          refine k_goI (k_runU C dX10_readSum_52 (e_X3_failed_7 (d := 2) (Nat.le_refl _) h52) k_lX10_95 rfl k_yX3_failed (k_oX7 w) (by omega) rfl (Nat.le_of_ble_eq_true rfl)) ?_
          refine k_if_ne C dX10_readSum_55 (tgt := 72) (by decide) (fun c55 => ?_) (fun c55 => ?_)
          · replace h := k_if_f h c55
            refine k_lload_n C dX10_readSum_72 2 rfl ?_
            refine k_l2i C dX10_readSum_73 ?_
            exact k_iret C dX10_readSum_74 hr (Option.some.inj h)
          · replace h := k_if_t h c55
            refine k_iload C dX10_readSum_58 4 rfl ?_
            refine k_bipush C dX10_readSum_60 (v := 43) rfl ?_
            obtain ⟨j75, ej75, h⟩ := k_jn_e h
            have Jj75 : j75 () = some (r, σ') → k_K (k_PX w) X (k_MQ X (k_Qi (k_PX w) r σ') (k_PX w).2.2.1) 75 [(0, .ref (w.2.1 7)), (1, .int x1), (2, .long v41), (5, .int v5_8), (7, .int v46)] [] s46 := by
              intro  h
              rw [ej75] at h
              refine k_iload C dX10_readSum_75 4 rfl ?_
              refine k_bipush C dX10_readSum_77 (v := 45) rfl ?_
              obtain ⟨j87, ej87, h⟩ := k_jn_e h
              have Jj87 : ∀ (t0_87 : Int32), j87 t0_87 = some (r, σ') → k_K (k_PX w) X (k_MQ X (k_Qi (k_PX w) r σ') (k_PX w).2.2.1) 87 [(0, .ref (w.2.1 7)), (1, .int x1), (2, .long v41), (5, .int v5_8)] [.int t0_87] s46 := by
                intro t0_87 h
                rw [ej87] at h
                refine k_istore C dX10_readSum_87 (by decide) [1, 2, 3, 0, 4] (L' := [(0, .ref (w.2.1 7)), (1, .int x1), (2, .long v41), (4, .int t0_87), (5, .int v5_8)]) rfl ?_
                refine k_aload_n C dX10_readSum_89 0 rfl ?_
                obtain ⟨s90, h90, h⟩ := k_bd_e h
                refine k_goV (k_runU C dX10_readSum_90 (e_X3_pass_7 (d := 2) (Nat.le_refl _) h90) k_lX10_135 rfl k_yX3_pass (k_oX7 w) (by omega) rfl (Nat.le_of_ble_eq_true rfl)) ?_
                refine k_iinc C dX10_readSum_93 4 rfl (v := 1) rfl (by decide) [1, 2, 3, 4, 0] (L' := fun z9 => [(0, .ref (w.2.1 7)), (1, .int x1), (2, .long v41), (4, .int t0_87), (5, .int z9)]) (fun z9 => rfl) (fun y93 ey93 => ?_)
                replace h := k_nm_e h y93 ey93
                refine k_goto C dX10_readSum_96 (tgt := 8) (by decide) ?_
                exact ih8 _ _ _ _ h
              refine k_icmp_ne C dX10_readSum_79 (tgt := 86) (by decide) (fun c79 => ?_) (fun c79 => ?_)
              · replace h := k_if_f h c79
                refine k_iconst C dX10_readSum_86 (v := 0) rfl ?_
                refine k_sub (L' := [(0, .ref (w.2.1 7)), (1, .int x1), (2, .long v41), (5, .int v5_8)]) [0, 1, 2, 3] rfl ?_
                exact Jj87 _ h
              · replace h := k_if_t h c79
                refine k_iconst C dX10_readSum_82 (v := 1) rfl ?_
                refine k_goto C dX10_readSum_83 (tgt := 87) (by decide) ?_
                refine k_sub (L' := [(0, .ref (w.2.1 7)), (1, .int x1), (2, .long v41), (5, .int v5_8)]) [0, 1, 2, 3] rfl ?_
                exact Jj87 _ h
            refine k_icmp_eq C dX10_readSum_62 (tgt := 75) (by decide) (fun c62 => ?_) (fun c62 => ?_)
            · replace h := k_if_t h c62
              exact Jj75 h
            · replace h := k_if_f h c62
              refine k_iload C dX10_readSum_65 4 rfl ?_
              refine k_bipush C dX10_readSum_67 (v := 45) rfl ?_
              refine k_icmp_eq C dX10_readSum_69 (tgt := 75) (by decide) (fun c69 => ?_) (fun c69 => ?_)
              · replace h := k_if_t h c69
                exact Jj75 h
              · replace h := k_if_f h c69
                refine k_lload_n C dX10_readSum_72 2 rfl ?_
                refine k_l2i C dX10_readSum_73 ?_
                exact k_iret C dX10_readSum_74 hr (Option.some.inj h)
        refine k_if_eq C dX10_readSum_25 (tgt := 36) (by decide) (fun c25 => ?_) (fun c25 => ?_)
        · replace h := k_if_t h c25
          refine k_lload_n C dX10_readSum_36 2 rfl ?_
          refine k_iload C dX10_readSum_37 5 rfl ?_
          refine k_i2l C dX10_readSum_39 ?_
          refine k_ladd C dX10_readSum_40 ?_
          refine k_sub (L' := [(0, .ref (w.2.1 7)), (1, .int x1), (5, .int v5_8)]) [0, 1, 4] rfl ?_
          exact Jj41 _ h
        · replace h := k_if_f h c25
          refine k_lload_n C dX10_readSum_28 2 rfl ?_
          refine k_iload C dX10_readSum_29 5 rfl ?_
          refine k_i2l C dX10_readSum_31 ?_
          refine k_lsub C dX10_readSum_32 ?_
          refine k_goto C dX10_readSum_33 (tgt := 41) (by decide) ?_
          refine k_sub (L' := [(0, .ref (w.2.1 7)), (1, .int x1), (5, .int v5_8)]) [0, 1, 4] rfl ?_
          exact Jj41 _ h
  exact K8 _ _ _ _ _ h
def f_X10_readSum : Nat → Int32 → k_St → Option (Int32 × k_St)
  | 0 => fun _ _ => none
  | n + 1 => b_X10_readSum (b_X10_readTerm (b_X10_readAtom (f_X10_readSum n)))
def f_X10_readAtom (n : Nat) : Int32 → k_St → Option (Int32 × k_St) := (b_X10_readAtom (f_X10_readSum n))
def f_X10_readTerm (n : Nat) : Int32 → k_St → Option (Int32 × k_St) := (b_X10_readTerm (b_X10_readAtom (f_X10_readSum n)))
theorem e_X10_readSum_all : ∀ n : Nat, ∀ {l : Launch} {w : k_WC} {d : Nat} (_ : 6 + 3 * n ≤ d) {x1 : Int32} {σ σ' : k_St} {r : Int32} (_ : f_X10_readSum n x1 σ = some (r, σ')), k_EI l (k_PX w) yX10_readSum cX10_readSum 8 (some .int) d [.ref (w.2.1 7), .int x1] σ r σ'
  | 0 => fun _ => by
    intros; rename_i h; cases h
  | n + 1 => by
    have ih := @e_X10_readSum_all n
    have E_readAtom : ∀ {l : Launch} {w : k_WC} {d : Nat} (_ : 6 + 3 * n + 1 ≤ d) {x1 : Int32} {σ σ' : k_St} {r : Int32} (_ : (b_X10_readAtom (f_X10_readSum n)) x1 σ = some (r, σ')), k_EI l (k_PX w) yX10_readAtom cX10_readAtom 4 (some .int) d [.ref (w.2.1 7), .int x1] σ r σ' := fun hd => fun h => eb_X10_readAtom (d0 := 6 + 3 * n + 0) (fun hd => fun h => ih (by omega) h) (by omega) (by omega) h
    have E_readTerm : ∀ {l : Launch} {w : k_WC} {d : Nat} (_ : 6 + 3 * n + 2 ≤ d) {x1 : Int32} {σ σ' : k_St} {r : Int32} (_ : (b_X10_readTerm (b_X10_readAtom (f_X10_readSum n))) x1 σ = some (r, σ')), k_EI l (k_PX w) yX10_readTerm cX10_readTerm 7 (some .int) d [.ref (w.2.1 7), .int x1] σ r σ' := fun hd => fun h => eb_X10_readTerm (d0 := 6 + 3 * n + 1) (fun hd => fun h => E_readAtom (by omega) h) (by omega) (by omega) h
    exact fun hd => fun h => eb_X10_readSum (d0 := 6 + 3 * n + 2) (fun hd => fun h => E_readTerm (by omega) h) (by omega) (by omega) h
theorem e_X10_readSum : ∀ {l : Launch} {w : k_WC} {d : Nat} (_ : 66 ≤ d) {x1 : Int32} {σ σ' : k_St} {r : Int32} (_ : f_X10_readSum 20 x1 σ = some (r, σ')), k_EI l (k_PX w) yX10_readSum cX10_readSum 8 (some .int) d [.ref (w.2.1 7), .int x1] σ r σ' := fun hd => fun h => e_X10_readSum_all 20 (by omega) h
theorem e_X10_readAtom : ∀ {l : Launch} {w : k_WC} {d : Nat} (_ : 67 ≤ d) {x1 : Int32} {σ σ' : k_St} {r : Int32} (_ : f_X10_readAtom 20 x1 σ = some (r, σ')), k_EI l (k_PX w) yX10_readAtom cX10_readAtom 4 (some .int) d [.ref (w.2.1 7), .int x1] σ r σ' := fun hd => fun h => eb_X10_readAtom (d0 := 66) (fun hd => fun h => e_X10_readSum_all 20 (by omega) h) (by omega) (by omega) h
theorem e_X10_readTerm : ∀ {l : Launch} {w : k_WC} {d : Nat} (_ : 68 ≤ d) {x1 : Int32} {σ σ' : k_St} {r : Int32} (_ : f_X10_readTerm 20 x1 σ = some (r, σ')), k_EI l (k_PX w) yX10_readTerm cX10_readTerm 7 (some .int) d [.ref (w.2.1 7), .int x1] σ r σ' := fun hd => fun h => eb_X10_readTerm (d0 := 67) (fun hd => fun h => e_X10_readAtom (by omega) h) (by omega) (by omega) h
def f_X10_isComparison (x0 : Int32) : Option (Int32) :=
  k_if (x0 = (61 : Int32))
    (some (1 : Int32))
    (k_if (x0 = (60 : Int32))
      (some (1 : Int32))
      (k_if (x0 = (62 : Int32))
        (some (1 : Int32))
        (some (0 : Int32))))
set_option maxHeartbeats 4000000 in
set_option maxRecDepth 100000 in
theorem e_X10_isComparison {l : Launch} {w : k_WC} {d : Nat} (hd : 2 ≤ d) {x0 : Int32}  {σ : k_St} {r : Int32} (h : f_X10_isComparison x0 = some r) : k_EI l (k_PX w) yX10_isComparison cX10_isComparison 1 (some .boolean) d [.int x0] σ r σ := by
  refine k_of (own := RX10) rfl (by decide) (Nat.le_of_ble_eq_true rfl) (fun X hX C hr => ?_)
  show k_K (k_PX w) X (k_MQ X (k_Qi (k_PX w) r σ) (k_PX w).2.2.1) 0 [(0, .int x0)] [] σ
  unfold f_X10_isComparison at h
  refine k_iload_n C dX10_isComparison_0 0 rfl ?_
  refine k_bipush C dX10_isComparison_1 (v := 61) rfl ?_
  refine k_icmp_eq C dX10_isComparison_3 (tgt := 18) (by decide) (fun c3 => ?_) (fun c3 => ?_)
  · replace h := k_if_t h c3
    refine k_iconst C dX10_isComparison_18 (v := 1) rfl ?_
    refine k_goto C dX10_isComparison_19 (tgt := 23) (by decide) ?_
    exact k_zret C dX10_isComparison_23 hr rfl (k_p1 h)
  · replace h := k_if_f h c3
    refine k_iload_n C dX10_isComparison_6 0 rfl ?_
    refine k_bipush C dX10_isComparison_7 (v := 60) rfl ?_
    refine k_icmp_eq C dX10_isComparison_9 (tgt := 18) (by decide) (fun c9 => ?_) (fun c9 => ?_)
    · replace h := k_if_t h c9
      refine k_iconst C dX10_isComparison_18 (v := 1) rfl ?_
      refine k_goto C dX10_isComparison_19 (tgt := 23) (by decide) ?_
      exact k_zret C dX10_isComparison_23 hr rfl (k_p1 h)
    · replace h := k_if_f h c9
      refine k_iload_n C dX10_isComparison_12 0 rfl ?_
      refine k_bipush C dX10_isComparison_13 (v := 62) rfl ?_
      refine k_icmp_ne C dX10_isComparison_15 (tgt := 22) (by decide) (fun c15 => ?_) (fun c15 => ?_)
      · replace h := k_if_f h c15
        refine k_iconst C dX10_isComparison_22 (v := 0) rfl ?_
        exact k_zret C dX10_isComparison_23 hr rfl (k_p1 h)
      · replace h := k_if_t h c15
        refine k_iconst C dX10_isComparison_18 (v := 1) rfl ?_
        refine k_goto C dX10_isComparison_19 (tgt := 23) (by decide) ?_
        exact k_zret C dX10_isComparison_23 hr rfl (k_p1 h)
def f_X10_hasCondition  (σ : k_St) : Option (Int32 × k_St) :=
  k_b2 (f_X3_next 7 σ) fun v1 s1 =>
  k_if (v1 = (33 : Int32))
    (some ((1 : Int32), s1))
    (k_if (v1 = (40 : Int32))
      (some ((1 : Int32), s1))
      (k_bd (f_X3_mark 7 s1) fun v20 =>
      k_b2 (f_X10_readSum 20 (0 : Int32) s1) fun v26 s26 =>
      k_bd (f_X3_failed 7 s26) fun v31 =>
      k_if (v31 = (0 : Int32))
        (k_b2 (f_X3_next 7 s26) fun v40 s40 =>
        k_bd (f_X10_isComparison v40) fun v43 =>
        k_bd (f_X3_returnTo 7 v20 s40) fun s49 =>
        k_gd (o_isB v43 = true) <|
        some (v43, s49))
        (some ((0 : Int32), s26))))
set_option maxHeartbeats 4000000 in
set_option maxRecDepth 100000 in
theorem e_X10_hasCondition {l : Launch} {w : k_WC} {d : Nat} (hd : 67 ≤ d)   {σ σ' : k_St} {r : Int32} (h : f_X10_hasCondition σ = some (r, σ')) : k_EI l (k_PX w) yX10_hasCondition cX10_hasCondition 4 (some .boolean) d [.ref (w.2.1 7)] σ r σ' := by
  refine k_of (own := RX10) rfl (by decide) (Nat.le_of_ble_eq_true rfl) (fun X hX C hr => ?_)
  show k_K (k_PX w) X (k_MQ X (k_Qi (k_PX w) r σ') (k_PX w).2.2.1) 0 [(0, .ref (w.2.1 7))] [] σ
  unfold f_X10_hasCondition at h
  refine k_aload_n C dX10_hasCondition_0 0 rfl ?_
  obtain ⟨v1, s1, h1, h⟩ := k_b2_e h
  refine k_goI (k_runU C dX10_hasCondition_1 (e_X3_next_7 (d := 2) (Nat.le_refl _) h1) k_lX10_99 rfl k_yX3_next (k_oX7 w) (by omega) rfl (Nat.le_of_ble_eq_true rfl)) ?_
  refine k_istore_n C dX10_hasCondition_4 (by decide) [1, 0] (L' := [(0, .ref (w.2.1 7)), (1, .int v1)]) rfl ?_
  refine k_iload_n C dX10_hasCondition_5 1 rfl ?_
  refine k_bipush C dX10_hasCondition_6 (v := 33) rfl ?_
  refine k_icmp_eq C dX10_hasCondition_8 (tgt := 17) (by decide) (fun c8 => ?_) (fun c8 => ?_)
  · replace h := k_if_t h c8
    refine k_iconst C dX10_hasCondition_17 (v := 1) rfl ?_
    exact k_zret C dX10_hasCondition_18 hr rfl (Option.some.inj h)
  · replace h := k_if_f h c8
    refine k_iload_n C dX10_hasCondition_11 1 rfl ?_
    refine k_bipush C dX10_hasCondition_12 (v := 40) rfl ?_
    refine k_icmp_ne C dX10_hasCondition_14 (tgt := 19) (by decide) (fun c14 => ?_) (fun c14 => ?_)
    · replace h := k_if_f h c14
      refine k_aload_n C dX10_hasCondition_19 0 rfl ?_
      obtain ⟨v20, h20, h⟩ := k_bd_e h
      refine k_goI (k_runU C dX10_hasCondition_20 (e_X3_mark_7 (d := 2) (Nat.le_refl _) h20) k_lX10_117 rfl k_yX3_mark (k_oX7 w) (by omega) rfl (Nat.le_of_ble_eq_true rfl)) ?_
      refine k_istore_n C dX10_hasCondition_23 (by decide) [1, 2, 0] (L' := [(0, .ref (w.2.1 7)), (1, .int v1), (2, .int v20)]) rfl ?_
      refine k_aload_n C dX10_hasCondition_24 0 rfl ?_
      refine k_iconst C dX10_hasCondition_25 (v := 0) rfl ?_
      obtain ⟨v26, s26, h26, h⟩ := k_b2_e h
      refine k_goI (k_runV C dX10_hasCondition_26 (e_X10_readSum (d := 66) (Nat.le_refl _) h26) k_lX10_113 k_yX10_readSum (k_oX7 w) (by omega) rfl (Nat.le_of_ble_eq_true rfl)) ?_
      refine k_pop C dX10_hasCondition_29 rfl ?_
      refine k_aload_n C dX10_hasCondition_30 0 rfl ?_
      obtain ⟨v31, h31, h⟩ := k_bd_e h
      refine k_goI (k_runU C dX10_hasCondition_31 (e_X3_failed_7 (d := 2) (Nat.le_refl _) h31) k_lX10_95 rfl k_yX3_failed (k_oX7 w) (by omega) rfl (Nat.le_of_ble_eq_true rfl)) ?_
      refine k_if_eq C dX10_hasCondition_34 (tgt := 39) (by decide) (fun c34 => ?_) (fun c34 => ?_)
      · replace h := k_if_t h c34
        refine k_aload_n C dX10_hasCondition_39 0 rfl ?_
        obtain ⟨v40, s40, h40, h⟩ := k_b2_e h
        refine k_goI (k_runU C dX10_hasCondition_40 (e_X3_next_7 (d := 2) (Nat.le_refl _) h40) k_lX10_99 rfl k_yX3_next (k_oX7 w) (by omega) rfl (Nat.le_of_ble_eq_true rfl)) ?_
        obtain ⟨v43, h43, h⟩ := k_bd_e h
        refine k_goI (k_runS C dX10_hasCondition_43 (e_X10_isComparison (d := 2) (Nat.le_refl _) h43) k_lX10_120 k_yX10_isComparison (by omega) rfl (Nat.le_of_ble_eq_true rfl)) ?_
        refine k_istore_n C dX10_hasCondition_46 (by decide) [1, 2, 3, 0] (L' := [(0, .ref (w.2.1 7)), (1, .int v1), (2, .int v20), (3, .int v43)]) rfl ?_
        refine k_aload_n C dX10_hasCondition_47 0 rfl ?_
        refine k_iload_n C dX10_hasCondition_48 2 rfl ?_
        obtain ⟨s49, h49, h⟩ := k_bd_e h
        refine k_goV (k_runU C dX10_hasCondition_49 (e_X3_returnTo_7 (d := 2) (Nat.le_refl _) h49) k_lX10_123 rfl k_yX3_returnTo (k_oX7 w) (by omega) rfl (Nat.le_of_ble_eq_true rfl)) ?_
        refine k_iload_n C dX10_hasCondition_52 3 rfl ?_
        obtain ⟨gz, h⟩ := k_gd_e h
        exact k_zret C dX10_hasCondition_53 hr (k_nz gz) (Option.some.inj h)
      · replace h := k_if_f h c34
        refine k_iconst C dX10_hasCondition_37 (v := 0) rfl ?_
        exact k_zret C dX10_hasCondition_38 hr rfl (Option.some.inj h)
    · replace h := k_if_t h c14
      refine k_iconst C dX10_hasCondition_17 (v := 1) rfl ?_
      exact k_zret C dX10_hasCondition_18 hr rfl (Option.some.inj h)
def b_X10_readCondition (p_readUnit : Int32 → k_St → Option (Int32 × k_St)) (x1 : Int32) (σ : k_St) : Option (Int32 × k_St) :=
  k_loop (fun (g7 : Int32 × Int32 × Int32 × k_St → Option (Int32 × k_St)) (z7 : Int32 × Int32 × Int32 × k_St) => match z7 with
    | (v2_7, v3_7, v4_7, s_7) =>
      k_if ((160 : Int32) < v4_7)
        (k_gd (o_isB v2_7 = true) <|
        some (v2_7, s_7))
        (k_b2 (p_readUnit x1 s_7) fun v17 s17 =>
        k_jn (fun (t0_36 : Int32) =>
          k_bd (f_X3_failed 7 s17) fun v38 =>
          k_if (v38 = (0 : Int32))
            (k_b2 (f_X3_take 7 (38 : Int32) s17) fun v49 s49 =>
            k_if (v49 = (0 : Int32))
              (k_jn (fun (t0_68 : Int32) =>
                k_b2 (f_X3_take 7 (124 : Int32) s49) fun v74 s74 =>
                k_if (v74 = (0 : Int32))
                  (k_gd (o_isB t0_68 = true) <|
                  some (t0_68, s74))
                  (k_nm (v4_7 + (1 : Int32)) fun y82 =>
                  g7 (t0_68, (1 : Int32), y82, s74))) fun j68 =>
              k_jn (fun (_ : Unit) =>
                j68 (1 : Int32)) fun j63 =>
              k_if (v2_7 = (0 : Int32))
                (k_if (t0_36 = (0 : Int32))
                  (j68 (0 : Int32))
                  (j63 ()))
                (j63 ()))
              (k_nm (v4_7 + (1 : Int32)) fun y82 =>
              g7 (v2_7, t0_36, y82, s49)))
            (some ((0 : Int32), s17))) fun j36 =>
        k_jn (fun (_ : Unit) =>
          j36 (0 : Int32)) fun j35 =>
        k_if (v3_7 = (0 : Int32))
          (j35 ())
          (k_if (v17 = (0 : Int32))
            (j35 ())
            (j36 (1 : Int32))))) 100000 ((0 : Int32), (1 : Int32), (0 : Int32), σ)
set_option maxHeartbeats 4000000 in
set_option maxRecDepth 100000 in
theorem eb_X10_readCondition {p_readUnit : Int32 → k_St → Option (Int32 × k_St)} {d0 : Nat} (H_readUnit : ∀ {l : Launch} {w : k_WC} {d : Nat} (_ : d0 ≤ d) {x1 : Int32} {σ σ' : k_St} {r : Int32} (_ : p_readUnit x1 σ = some (r, σ')), k_EI l (k_PX w) yX10_readUnit cX10_readUnit 5 (some .boolean) d [.ref (w.2.1 7), .int x1] σ r σ') {l : Launch} {w : k_WC} {d : Nat} (hb : 67 ≤ d0) (hd : d0 < d) {x1 : Int32}  {σ σ' : k_St} {r : Int32} (h : b_X10_readCondition p_readUnit x1 σ = some (r, σ')) : k_EI l (k_PX w) yX10_readCondition cX10_readCondition 6 (some .boolean) d [.ref (w.2.1 7), .int x1] σ r σ' := by
  refine k_of (own := RX10) rfl (by decide) (Nat.le_of_ble_eq_true rfl) (fun X hX C hr => ?_)
  show k_K (k_PX w) X (k_MQ X (k_Qi (k_PX w) r σ') (k_PX w).2.2.1) 0 [(0, .ref (w.2.1 7)), (1, .int x1)] [] σ
  unfold b_X10_readCondition at h
  refine k_iconst C dX10_readCondition_0 (v := 0) rfl ?_
  refine k_istore_n C dX10_readCondition_1 (by decide) [1, 2, 0] (L' := [(0, .ref (w.2.1 7)), (1, .int x1), (2, .int (0 : Int32))]) rfl ?_
  refine k_iconst C dX10_readCondition_2 (v := 1) rfl ?_
  refine k_istore_n C dX10_readCondition_3 (by decide) [1, 2, 3, 0] (L' := [(0, .ref (w.2.1 7)), (1, .int x1), (2, .int (0 : Int32)), (3, .int (1 : Int32))]) rfl ?_
  refine k_iconst C dX10_readCondition_4 (v := 0) rfl ?_
  refine k_istore C dX10_readCondition_5 (by decide) [1, 2, 3, 4, 0] (L' := [(0, .ref (w.2.1 7)), (1, .int x1), (2, .int (0 : Int32)), (3, .int (1 : Int32)), (4, .int (0 : Int32))]) rfl ?_
  obtain ⟨b7, eb7, h⟩ := k_lp_e h
  have K7 : ∀ (n : Nat) (v2_7 : Int32) (v3_7 : Int32) (v4_7 : Int32) (s_7 : k_St), k_loop b7 n (v2_7, v3_7, v4_7, s_7) = some (r, σ') → k_K (k_PX w) X (k_MQ X (k_Qi (k_PX w) r σ') (k_PX w).2.2.1) 7 [(0, .ref (w.2.1 7)), (1, .int x1), (2, .int v2_7), (3, .int v3_7), (4, .int v4_7)] [] s_7 := by
    intro n
    induction n with
    | zero => intro v2_7 v3_7 v4_7 s_7 h; cases h
    | succ n ih7 =>
      intro v2_7 v3_7 v4_7 s_7 h
      obtain ⟨g7, eg7, h⟩ := k_lp_s h
      rw [← eg7] at ih7
      rw [eb7] at h
      refine k_iload C dX10_readCondition_7 4 rfl ?_
      refine k_sipush C dX10_readCondition_9 (v := 160) rfl ?_
      refine k_icmp_gt C dX10_readCondition_12 (tgt := 88) (by decide) (fun c12 => ?_) (fun c12 => ?_)
      · replace h := k_if_t h c12
        refine k_iload_n C dX10_readCondition_88 2 rfl ?_
        obtain ⟨gz, h⟩ := k_gd_e h
        exact k_zret C dX10_readCondition_89 hr (k_nz gz) (Option.some.inj h)
      · replace h := k_if_f h c12
        refine k_aload_n C dX10_readCondition_15 0 rfl ?_
        refine k_iload_n C dX10_readCondition_16 1 rfl ?_
        obtain ⟨v17, s17, h17, h⟩ := k_b2_e h
        refine k_goI (k_runV C dX10_readCondition_17 (H_readUnit (d := d0) (Nat.le_refl _) h17) k_lX10_126 k_yX10_readUnit (k_oX7 w) (by omega) rfl (Nat.le_of_ble_eq_true rfl)) ?_
        refine k_istore C dX10_readCondition_20 (by decide) [1, 2, 3, 4, 5, 0] (L' := [(0, .ref (w.2.1 7)), (1, .int x1), (2, .int v2_7), (3, .int v3_7), (4, .int v4_7), (5, .int v17)]) rfl ?_
        refine k_iload_n C dX10_readCondition_22 3 rfl ?_
        obtain ⟨j36, ej36, h⟩ := k_jn_e h
        have Jj36 : ∀ (t0_36 : Int32), j36 t0_36 = some (r, σ') → k_K (k_PX w) X (k_MQ X (k_Qi (k_PX w) r σ') (k_PX w).2.2.1) 36 [(0, .ref (w.2.1 7)), (1, .int x1), (2, .int v2_7), (4, .int v4_7)] [.int t0_36] s17 := by
          intro t0_36 h
          rw [ej36] at h
          refine k_istore_n C dX10_readCondition_36 (by decide) [1, 2, 3, 0, 4] (L' := [(0, .ref (w.2.1 7)), (1, .int x1), (2, .int v2_7), (3, .int t0_36), (4, .int v4_7)]) rfl ?_
          refine k_aload_n C dX10_readCondition_37 0 rfl ?_
          obtain ⟨v38, h38, h⟩ := k_bd_e h
          refine k_goI (k_runU C dX10_readCondition_38 (e_X3_failed_7 (d := 2) (Nat.le_refl _) h38) k_lX10_95 rfl k_yX3_failed (k_oX7 w) (by omega) rfl (Nat.le_of_ble_eq_true rfl)) ?_
          refine k_if_eq C dX10_readCondition_41 (tgt := 46) (by decide) (fun c41 => ?_) (fun c41 => ?_)
          · replace h := k_if_t h c41
            refine k_aload_n C dX10_readCondition_46 0 rfl ?_
            refine k_bipush C dX10_readCondition_47 (v := 38) rfl ?_
            obtain ⟨v49, s49, h49, h⟩ := k_b2_e h
            refine k_goI (k_runU C dX10_readCondition_49 (e_X3_take_7 (d := 3) (Nat.le_refl _) h49) k_lX10_129 rfl k_yX3_take (k_oX7 w) (by omega) rfl (Nat.le_of_ble_eq_true rfl)) ?_
            refine k_if_ne C dX10_readCondition_52 (tgt := 82) (by decide) (fun c52 => ?_) (fun c52 => ?_)
            · replace h := k_if_f h c52
              refine k_iinc C dX10_readCondition_82 4 rfl (v := 1) rfl (by decide) [1, 2, 3, 4, 0] (L' := fun z9 => [(0, .ref (w.2.1 7)), (1, .int x1), (2, .int v2_7), (3, .int t0_36), (4, .int z9)]) (fun z9 => rfl) (fun y82 ey82 => ?_)
              replace h := k_nm_e h y82 ey82
              refine k_goto C dX10_readCondition_85 (tgt := 7) (by decide) ?_
              exact ih7 _ _ _ _ h
            · replace h := k_if_t h c52
              refine k_iload_n C dX10_readCondition_55 2 rfl ?_
              obtain ⟨j68, ej68, h⟩ := k_jn_e h
              have Jj68 : ∀ (t0_68 : Int32), j68 t0_68 = some (r, σ') → k_K (k_PX w) X (k_MQ X (k_Qi (k_PX w) r σ') (k_PX w).2.2.1) 68 [(0, .ref (w.2.1 7)), (1, .int x1), (4, .int v4_7)] [.int t0_68] s49 := by
                intro t0_68 h
                rw [ej68] at h
                refine k_istore_n C dX10_readCondition_68 (by decide) [1, 2, 0, 3] (L' := [(0, .ref (w.2.1 7)), (1, .int x1), (2, .int t0_68), (4, .int v4_7)]) rfl ?_
                refine k_iconst C dX10_readCondition_69 (v := 1) rfl ?_
                refine k_istore_n C dX10_readCondition_70 (by decide) [1, 2, 3, 0, 4] (L' := [(0, .ref (w.2.1 7)), (1, .int x1), (2, .int t0_68), (3, .int (1 : Int32)), (4, .int v4_7)]) rfl ?_
                refine k_aload_n C dX10_readCondition_71 0 rfl ?_
                refine k_bipush C dX10_readCondition_72 (v := 124) rfl ?_
                obtain ⟨v74, s74, h74, h⟩ := k_b2_e h
                refine k_goI (k_runU C dX10_readCondition_74 (e_X3_take_7 (d := 3) (Nat.le_refl _) h74) k_lX10_129 rfl k_yX3_take (k_oX7 w) (by omega) rfl (Nat.le_of_ble_eq_true rfl)) ?_
                refine k_if_ne C dX10_readCondition_77 (tgt := 82) (by decide) (fun c77 => ?_) (fun c77 => ?_)
                · replace h := k_if_f h c77
                  refine k_iinc C dX10_readCondition_82 4 rfl (v := 1) rfl (by decide) [1, 2, 3, 4, 0] (L' := fun z9 => [(0, .ref (w.2.1 7)), (1, .int x1), (2, .int t0_68), (3, .int (1 : Int32)), (4, .int z9)]) (fun z9 => rfl) (fun y82 ey82 => ?_)
                  replace h := k_nm_e h y82 ey82
                  refine k_goto C dX10_readCondition_85 (tgt := 7) (by decide) ?_
                  exact ih7 _ _ _ _ h
                · replace h := k_if_t h c77
                  refine k_iload_n C dX10_readCondition_80 2 rfl ?_
                  obtain ⟨gz, h⟩ := k_gd_e h
                  exact k_zret C dX10_readCondition_81 hr (k_nz gz) (Option.some.inj h)
              obtain ⟨j63, ej63, h⟩ := k_jn_e h
              have Jj63 : j63 () = some (r, σ') → k_K (k_PX w) X (k_MQ X (k_Qi (k_PX w) r σ') (k_PX w).2.2.1) 63 [(0, .ref (w.2.1 7)), (1, .int x1), (4, .int v4_7)] [] s49 := by
                intro  h
                rw [ej63] at h
                refine k_iconst C dX10_readCondition_63 (v := 1) rfl ?_
                refine k_goto C dX10_readCondition_64 (tgt := 68) (by decide) ?_
                exact Jj68 _ h
              refine k_if_ne C dX10_readCondition_56 (tgt := 63) (by decide) (fun c56 => ?_) (fun c56 => ?_)
              · replace h := k_if_f h c56
                refine k_sub (L' := [(0, .ref (w.2.1 7)), (1, .int x1), (4, .int v4_7)]) [0, 1, 4] rfl ?_
                exact Jj63 h
              · replace h := k_if_t h c56
                refine k_iload_n C dX10_readCondition_59 3 rfl ?_
                refine k_if_eq C dX10_readCondition_60 (tgt := 67) (by decide) (fun c60 => ?_) (fun c60 => ?_)
                · replace h := k_if_t h c60
                  refine k_iconst C dX10_readCondition_67 (v := 0) rfl ?_
                  refine k_sub (L' := [(0, .ref (w.2.1 7)), (1, .int x1), (4, .int v4_7)]) [0, 1, 4] rfl ?_
                  exact Jj68 _ h
                · replace h := k_if_f h c60
                  refine k_sub (L' := [(0, .ref (w.2.1 7)), (1, .int x1), (4, .int v4_7)]) [0, 1, 4] rfl ?_
                  exact Jj63 h
          · replace h := k_if_f h c41
            refine k_iconst C dX10_readCondition_44 (v := 0) rfl ?_
            exact k_zret C dX10_readCondition_45 hr rfl (Option.some.inj h)
        obtain ⟨j35, ej35, h⟩ := k_jn_e h
        have Jj35 : j35 () = some (r, σ') → k_K (k_PX w) X (k_MQ X (k_Qi (k_PX w) r σ') (k_PX w).2.2.1) 35 [(0, .ref (w.2.1 7)), (1, .int x1), (2, .int v2_7), (4, .int v4_7)] [] s17 := by
          intro  h
          rw [ej35] at h
          refine k_iconst C dX10_readCondition_35 (v := 0) rfl ?_
          exact Jj36 _ h
        refine k_if_eq C dX10_readCondition_23 (tgt := 35) (by decide) (fun c23 => ?_) (fun c23 => ?_)
        · replace h := k_if_t h c23
          refine k_sub (L' := [(0, .ref (w.2.1 7)), (1, .int x1), (2, .int v2_7), (4, .int v4_7)]) [0, 1, 2, 4] rfl ?_
          exact Jj35 h
        · replace h := k_if_f h c23
          refine k_iload C dX10_readCondition_26 5 rfl ?_
          refine k_if_eq C dX10_readCondition_28 (tgt := 35) (by decide) (fun c28 => ?_) (fun c28 => ?_)
          · replace h := k_if_t h c28
            refine k_sub (L' := [(0, .ref (w.2.1 7)), (1, .int x1), (2, .int v2_7), (4, .int v4_7)]) [0, 1, 2, 4] rfl ?_
            exact Jj35 h
          · replace h := k_if_f h c28
            refine k_iconst C dX10_readCondition_31 (v := 1) rfl ?_
            refine k_goto C dX10_readCondition_32 (tgt := 36) (by decide) ?_
            refine k_sub (L' := [(0, .ref (w.2.1 7)), (1, .int x1), (2, .int v2_7), (4, .int v4_7)]) [0, 1, 2, 4] rfl ?_
            exact Jj36 _ h
  exact K7 _ _ _ _ _ h
def b_X10_readUnit (p_readCondition : Int32 → k_St → Option (Int32 × k_St)) (p_readUnit : Int32 → k_St → Option (Int32 × k_St)) (x1 : Int32) (σ : k_St) : Option (Int32 × k_St) :=
  k_jn (fun (s_31 : k_St) =>
    k_jn (fun (s_62 : k_St) =>
      k_b2 (f_X10_readSum 20 x1 s_62) fun v64 s64 =>
      k_b2 (f_X3_next 7 s64) fun v69 s69 =>
      k_bd (f_X3_failed 7 s69) fun v74 =>
      k_jn (fun (_ : Unit) =>
        k_bd (f_X3_fail 7 s69) fun s88 =>
        some ((0 : Int32), s88)) fun j87 =>
      k_if (v74 = (0 : Int32))
        (k_bd (f_X10_isComparison v69) fun v81 =>
        k_if (v81 = (0 : Int32))
          (j87 ())
          (k_bd (f_X3_pass 7 s69) fun s94 =>
          k_b2 (f_X10_readSum 20 x1 s94) fun v99 s99 =>
          k_if (v69 = (61 : Int32))
            (k_if (v64 = v99)
              (some ((1 : Int32), s99))
              (some ((0 : Int32), s99)))
            (k_if (v69 = (60 : Int32))
              (k_if (v99 ≤ v64)
                (some ((0 : Int32), s99))
                (some ((1 : Int32), s99)))
              (k_if (v64 ≤ v99)
                (some ((0 : Int32), s99))
                (some ((1 : Int32), s99))))))
        (j87 ())) fun j62 =>
    k_if ((6 : Int32) ≤ x1)
      (j62 s_31)
      (k_b2 (f_X3_take 7 (40 : Int32) s_31) fun v40 s40 =>
      k_if (v40 = (0 : Int32))
        (j62 s40)
        (k_b2 (p_readCondition (x1 + (1 : Int32)) s40) fun v50 s50 =>
        k_bd (f_X3_need 7 (41 : Int32) s50) fun s57 =>
        k_gd (o_isB v50 = true) <|
        some (v50, s57)))) fun j31 =>
  k_if ((6 : Int32) ≤ x1)
    (j31 σ)
    (k_b2 (f_X3_take 7 (33 : Int32) σ) fun v9 s9 =>
    k_if (v9 = (0 : Int32))
      (j31 s9)
      (k_b2 (p_readUnit (x1 + (1 : Int32)) s9) fun v19 s19 =>
      k_if (v19 = (0 : Int32))
        (some ((1 : Int32), s19))
        (some ((0 : Int32), s19))))
set_option maxHeartbeats 4000000 in
set_option maxRecDepth 100000 in
theorem eb_X10_readUnit {p_readCondition : Int32 → k_St → Option (Int32 × k_St)} {p_readUnit : Int32 → k_St → Option (Int32 × k_St)} {d0 : Nat} (H_readCondition : ∀ {l : Launch} {w : k_WC} {d : Nat} (_ : d0 ≤ d) {x1 : Int32} {σ σ' : k_St} {r : Int32} (_ : p_readCondition x1 σ = some (r, σ')), k_EI l (k_PX w) yX10_readCondition cX10_readCondition 6 (some .boolean) d [.ref (w.2.1 7), .int x1] σ r σ') (H_readUnit : ∀ {l : Launch} {w : k_WC} {d : Nat} (_ : d0 ≤ d) {x1 : Int32} {σ σ' : k_St} {r : Int32} (_ : p_readUnit x1 σ = some (r, σ')), k_EI l (k_PX w) yX10_readUnit cX10_readUnit 5 (some .boolean) d [.ref (w.2.1 7), .int x1] σ r σ') {l : Launch} {w : k_WC} {d : Nat} (hb : 67 ≤ d0) (hd : d0 < d) {x1 : Int32}  {σ σ' : k_St} {r : Int32} (h : b_X10_readUnit p_readCondition p_readUnit x1 σ = some (r, σ')) : k_EI l (k_PX w) yX10_readUnit cX10_readUnit 5 (some .boolean) d [.ref (w.2.1 7), .int x1] σ r σ' := by
  refine k_of (own := RX10) rfl (by decide) (Nat.le_of_ble_eq_true rfl) (fun X hX C hr => ?_)
  show k_K (k_PX w) X (k_MQ X (k_Qi (k_PX w) r σ') (k_PX w).2.2.1) 0 [(0, .ref (w.2.1 7)), (1, .int x1)] [] σ
  unfold b_X10_readUnit at h
  refine k_iload_n C dX10_readUnit_0 1 rfl ?_
  refine k_bipush C dX10_readUnit_1 (v := 6) rfl ?_
  obtain ⟨j31, ej31, h⟩ := k_jn_e h
  have Jj31 : ∀ (s_31 : k_St), j31 s_31 = some (r, σ') → k_K (k_PX w) X (k_MQ X (k_Qi (k_PX w) r σ') (k_PX w).2.2.1) 31 [(0, .ref (w.2.1 7)), (1, .int x1)] [] s_31 := by
    intro s_31 h
    rw [ej31] at h
    refine k_iload_n C dX10_readUnit_31 1 rfl ?_
    refine k_bipush C dX10_readUnit_32 (v := 6) rfl ?_
    obtain ⟨j62, ej62, h⟩ := k_jn_e h
    have Jj62 : ∀ (s_62 : k_St), j62 s_62 = some (r, σ') → k_K (k_PX w) X (k_MQ X (k_Qi (k_PX w) r σ') (k_PX w).2.2.1) 62 [(0, .ref (w.2.1 7)), (1, .int x1)] [] s_62 := by
      intro s_62 h
      rw [ej62] at h
      refine k_aload_n C dX10_readUnit_62 0 rfl ?_
      refine k_iload_n C dX10_readUnit_63 1 rfl ?_
      obtain ⟨v64, s64, h64, h⟩ := k_b2_e h
      refine k_goI (k_runV C dX10_readUnit_64 (e_X10_readSum (d := 66) (Nat.le_refl _) h64) k_lX10_113 k_yX10_readSum (k_oX7 w) (by omega) rfl (Nat.le_of_ble_eq_true rfl)) ?_
      refine k_istore_n C dX10_readUnit_67 (by decide) [1, 2, 0] (L' := [(0, .ref (w.2.1 7)), (1, .int x1), (2, .int v64)]) rfl ?_
      refine k_aload_n C dX10_readUnit_68 0 rfl ?_
      obtain ⟨v69, s69, h69, h⟩ := k_b2_e h
      refine k_goI (k_runU C dX10_readUnit_69 (e_X3_next_7 (d := 2) (Nat.le_refl _) h69) k_lX10_99 rfl k_yX3_next (k_oX7 w) (by omega) rfl (Nat.le_of_ble_eq_true rfl)) ?_
      refine k_istore_n C dX10_readUnit_72 (by decide) [1, 2, 3, 0] (L' := [(0, .ref (w.2.1 7)), (1, .int x1), (2, .int v64), (3, .int v69)]) rfl ?_
      refine k_aload_n C dX10_readUnit_73 0 rfl ?_
      obtain ⟨v74, h74, h⟩ := k_bd_e h
      refine k_goI (k_runU C dX10_readUnit_74 (e_X3_failed_7 (d := 2) (Nat.le_refl _) h74) k_lX10_95 rfl k_yX3_failed (k_oX7 w) (by omega) rfl (Nat.le_of_ble_eq_true rfl)) ?_
      obtain ⟨j87, ej87, h⟩ := k_jn_e h
      have Jj87 : j87 () = some (r, σ') → k_K (k_PX w) X (k_MQ X (k_Qi (k_PX w) r σ') (k_PX w).2.2.1) 87 [(0, .ref (w.2.1 7))] [] s69 := by
        intro  h
        rw [ej87] at h
        refine k_aload_n C dX10_readUnit_87 0 rfl ?_
        obtain ⟨s88, h88, h⟩ := k_bd_e h
        refine k_goV (k_runU C dX10_readUnit_88 (e_X3_fail_7 (d := 3) (Nat.le_refl _) h88) k_lX10_132 rfl k_yX3_fail (k_oX7 w) (by omega) rfl (Nat.le_of_ble_eq_true rfl)) ?_
        refine k_iconst C dX10_readUnit_91 (v := 0) rfl ?_
        exact k_zret C dX10_readUnit_92 hr rfl (Option.some.inj h)
      refine k_if_ne C dX10_readUnit_77 (tgt := 87) (by decide) (fun c77 => ?_) (fun c77 => ?_)
      · replace h := k_if_f h c77
        refine k_sub (L' := [(0, .ref (w.2.1 7))]) [0] rfl ?_
        exact Jj87 h
      · replace h := k_if_t h c77
        refine k_iload_n C dX10_readUnit_80 3 rfl ?_
        obtain ⟨v81, h81, h⟩ := k_bd_e h
        refine k_goI (k_runS C dX10_readUnit_81 (e_X10_isComparison (d := 2) (Nat.le_refl _) h81) k_lX10_120 k_yX10_isComparison (by omega) rfl (Nat.le_of_ble_eq_true rfl)) ?_
        refine k_if_ne C dX10_readUnit_84 (tgt := 93) (by decide) (fun c84 => ?_) (fun c84 => ?_)
        · replace h := k_if_f h c84
          refine k_aload_n C dX10_readUnit_93 0 rfl ?_
          obtain ⟨s94, h94, h⟩ := k_bd_e h
          refine k_goV (k_runU C dX10_readUnit_94 (e_X3_pass_7 (d := 2) (Nat.le_refl _) h94) k_lX10_135 rfl k_yX3_pass (k_oX7 w) (by omega) rfl (Nat.le_of_ble_eq_true rfl)) ?_
          refine k_aload_n C dX10_readUnit_97 0 rfl ?_
          refine k_iload_n C dX10_readUnit_98 1 rfl ?_
          obtain ⟨v99, s99, h99, h⟩ := k_b2_e h
          refine k_goI (k_runV C dX10_readUnit_99 (e_X10_readSum (d := 66) (Nat.le_refl _) h99) k_lX10_113 k_yX10_readSum (k_oX7 w) (by omega) rfl (Nat.le_of_ble_eq_true rfl)) ?_
          refine k_istore C dX10_readUnit_102 (by decide) [1, 2, 3, 4, 0] (L' := [(0, .ref (w.2.1 7)), (1, .int x1), (2, .int v64), (3, .int v69), (4, .int v99)]) rfl ?_
          refine k_iload_n C dX10_readUnit_104 3 rfl ?_
          refine k_bipush C dX10_readUnit_105 (v := 61) rfl ?_
          refine k_icmp_ne C dX10_readUnit_107 (tgt := 122) (by decide) (fun c107 => ?_) (fun c107 => ?_)
          · replace h := k_if_f h c107
            refine k_iload_n C dX10_readUnit_122 3 rfl ?_
            refine k_bipush C dX10_readUnit_123 (v := 60) rfl ?_
            refine k_icmp_ne C dX10_readUnit_125 (tgt := 142) (by decide) (fun c125 => ?_) (fun c125 => ?_)
            · replace h := k_if_f h c125
              refine k_iload_n C dX10_readUnit_142 2 rfl ?_
              refine k_iload C dX10_readUnit_143 4 rfl ?_
              refine k_icmp_le C dX10_readUnit_145 (tgt := 152) (by decide) (fun c145 => ?_) (fun c145 => ?_)
              · replace h := k_if_t h c145
                refine k_iconst C dX10_readUnit_152 (v := 0) rfl ?_
                exact k_zret C dX10_readUnit_153 hr rfl (Option.some.inj h)
              · replace h := k_if_f h c145
                refine k_iconst C dX10_readUnit_148 (v := 1) rfl ?_
                refine k_goto C dX10_readUnit_149 (tgt := 153) (by decide) ?_
                exact k_zret C dX10_readUnit_153 hr rfl (Option.some.inj h)
            · replace h := k_if_t h c125
              refine k_iload_n C dX10_readUnit_128 2 rfl ?_
              refine k_iload C dX10_readUnit_129 4 rfl ?_
              refine k_icmp_ge C dX10_readUnit_131 (tgt := 138) (by decide) (fun c131 => ?_) (fun c131 => ?_)
              · replace h := k_if_t h c131
                refine k_iconst C dX10_readUnit_138 (v := 0) rfl ?_
                refine k_goto C dX10_readUnit_139 (tgt := 153) (by decide) ?_
                exact k_zret C dX10_readUnit_153 hr rfl (Option.some.inj h)
              · replace h := k_if_f h c131
                refine k_iconst C dX10_readUnit_134 (v := 1) rfl ?_
                refine k_goto C dX10_readUnit_135 (tgt := 153) (by decide) ?_
                exact k_zret C dX10_readUnit_153 hr rfl (Option.some.inj h)
          · replace h := k_if_t h c107
            refine k_iload_n C dX10_readUnit_110 2 rfl ?_
            refine k_iload C dX10_readUnit_111 4 rfl ?_
            refine k_icmp_ne C dX10_readUnit_113 (tgt := 120) (by decide) (fun c113 => ?_) (fun c113 => ?_)
            · replace h := k_if_f h c113
              refine k_iconst C dX10_readUnit_120 (v := 0) rfl ?_
              exact k_zret C dX10_readUnit_121 hr rfl (Option.some.inj h)
            · replace h := k_if_t h c113
              refine k_iconst C dX10_readUnit_116 (v := 1) rfl ?_
              refine k_goto C dX10_readUnit_117 (tgt := 121) (by decide) ?_
              exact k_zret C dX10_readUnit_121 hr rfl (Option.some.inj h)
        · replace h := k_if_t h c84
          refine k_sub (L' := [(0, .ref (w.2.1 7))]) [0] rfl ?_
          exact Jj87 h
    refine k_icmp_ge C dX10_readUnit_34 (tgt := 62) (by decide) (fun c34 => ?_) (fun c34 => ?_)
    · replace h := k_if_t h c34
      exact Jj62 _ h
    · replace h := k_if_f h c34
      refine k_aload_n C dX10_readUnit_37 0 rfl ?_
      refine k_bipush C dX10_readUnit_38 (v := 40) rfl ?_
      obtain ⟨v40, s40, h40, h⟩ := k_b2_e h
      refine k_goI (k_runU C dX10_readUnit_40 (e_X3_take_7 (d := 3) (Nat.le_refl _) h40) k_lX10_129 rfl k_yX3_take (k_oX7 w) (by omega) rfl (Nat.le_of_ble_eq_true rfl)) ?_
      refine k_if_eq C dX10_readUnit_43 (tgt := 62) (by decide) (fun c43 => ?_) (fun c43 => ?_)
      · replace h := k_if_t h c43
        exact Jj62 _ h
      · replace h := k_if_f h c43
        refine k_aload_n C dX10_readUnit_46 0 rfl ?_
        refine k_iload_n C dX10_readUnit_47 1 rfl ?_
        refine k_iconst C dX10_readUnit_48 (v := 1) rfl ?_
        refine k_iadd C dX10_readUnit_49 ?_
        obtain ⟨v50, s50, h50, h⟩ := k_b2_e h
        refine k_goI (k_runV C dX10_readUnit_50 (H_readCondition (d := d0) (Nat.le_refl _) h50) k_lX10_109 k_yX10_readCondition (k_oX7 w) (by omega) rfl (Nat.le_of_ble_eq_true rfl)) ?_
        refine k_istore_n C dX10_readUnit_53 (by decide) [1, 2, 0] (L' := [(0, .ref (w.2.1 7)), (1, .int x1), (2, .int v50)]) rfl ?_
        refine k_aload_n C dX10_readUnit_54 0 rfl ?_
        refine k_bipush C dX10_readUnit_55 (v := 41) rfl ?_
        obtain ⟨s57, h57, h⟩ := k_bd_e h
        refine k_goV (k_runU C dX10_readUnit_57 (e_X3_need_7 (d := 3) (Nat.le_refl _) h57) k_lX10_102 rfl k_yX3_need (k_oX7 w) (by omega) rfl (Nat.le_of_ble_eq_true rfl)) ?_
        refine k_iload_n C dX10_readUnit_60 2 rfl ?_
        obtain ⟨gz, h⟩ := k_gd_e h
        exact k_zret C dX10_readUnit_61 hr (k_nz gz) (Option.some.inj h)
  refine k_icmp_ge C dX10_readUnit_3 (tgt := 31) (by decide) (fun c3 => ?_) (fun c3 => ?_)
  · replace h := k_if_t h c3
    exact Jj31 _ h
  · replace h := k_if_f h c3
    refine k_aload_n C dX10_readUnit_6 0 rfl ?_
    refine k_bipush C dX10_readUnit_7 (v := 33) rfl ?_
    obtain ⟨v9, s9, h9, h⟩ := k_b2_e h
    refine k_goI (k_runU C dX10_readUnit_9 (e_X3_take_7 (d := 3) (Nat.le_refl _) h9) k_lX10_129 rfl k_yX3_take (k_oX7 w) (by omega) rfl (Nat.le_of_ble_eq_true rfl)) ?_
    refine k_if_eq C dX10_readUnit_12 (tgt := 31) (by decide) (fun c12 => ?_) (fun c12 => ?_)
    · replace h := k_if_t h c12
      exact Jj31 _ h
    · replace h := k_if_f h c12
      refine k_aload_n C dX10_readUnit_15 0 rfl ?_
      refine k_iload_n C dX10_readUnit_16 1 rfl ?_
      refine k_iconst C dX10_readUnit_17 (v := 1) rfl ?_
      refine k_iadd C dX10_readUnit_18 ?_
      obtain ⟨v19, s19, h19, h⟩ := k_b2_e h
      refine k_goI (k_runV C dX10_readUnit_19 (H_readUnit (d := d0) (Nat.le_refl _) h19) k_lX10_126 k_yX10_readUnit (k_oX7 w) (by omega) rfl (Nat.le_of_ble_eq_true rfl)) ?_
      refine k_if_ne C dX10_readUnit_22 (tgt := 29) (by decide) (fun c22 => ?_) (fun c22 => ?_)
      · replace h := k_if_f h c22
        refine k_iconst C dX10_readUnit_29 (v := 0) rfl ?_
        exact k_zret C dX10_readUnit_30 hr rfl (Option.some.inj h)
      · replace h := k_if_t h c22
        refine k_iconst C dX10_readUnit_25 (v := 1) rfl ?_
        refine k_goto C dX10_readUnit_26 (tgt := 30) (by decide) ?_
        exact k_zret C dX10_readUnit_30 hr rfl (Option.some.inj h)
def f_X10_readUnit : Nat → Int32 → k_St → Option (Int32 × k_St)
  | 0 => fun _ _ => none
  | n + 1 => b_X10_readUnit (b_X10_readCondition (f_X10_readUnit n)) (f_X10_readUnit n)
def f_X10_readCondition (n : Nat) : Int32 → k_St → Option (Int32 × k_St) := (b_X10_readCondition (f_X10_readUnit n))
theorem e_X10_readUnit_all : ∀ n : Nat, ∀ {l : Launch} {w : k_WC} {d : Nat} (_ : 67 + 2 * n ≤ d) {x1 : Int32} {σ σ' : k_St} {r : Int32} (_ : f_X10_readUnit n x1 σ = some (r, σ')), k_EI l (k_PX w) yX10_readUnit cX10_readUnit 5 (some .boolean) d [.ref (w.2.1 7), .int x1] σ r σ'
  | 0 => fun _ => by
    intros; rename_i h; cases h
  | n + 1 => by
    have ih := @e_X10_readUnit_all n
    have E_readCondition : ∀ {l : Launch} {w : k_WC} {d : Nat} (_ : 67 + 2 * n + 1 ≤ d) {x1 : Int32} {σ σ' : k_St} {r : Int32} (_ : (b_X10_readCondition (f_X10_readUnit n)) x1 σ = some (r, σ')), k_EI l (k_PX w) yX10_readCondition cX10_readCondition 6 (some .boolean) d [.ref (w.2.1 7), .int x1] σ r σ' := fun hd => fun h => eb_X10_readCondition (d0 := 67 + 2 * n + 0) (fun hd => fun h => ih (by omega) h) (by omega) (by omega) h
    exact fun hd => fun h => eb_X10_readUnit (d0 := 67 + 2 * n + 1) (fun hd => fun h => E_readCondition (by omega) h) (fun hd => fun h => ih (by omega) h) (by omega) (by omega) h
theorem e_X10_readUnit : ∀ {l : Launch} {w : k_WC} {d : Nat} (_ : 107 ≤ d) {x1 : Int32} {σ σ' : k_St} {r : Int32} (_ : f_X10_readUnit 20 x1 σ = some (r, σ')), k_EI l (k_PX w) yX10_readUnit cX10_readUnit 5 (some .boolean) d [.ref (w.2.1 7), .int x1] σ r σ' := fun hd => fun h => e_X10_readUnit_all 20 (by omega) h
theorem e_X10_readCondition : ∀ {l : Launch} {w : k_WC} {d : Nat} (_ : 108 ≤ d) {x1 : Int32} {σ σ' : k_St} {r : Int32} (_ : f_X10_readCondition 20 x1 σ = some (r, σ')), k_EI l (k_PX w) yX10_readCondition cX10_readCondition 6 (some .boolean) d [.ref (w.2.1 7), .int x1] σ r σ' := fun hd => fun h => eb_X10_readCondition (d0 := 107) (fun hd => fun h => e_X10_readUnit_all 20 (by omega) h) (by omega) (by omega) h
def f_X10_readClause  (σ : k_St) : Option (k_St) :=
  k_bd (f_X3_need 7 (121 : Int32) σ) fun s3 =>
  k_bd (f_X3_need 7 (58 : Int32) s3) fun s9 =>
  k_bd (f_X3_failed 7 s9) fun v13 =>
  k_if (v13 = (0 : Int32))
    (k_b2 (f_X10_hasCondition s9) fun v23 s23 =>
    k_jn (fun (v1_41 : Int32) (s_41 : k_St) =>
      k_bd (f_X3_failed 7 s_41) fun v42 =>
      k_jn (fun (t0_57 : Int32) (s_57 : k_St) =>
        k_if (v1_41 = (0 : Int32))
          (some s_57)
          (k_if ((k_rd s_57 7 9) = (0 : Int32))
            (k_nm (k_wr s_57 7 9 (1 : Int32)) fun s71 =>
            k_nm (k_wr s71 7 10 t0_57) fun s76 =>
            some s76)
            (some s_57))) fun j57 =>
      k_if (v42 = (0 : Int32))
        (k_b2 (f_X10_readSum 20 (0 : Int32) s_41) fun v54 s54 =>
        j57 v54 s54)
        (j57 (0 : Int32) s_41)) fun j41 =>
    k_if (v23 = (0 : Int32))
      (j41 (1 : Int32) s23)
      (k_b2 (f_X10_readCondition 20 (0 : Int32) s23) fun v31 s31 =>
      k_bd (f_X3_need 7 (63 : Int32) s31) fun s38 =>
      j41 v31 s38))
    (some s9)
set_option maxHeartbeats 4000000 in
set_option maxRecDepth 100000 in
theorem e_X10_readClause {l : Launch} {w : k_WC} {d : Nat} (hd : 109 ≤ d)   {σ σ' : k_St} (h : f_X10_readClause σ = some σ') : k_EV l (k_PX w) yX10_readClause cX10_readClause 3 d [.ref (w.2.1 7)] σ σ' := by
  refine k_of (own := RX10) rfl (by decide) (Nat.le_of_ble_eq_true rfl) (fun X hX C hr => ?_)
  show k_K (k_PX w) X (k_MQ X (k_Qv (k_PX w) σ') (k_PX w).2.2.1) 0 [(0, .ref (w.2.1 7))] [] σ
  unfold f_X10_readClause at h
  refine k_aload_n C dX10_readClause_0 0 rfl ?_
  refine k_bipush C dX10_readClause_1 (v := 121) rfl ?_
  obtain ⟨s3, h3, h⟩ := k_bd_e h
  refine k_goV (k_runU C dX10_readClause_3 (e_X3_need_7 (d := 3) (Nat.le_refl _) h3) k_lX10_102 rfl k_yX3_need (k_oX7 w) (by omega) rfl (Nat.le_of_ble_eq_true rfl)) ?_
  refine k_aload_n C dX10_readClause_6 0 rfl ?_
  refine k_bipush C dX10_readClause_7 (v := 58) rfl ?_
  obtain ⟨s9, h9, h⟩ := k_bd_e h
  refine k_goV (k_runU C dX10_readClause_9 (e_X3_need_7 (d := 3) (Nat.le_refl _) h9) k_lX10_102 rfl k_yX3_need (k_oX7 w) (by omega) rfl (Nat.le_of_ble_eq_true rfl)) ?_
  refine k_aload_n C dX10_readClause_12 0 rfl ?_
  obtain ⟨v13, h13, h⟩ := k_bd_e h
  refine k_goI (k_runU C dX10_readClause_13 (e_X3_failed_7 (d := 2) (Nat.le_refl _) h13) k_lX10_95 rfl k_yX3_failed (k_oX7 w) (by omega) rfl (Nat.le_of_ble_eq_true rfl)) ?_
  refine k_if_eq C dX10_readClause_16 (tgt := 20) (by decide) (fun c16 => ?_) (fun c16 => ?_)
  · replace h := k_if_t h c16
    refine k_iconst C dX10_readClause_20 (v := 1) rfl ?_
    refine k_istore_n C dX10_readClause_21 (by decide) [1, 0] (L' := [(0, .ref (w.2.1 7)), (1, .int (1 : Int32))]) rfl ?_
    refine k_aload_n C dX10_readClause_22 0 rfl ?_
    obtain ⟨v23, s23, h23, h⟩ := k_b2_e h
    refine k_goI (k_runV C dX10_readClause_23 (e_X10_hasCondition (d := 67) (Nat.le_refl _) h23) k_lX10_106 k_yX10_hasCondition (k_oX7 w) (by omega) rfl (Nat.le_of_ble_eq_true rfl)) ?_
    obtain ⟨j41, ej41, h⟩ := k_jn_e h
    have Jj41 : ∀ (v1_41 : Int32) (s_41 : k_St), j41 v1_41 s_41 = some σ' → k_K (k_PX w) X (k_MQ X (k_Qv (k_PX w) σ') (k_PX w).2.2.1) 41 [(0, .ref (w.2.1 7)), (1, .int v1_41)] [] s_41 := by
      intro v1_41 s_41 h
      rw [ej41] at h
      refine k_aload_n C dX10_readClause_41 0 rfl ?_
      obtain ⟨v42, h42, h⟩ := k_bd_e h
      refine k_goI (k_runU C dX10_readClause_42 (e_X3_failed_7 (d := 2) (Nat.le_refl _) h42) k_lX10_95 rfl k_yX3_failed (k_oX7 w) (by omega) rfl (Nat.le_of_ble_eq_true rfl)) ?_
      obtain ⟨j57, ej57, h⟩ := k_jn_e h
      have Jj57 : ∀ (t0_57 : Int32) (s_57 : k_St), j57 t0_57 s_57 = some σ' → k_K (k_PX w) X (k_MQ X (k_Qv (k_PX w) σ') (k_PX w).2.2.1) 57 [(0, .ref (w.2.1 7)), (1, .int v1_41)] [.int t0_57] s_57 := by
        intro t0_57 s_57 h
        rw [ej57] at h
        refine k_istore_n C dX10_readClause_57 (by decide) [1, 2, 0] (L' := [(0, .ref (w.2.1 7)), (1, .int v1_41), (2, .int t0_57)]) rfl ?_
        refine k_iload_n C dX10_readClause_58 1 rfl ?_
        refine k_if_eq C dX10_readClause_59 (tgt := 79) (by decide) (fun c59 => ?_) (fun c59 => ?_)
        · replace h := k_if_t h c59
          exact k_vret C dX10_readClause_79 hr (Option.some.inj h)
        · replace h := k_if_f h c59
          refine k_aload_n C dX10_readClause_62 0 rfl ?_
          refine k_get C dX10_readClause_63 (k_gX7_9 w) k_fX10_28 (Or.inl rfl) ?_
          refine k_if_ne C dX10_readClause_66 (tgt := 79) (by decide) (fun c66 => ?_) (fun c66 => ?_)
          · replace h := k_if_f h c66
            exact k_vret C dX10_readClause_79 hr (Option.some.inj h)
          · replace h := k_if_t h c66
            refine k_aload_n C dX10_readClause_69 0 rfl ?_
            refine k_iconst C dX10_readClause_70 (v := 1) rfl ?_
            refine k_puti C dX10_readClause_71 (k_pX7_9 w) k_fX10_28 (Or.inl rfl) (k_xz rfl) ?_
            refine k_st (fun s71 es71 => ?_)
            replace h := k_nm_e h s71 es71
            refine k_aload_n C dX10_readClause_74 0 rfl ?_
            refine k_iload_n C dX10_readClause_75 2 rfl ?_
            refine k_puti C dX10_readClause_76 (k_pX7_10 w) k_fX10_32 (Or.inl rfl) k_xi ?_
            refine k_st (fun s76 es76 => ?_)
            replace h := k_nm_e h s76 es76
            exact k_vret C dX10_readClause_79 hr (Option.some.inj h)
      refine k_if_eq C dX10_readClause_45 (tgt := 52) (by decide) (fun c45 => ?_) (fun c45 => ?_)
      · replace h := k_if_t h c45
        refine k_aload_n C dX10_readClause_52 0 rfl ?_
        refine k_iconst C dX10_readClause_53 (v := 0) rfl ?_
        obtain ⟨v54, s54, h54, h⟩ := k_b2_e h
        refine k_goI (k_runV C dX10_readClause_54 (e_X10_readSum (d := 66) (Nat.le_refl _) h54) k_lX10_113 k_yX10_readSum (k_oX7 w) (by omega) rfl (Nat.le_of_ble_eq_true rfl)) ?_
        exact Jj57 _ _ h
      · replace h := k_if_f h c45
        refine k_iconst C dX10_readClause_48 (v := 0) rfl ?_
        refine k_goto C dX10_readClause_49 (tgt := 57) (by decide) ?_
        exact Jj57 _ _ h
    refine k_if_eq C dX10_readClause_26 (tgt := 41) (by decide) (fun c26 => ?_) (fun c26 => ?_)
    · replace h := k_if_t h c26
      exact Jj41 _ _ h
    · replace h := k_if_f h c26
      refine k_aload_n C dX10_readClause_29 0 rfl ?_
      refine k_iconst C dX10_readClause_30 (v := 0) rfl ?_
      obtain ⟨v31, s31, h31, h⟩ := k_b2_e h
      refine k_goI (k_runV C dX10_readClause_31 (e_X10_readCondition (d := 108) (Nat.le_refl _) h31) k_lX10_109 k_yX10_readCondition (k_oX7 w) (by omega) rfl (Nat.le_of_ble_eq_true rfl)) ?_
      refine k_istore_n C dX10_readClause_34 (by decide) [1, 0] (L' := [(0, .ref (w.2.1 7)), (1, .int v31)]) rfl ?_
      refine k_aload_n C dX10_readClause_35 0 rfl ?_
      refine k_bipush C dX10_readClause_36 (v := 63) rfl ?_
      obtain ⟨s38, h38, h⟩ := k_bd_e h
      refine k_goV (k_runU C dX10_readClause_38 (e_X3_need_7 (d := 3) (Nat.le_refl _) h38) k_lX10_102 rfl k_yX3_need (k_oX7 w) (by omega) rfl (Nat.le_of_ble_eq_true rfl)) ?_
      exact Jj41 _ _ h
  · replace h := k_if_f h c16
    exact k_vret C dX10_readClause_19 hr (Option.some.inj h)
def f_X10_readClauses  (σ : k_St) : Option (k_St) :=
  k_nm (k_wr σ 7 9 (0 : Int32)) fun s2 =>
  k_nm (k_wr s2 7 10 (0 : Int32)) fun s7 =>
  k_loop (fun (g12 : Int32 × k_St → Option (k_St)) (z12 : Int32 × k_St) => match z12 with
    | (v1_12, s_12) =>
      k_if ((160 : Int32) < v1_12)
        (some s_12)
        (k_bd (f_X10_readClause s_12) fun s20 =>
        k_bd (f_X3_failed 7 s20) fun v24 =>
        k_if (v24 = (0 : Int32))
          (k_b2 (f_X3_next 7 s20) fun v31 s31 =>
          k_if (v31 = (-2 : Int32))
            (some s31)
            (k_bd (f_X3_need 7 (59 : Int32) s31) fun s43 =>
            k_nm (v1_12 + (1 : Int32)) fun y46 =>
            g12 (y46, s43)))
          (some s20))) 100000 ((0 : Int32), s7)
set_option maxHeartbeats 4000000 in
set_option maxRecDepth 100000 in
theorem e_X10_readClauses {l : Launch} {w : k_WC} {d : Nat} (hd : 110 ≤ d)   {σ σ' : k_St} (h : f_X10_readClauses σ = some σ') : k_EV l (k_PX w) yX10_readClauses cX10_readClauses 2 d [.ref (w.2.1 7)] σ σ' := by
  refine k_of (own := RX10) rfl (by decide) (Nat.le_of_ble_eq_true rfl) (fun X hX C hr => ?_)
  show k_K (k_PX w) X (k_MQ X (k_Qv (k_PX w) σ') (k_PX w).2.2.1) 0 [(0, .ref (w.2.1 7))] [] σ
  unfold f_X10_readClauses at h
  refine k_aload_n C dX10_readClauses_0 0 rfl ?_
  refine k_iconst C dX10_readClauses_1 (v := 0) rfl ?_
  refine k_puti C dX10_readClauses_2 (k_pX7_9 w) k_fX10_28 (Or.inl rfl) (k_xz rfl) ?_
  refine k_st (fun s2 es2 => ?_)
  replace h := k_nm_e h s2 es2
  refine k_aload_n C dX10_readClauses_5 0 rfl ?_
  refine k_iconst C dX10_readClauses_6 (v := 0) rfl ?_
  refine k_puti C dX10_readClauses_7 (k_pX7_10 w) k_fX10_32 (Or.inl rfl) k_xi ?_
  refine k_st (fun s7 es7 => ?_)
  replace h := k_nm_e h s7 es7
  refine k_iconst C dX10_readClauses_10 (v := 0) rfl ?_
  refine k_istore_n C dX10_readClauses_11 (by decide) [1, 0] (L' := [(0, .ref (w.2.1 7)), (1, .int (0 : Int32))]) rfl ?_
  obtain ⟨b12, eb12, h⟩ := k_lp_e h
  have K12 : ∀ (n : Nat) (v1_12 : Int32) (s_12 : k_St), k_loop b12 n (v1_12, s_12) = some σ' → k_K (k_PX w) X (k_MQ X (k_Qv (k_PX w) σ') (k_PX w).2.2.1) 12 [(0, .ref (w.2.1 7)), (1, .int v1_12)] [] s_12 := by
    intro n
    induction n with
    | zero => intro v1_12 s_12 h; cases h
    | succ n ih12 =>
      intro v1_12 s_12 h
      obtain ⟨g12, eg12, h⟩ := k_lp_s h
      rw [← eg12] at ih12
      rw [eb12] at h
      refine k_iload_n C dX10_readClauses_12 1 rfl ?_
      refine k_sipush C dX10_readClauses_13 (v := 160) rfl ?_
      refine k_icmp_gt C dX10_readClauses_16 (tgt := 52) (by decide) (fun c16 => ?_) (fun c16 => ?_)
      · replace h := k_if_t h c16
        exact k_vret C dX10_readClauses_52 hr (Option.some.inj h)
      · replace h := k_if_f h c16
        refine k_aload_n C dX10_readClauses_19 0 rfl ?_
        obtain ⟨s20, h20, h⟩ := k_bd_e h
        refine k_goV (k_runV C dX10_readClauses_20 (e_X10_readClause (d := 109) (Nat.le_refl _) h20) k_lX10_92 k_yX10_readClause (k_oX7 w) (by omega) rfl (Nat.le_of_ble_eq_true rfl)) ?_
        refine k_aload_n C dX10_readClauses_23 0 rfl ?_
        obtain ⟨v24, h24, h⟩ := k_bd_e h
        refine k_goI (k_runU C dX10_readClauses_24 (e_X3_failed_7 (d := 2) (Nat.le_refl _) h24) k_lX10_95 rfl k_yX3_failed (k_oX7 w) (by omega) rfl (Nat.le_of_ble_eq_true rfl)) ?_
        refine k_if_ne C dX10_readClauses_27 (tgt := 39) (by decide) (fun c27 => ?_) (fun c27 => ?_)
        · replace h := k_if_f h c27
          exact k_vret C dX10_readClauses_39 hr (Option.some.inj h)
        · replace h := k_if_t h c27
          refine k_aload_n C dX10_readClauses_30 0 rfl ?_
          obtain ⟨v31, s31, h31, h⟩ := k_b2_e h
          refine k_goI (k_runU C dX10_readClauses_31 (e_X3_next_7 (d := 2) (Nat.le_refl _) h31) k_lX10_99 rfl k_yX3_next (k_oX7 w) (by omega) rfl (Nat.le_of_ble_eq_true rfl)) ?_
          refine k_bipush C dX10_readClauses_34 (v := -2) rfl ?_
          refine k_icmp_ne C dX10_readClauses_36 (tgt := 40) (by decide) (fun c36 => ?_) (fun c36 => ?_)
          · replace h := k_if_f h c36
            refine k_aload_n C dX10_readClauses_40 0 rfl ?_
            refine k_bipush C dX10_readClauses_41 (v := 59) rfl ?_
            obtain ⟨s43, h43, h⟩ := k_bd_e h
            refine k_goV (k_runU C dX10_readClauses_43 (e_X3_need_7 (d := 3) (Nat.le_refl _) h43) k_lX10_102 rfl k_yX3_need (k_oX7 w) (by omega) rfl (Nat.le_of_ble_eq_true rfl)) ?_
            refine k_iinc C dX10_readClauses_46 1 rfl (v := 1) rfl (by decide) [1, 0] (L' := fun z9 => [(0, .ref (w.2.1 7)), (1, .int z9)]) (fun z9 => rfl) (fun y46 ey46 => ?_)
            replace h := k_nm_e h y46 ey46
            refine k_goto C dX10_readClauses_49 (tgt := 12) (by decide) ?_
            exact ih12 _ _ h
          · replace h := k_if_t h c36
            exact k_vret C dX10_readClauses_39 hr (Option.some.inj h)
  exact K12 _ _ _ h
def f_X10_faultOf  (σ : k_St) : Option (Int32 × k_St) :=
  k_bd (f_X3_load 7 2 (0 : Int32) (k_rd σ 1 1) σ) fun s10 =>
  k_bd (f_X10_readClauses s10) fun s14 =>
  k_bd (f_X3_faultFound 7 s14) fun v18 =>
  some (v18, s14)
set_option maxHeartbeats 4000000 in
set_option maxRecDepth 100000 in
theorem e_X10_faultOf {l : Launch} {w : k_WC} {d : Nat} (hd : 111 ≤ d)   {σ σ' : k_St} {r : Int32} (h : f_X10_faultOf σ = some (r, σ')) : k_EI l (k_PX w) yX10_faultOf cX10_faultOf 2 (some .int) d [.ref (w.2.1 7), .ref (w.2.1 1)] σ r σ' := by
  refine k_of (own := RX10) rfl (by decide) (Nat.le_of_ble_eq_true rfl) (fun X hX C hr => ?_)
  show k_K (k_PX w) X (k_MQ X (k_Qi (k_PX w) r σ') (k_PX w).2.2.1) 0 [(0, .ref (w.2.1 7)), (1, .ref (w.2.1 1))] [] σ
  unfold f_X10_faultOf at h
  refine k_aload_n C dX10_faultOf_0 0 rfl ?_
  refine k_aload_n C dX10_faultOf_1 1 rfl ?_
  refine k_get C dX10_faultOf_2 (k_gX1_0 w) k_fX10_35 (Or.inl rfl) ?_
  refine k_iconst C dX10_faultOf_5 (v := 0) rfl ?_
  refine k_aload_n C dX10_faultOf_6 1 rfl ?_
  refine k_get C dX10_faultOf_7 (k_gX1_1 w) k_fX10_40 (Or.inl rfl) ?_
  obtain ⟨s10, h10, h⟩ := k_bd_e h
  refine k_goV (k_runU C dX10_faultOf_10 (e_X3_load_7 (d := 3) (Nat.le_refl _) (k_aX2 w) h10) k_lX10_43 rfl k_yX3_load (k_oX7 w) (by omega) rfl (Nat.le_of_ble_eq_true rfl)) ?_
  refine k_aload_n C dX10_faultOf_13 0 rfl ?_
  obtain ⟨s14, h14, h⟩ := k_bd_e h
  refine k_goV (k_runV C dX10_faultOf_14 (e_X10_readClauses (d := 110) (Nat.le_refl _) h14) k_lX10_47 k_yX10_readClauses (k_oX7 w) (by omega) rfl (Nat.le_of_ble_eq_true rfl)) ?_
  refine k_aload_n C dX10_faultOf_17 0 rfl ?_
  obtain ⟨v18, h18, h⟩ := k_bd_e h
  refine k_goI (k_runU C dX10_faultOf_18 (e_X3_faultFound_7 (d := 2) (Nat.le_refl _) h18) k_lX10_50 rfl k_yX3_faultFound (k_oX7 w) (by omega) rfl (Nat.le_of_ble_eq_true rfl)) ?_
  exact k_iret C dX10_faultOf_21 hr (Option.some.inj h)
def f_X10_keep  (σ : k_St) : Option (k_St) :=
  k_bd (f_X11_within (k_rd σ 7 4) (0 : Int32) (3 : Int32)) fun v6 =>
  k_if (v6 = (0 : Int32))
    (some σ)
    (k_bd (f_X11_within (k_rd σ 1 1) (0 : Int32) (160 : Int32)) fun v20 =>
    k_if (v20 = (0 : Int32))
      (some σ)
      (k_gd (o_cp (0 : Int32) ((k_rd σ 7 4) * (160 : Int32)) (k_rd σ 1 1) 160 640 = true) <|
      k_nm (k_cpI σ 2 9 (0 : Int32) ((k_rd σ 7 4) * (160 : Int32)) (k_rd σ 1 1)) fun s47 =>
      k_gd (k_ix (k_rd s47 7 4) 4 = true) <|
      k_nm (k_wr s47 10 (k_rd s47 7 4).toNatClampNeg (k_rd s47 1 1)) fun s62 =>
      k_nm (k_wr s62 7 4 ((k_rd s62 7 4) + (1 : Int32))) fun s70 =>
      some s70))
set_option maxHeartbeats 4000000 in
set_option maxRecDepth 100000 in
theorem e_X10_keep {l : Launch} {w : k_WC} {d : Nat} (hd : 3 ≤ d)   {σ σ' : k_St} (h : f_X10_keep σ = some σ') : k_EV l (k_PX w) yX10_keep cX10_keep 2 d [.ref (w.2.1 7), .ref (w.2.1 1)] σ σ' := by
  refine k_of (own := RX10) rfl (by decide) (Nat.le_of_ble_eq_true rfl) (fun X hX C hr => ?_)
  show k_K (k_PX w) X (k_MQ X (k_Qv (k_PX w) σ') (k_PX w).2.2.1) 0 [(0, .ref (w.2.1 7)), (1, .ref (w.2.1 1))] [] σ
  unfold f_X10_keep at h
  refine k_aload_n C dX10_keep_0 0 rfl ?_
  refine k_get C dX10_keep_1 (k_gX7_4 w) k_fX10_9 (Or.inl rfl) ?_
  refine k_iconst C dX10_keep_4 (v := 0) rfl ?_
  refine k_iconst C dX10_keep_5 (v := 3) rfl ?_
  obtain ⟨v6, h6, h⟩ := k_bd_e h
  refine k_goI (k_runSN C dX10_keep_6 (e_X11_within (d := 2) (Nat.le_refl _) h6) k_lX10_54 k_yX11_within (by omega) rfl (Nat.le_of_ble_eq_true rfl)) ?_
  refine k_if_eq C dX10_keep_9 (tgt := 73) (by decide) (fun c9 => ?_) (fun c9 => ?_)
  · replace h := k_if_t h c9
    exact k_vret C dX10_keep_73 hr (Option.some.inj h)
  · replace h := k_if_f h c9
    refine k_aload_n C dX10_keep_12 1 rfl ?_
    refine k_get C dX10_keep_13 (k_gX1_1 w) k_fX10_40 (Or.inl rfl) ?_
    refine k_iconst C dX10_keep_16 (v := 0) rfl ?_
    refine k_sipush C dX10_keep_17 (v := 160) rfl ?_
    obtain ⟨v20, h20, h⟩ := k_bd_e h
    refine k_goI (k_runSN C dX10_keep_20 (e_X11_within (d := 2) (Nat.le_refl _) h20) k_lX10_54 k_yX11_within (by omega) rfl (Nat.le_of_ble_eq_true rfl)) ?_
    refine k_if_eq C dX10_keep_23 (tgt := 73) (by decide) (fun c23 => ?_) (fun c23 => ?_)
    · replace h := k_if_t h c23
      exact k_vret C dX10_keep_73 hr (Option.some.inj h)
    · replace h := k_if_f h c23
      refine k_aload_n C dX10_keep_26 1 rfl ?_
      refine k_get C dX10_keep_27 (k_gX1_0 w) k_fX10_35 (Or.inl rfl) ?_
      refine k_iconst C dX10_keep_30 (v := 0) rfl ?_
      refine k_aload_n C dX10_keep_31 0 rfl ?_
      refine k_get C dX10_keep_32 (k_gX7_6 w) k_fX10_18 (Or.inl rfl) ?_
      refine k_aload_n C dX10_keep_35 0 rfl ?_
      refine k_get C dX10_keep_36 (k_gX7_4 w) k_fX10_9 (Or.inl rfl) ?_
      refine k_sipush C dX10_keep_39 (v := 160) rfl ?_
      refine k_imul C dX10_keep_42 ?_
      refine k_aload_n C dX10_keep_43 1 rfl ?_
      refine k_get C dX10_keep_44 (k_gX1_1 w) k_fX10_40 (Or.inl rfl) ?_
      obtain ⟨q47, h⟩ := k_gd_e h
      refine k_copyi C dX10_keep_47 k_lcX10_58 (k_aX2 w) (k_aX9 w) q47 (by omega) (Nat.le_of_ble_eq_true rfl) ?_
      refine k_st (fun s47 es47 => ?_)
      replace h := k_nm_e h s47 es47
      refine k_aload_n C dX10_keep_50 0 rfl ?_
      refine k_get C dX10_keep_51 (k_gX7_7 w) k_fX10_22 (Or.inl rfl) ?_
      refine k_aload_n C dX10_keep_54 0 rfl ?_
      refine k_get C dX10_keep_55 (k_gX7_4 w) k_fX10_9 (Or.inl rfl) ?_
      refine k_aload_n C dX10_keep_58 1 rfl ?_
      refine k_get C dX10_keep_59 (k_gX1_1 w) k_fX10_40 (Or.inl rfl) ?_
      obtain ⟨q62, h⟩ := k_gd_e h
      refine k_iast C dX10_keep_62 (k_aX10 w) q62 ?_
      refine k_st (fun s62 es62 => ?_)
      replace h := k_nm_e h s62 es62
      refine k_aload_n C dX10_keep_63 0 rfl ?_
      refine k_dup C dX10_keep_64 rfl ?_
      refine k_get C dX10_keep_65 (k_gX7_4 w) k_fX10_9 (Or.inl rfl) ?_
      refine k_iconst C dX10_keep_68 (v := 1) rfl ?_
      refine k_iadd C dX10_keep_69 ?_
      refine k_puti C dX10_keep_70 (k_pX7_4 w) k_fX10_9 (Or.inl rfl) k_xi ?_
      refine k_st (fun s70 es70 => ?_)
      replace h := k_nm_e h s70 es70
      exact k_vret C dX10_keep_73 hr (Option.some.inj h)
def f_X10_letItBe (x2 : Int32) (σ : k_St) : Option (k_St) :=
  k_bd (f_X1_told x2 (3 : Int32) σ) fun v8 =>
  k_gd (k_ix (0 : Int32) 5 = true) <|
  k_nm (k_wr σ 11 (0 : Int32).toNatClampNeg v8) fun s11 =>
  k_gd (k_ix (1 : Int32) 5 = true) <|
  k_nm (k_wr s11 11 (1 : Int32).toNatClampNeg x2) fun s18 =>
  k_bd (f_X1_told x2 (1 : Int32) s18) fun v27 =>
  k_gd (k_ix (2 : Int32) 5 = true) <|
  k_nm (k_wr s18 11 (2 : Int32).toNatClampNeg v27) fun s30 =>
  k_bd (f_X1_told x2 (2 : Int32) s30) fun v39 =>
  k_gd (k_ix (3 : Int32) 5 = true) <|
  k_nm (k_wr s30 11 (3 : Int32).toNatClampNeg v39) fun s42 =>
  k_bd (f_X1_told x2 (0 : Int32) s42) fun v51 =>
  k_gd (k_ix (4 : Int32) 5 = true) <|
  k_nm (k_wr s42 11 (4 : Int32).toNatClampNeg v51) fun s54 =>
  some s54
set_option maxHeartbeats 4000000 in
set_option maxRecDepth 100000 in
theorem e_X10_letItBe {l : Launch} {w : k_WC} {d : Nat} (hd : 3 ≤ d) {x2 : Int32}  {σ σ' : k_St} (h : f_X10_letItBe x2 σ = some σ') : k_EV l (k_PX w) yX10_letItBe cX10_letItBe 3 d [.ref (w.2.1 7), .ref (w.2.1 12), .int x2] σ σ' := by
  refine k_of (own := RX10) rfl (by decide) (Nat.le_of_ble_eq_true rfl) (fun X hX C hr => ?_)
  show k_K (k_PX w) X (k_MQ X (k_Qv (k_PX w) σ') (k_PX w).2.2.1) 0 [(0, .ref (w.2.1 7)), (1, .ref (w.2.1 12)), (2, .int x2)] [] σ
  unfold f_X10_letItBe at h
  refine k_aload_n C dX10_letItBe_0 0 rfl ?_
  refine k_get C dX10_letItBe_1 (k_gX7_8 w) k_fX10_25 (Or.inl rfl) ?_
  refine k_iconst C dX10_letItBe_4 (v := 0) rfl ?_
  refine k_aload_n C dX10_letItBe_5 1 rfl ?_
  refine k_iload_n C dX10_letItBe_6 2 rfl ?_
  refine k_iconst C dX10_letItBe_7 (v := 3) rfl ?_
  obtain ⟨v8, h8, h⟩ := k_bd_e h
  refine k_goI (k_runV C dX10_letItBe_8 (e_X1_told (d := 2) (Nat.le_refl _) h8) k_lX10_69 k_yX1_told (k_oX12 w) (by omega) rfl (Nat.le_of_ble_eq_true rfl)) ?_
  obtain ⟨q11, h⟩ := k_gd_e h
  refine k_iast C dX10_letItBe_11 (k_aX11 w) q11 ?_
  refine k_st (fun s11 es11 => ?_)
  replace h := k_nm_e h s11 es11
  refine k_aload_n C dX10_letItBe_12 0 rfl ?_
  refine k_get C dX10_letItBe_13 (k_gX7_8 w) k_fX10_25 (Or.inl rfl) ?_
  refine k_iconst C dX10_letItBe_16 (v := 1) rfl ?_
  refine k_iload_n C dX10_letItBe_17 2 rfl ?_
  obtain ⟨q18, h⟩ := k_gd_e h
  refine k_iast C dX10_letItBe_18 (k_aX11 w) q18 ?_
  refine k_st (fun s18 es18 => ?_)
  replace h := k_nm_e h s18 es18
  refine k_aload_n C dX10_letItBe_19 0 rfl ?_
  refine k_get C dX10_letItBe_20 (k_gX7_8 w) k_fX10_25 (Or.inl rfl) ?_
  refine k_iconst C dX10_letItBe_23 (v := 2) rfl ?_
  refine k_aload_n C dX10_letItBe_24 1 rfl ?_
  refine k_iload_n C dX10_letItBe_25 2 rfl ?_
  refine k_iconst C dX10_letItBe_26 (v := 1) rfl ?_
  obtain ⟨v27, h27, h⟩ := k_bd_e h
  refine k_goI (k_runV C dX10_letItBe_27 (e_X1_told (d := 2) (Nat.le_refl _) h27) k_lX10_69 k_yX1_told (k_oX12 w) (by omega) rfl (Nat.le_of_ble_eq_true rfl)) ?_
  obtain ⟨q30, h⟩ := k_gd_e h
  refine k_iast C dX10_letItBe_30 (k_aX11 w) q30 ?_
  refine k_st (fun s30 es30 => ?_)
  replace h := k_nm_e h s30 es30
  refine k_aload_n C dX10_letItBe_31 0 rfl ?_
  refine k_get C dX10_letItBe_32 (k_gX7_8 w) k_fX10_25 (Or.inl rfl) ?_
  refine k_iconst C dX10_letItBe_35 (v := 3) rfl ?_
  refine k_aload_n C dX10_letItBe_36 1 rfl ?_
  refine k_iload_n C dX10_letItBe_37 2 rfl ?_
  refine k_iconst C dX10_letItBe_38 (v := 2) rfl ?_
  obtain ⟨v39, h39, h⟩ := k_bd_e h
  refine k_goI (k_runV C dX10_letItBe_39 (e_X1_told (d := 2) (Nat.le_refl _) h39) k_lX10_69 k_yX1_told (k_oX12 w) (by omega) rfl (Nat.le_of_ble_eq_true rfl)) ?_
  obtain ⟨q42, h⟩ := k_gd_e h
  refine k_iast C dX10_letItBe_42 (k_aX11 w) q42 ?_
  refine k_st (fun s42 es42 => ?_)
  replace h := k_nm_e h s42 es42
  refine k_aload_n C dX10_letItBe_43 0 rfl ?_
  refine k_get C dX10_letItBe_44 (k_gX7_8 w) k_fX10_25 (Or.inl rfl) ?_
  refine k_iconst C dX10_letItBe_47 (v := 4) rfl ?_
  refine k_aload_n C dX10_letItBe_48 1 rfl ?_
  refine k_iload_n C dX10_letItBe_49 2 rfl ?_
  refine k_iconst C dX10_letItBe_50 (v := 0) rfl ?_
  obtain ⟨v51, h51, h⟩ := k_bd_e h
  refine k_goI (k_runV C dX10_letItBe_51 (e_X1_told (d := 2) (Nat.le_refl _) h51) k_lX10_69 k_yX1_told (k_oX12 w) (by omega) rfl (Nat.le_of_ble_eq_true rfl)) ?_
  obtain ⟨q54, h⟩ := k_gd_e h
  refine k_iast C dX10_letItBe_54 (k_aX11 w) q54 ?_
  refine k_st (fun s54 es54 => ?_)
  replace h := k_nm_e h s54 es54
  exact k_vret C dX10_letItBe_55 hr (Option.some.inj h)
def f_X10_reckonFor  (σ : k_St) : Option (k_St) :=
  k_bd (f_X11_within (k_rd σ 7 5) (0 : Int32) (3 : Int32)) fun v6 =>
  k_jn (fun (s_39 : k_St) =>
    k_loop (fun (g41 : Int32 × k_St → Option (k_St)) (z41 : Int32 × k_St) => match z41 with
      | (v3_41, s_41) =>
        k_if ((k_rd s_41 12 0) ≤ v3_41)
          (some s_41)
          (k_bd (f_X1_told v3_41 (3 : Int32) s_41) fun v53 =>
          k_nm (k_wr s_41 7 10 v53) fun s56 =>
          k_jn (fun (s_77 : k_St) =>
            k_bd (f_X1_setWorth v3_41 (o_max (0 : Int32) (o_min (999 : Int32) (k_rd s_77 7 10))) s_77) fun s93 =>
            k_nm (v3_41 + (1 : Int32)) fun y96 =>
            g41 (y96, s93)) fun j77 =>
          k_if (v6 = (0 : Int32))
            (j77 s56)
            (k_bd (f_X10_letItBe v3_41 s56) fun s66 =>
            k_bd (f_X3_restart 7 s66) fun s70 =>
            k_bd (f_X10_readClauses s70) fun s74 =>
            j77 s74))) 100000 ((0 : Int32), s_39)) fun j39 =>
  k_if (v6 = (0 : Int32))
    (j39 σ)
    (k_gd (k_ix (k_rd σ 7 5) 4 = true) <|
    k_bd (f_X3_load 7 9 ((k_rd σ 7 5) * (160 : Int32)) (k_rd σ 10 (k_rd σ 7 5).toNatClampNeg) σ) fun s36 =>
    j39 s36)
set_option maxHeartbeats 4000000 in
set_option maxRecDepth 100000 in
theorem e_X10_reckonFor {l : Launch} {w : k_WC} {d : Nat} (hd : 111 ≤ d)   {σ σ' : k_St} (h : f_X10_reckonFor σ = some σ') : k_EV l (k_PX w) yX10_reckonFor cX10_reckonFor 4 d [.ref (w.2.1 7), .ref (w.2.1 12)] σ σ' := by
  refine k_of (own := RX10) rfl (by decide) (Nat.le_of_ble_eq_true rfl) (fun X hX C hr => ?_)
  show k_K (k_PX w) X (k_MQ X (k_Qv (k_PX w) σ') (k_PX w).2.2.1) 0 [(0, .ref (w.2.1 7)), (1, .ref (w.2.1 12))] [] σ
  unfold f_X10_reckonFor at h
  refine k_aload_n C dX10_reckonFor_0 0 rfl ?_
  refine k_get C dX10_reckonFor_1 (k_gX7_5 w) k_fX10_15 (Or.inl rfl) ?_
  refine k_iconst C dX10_reckonFor_4 (v := 0) rfl ?_
  refine k_iconst C dX10_reckonFor_5 (v := 3) rfl ?_
  obtain ⟨v6, h6, h⟩ := k_bd_e h
  refine k_goI (k_runSN C dX10_reckonFor_6 (e_X11_within (d := 2) (Nat.le_refl _) h6) k_lX10_54 k_yX11_within (by omega) rfl (Nat.le_of_ble_eq_true rfl)) ?_
  refine k_istore_n C dX10_reckonFor_9 (by decide) [1, 2, 0] (L' := [(0, .ref (w.2.1 7)), (1, .ref (w.2.1 12)), (2, .int v6)]) rfl ?_
  refine k_iload_n C dX10_reckonFor_10 2 rfl ?_
  obtain ⟨j39, ej39, h⟩ := k_jn_e h
  have Jj39 : ∀ (s_39 : k_St), j39 s_39 = some σ' → k_K (k_PX w) X (k_MQ X (k_Qv (k_PX w) σ') (k_PX w).2.2.1) 39 [(0, .ref (w.2.1 7)), (1, .ref (w.2.1 12)), (2, .int v6)] [] s_39 := by
    intro s_39 h
    rw [ej39] at h
    refine k_iconst C dX10_reckonFor_39 (v := 0) rfl ?_
    refine k_istore_n C dX10_reckonFor_40 (by decide) [1, 2, 3, 0] (L' := [(0, .ref (w.2.1 7)), (1, .ref (w.2.1 12)), (2, .int v6), (3, .int (0 : Int32))]) rfl ?_
    obtain ⟨b41, eb41, h⟩ := k_lp_e h
    have K41 : ∀ (n : Nat) (v3_41 : Int32) (s_41 : k_St), k_loop b41 n (v3_41, s_41) = some σ' → k_K (k_PX w) X (k_MQ X (k_Qv (k_PX w) σ') (k_PX w).2.2.1) 41 [(0, .ref (w.2.1 7)), (1, .ref (w.2.1 12)), (2, .int v6), (3, .int v3_41)] [] s_41 := by
      intro n
      induction n with
      | zero => intro v3_41 s_41 h; cases h
      | succ n ih41 =>
        intro v3_41 s_41 h
        obtain ⟨g41, eg41, h⟩ := k_lp_s h
        rw [← eg41] at ih41
        rw [eb41] at h
        refine k_iload_n C dX10_reckonFor_41 3 rfl ?_
        refine k_aload_n C dX10_reckonFor_42 1 rfl ?_
        refine k_get C dX10_reckonFor_43 (k_gX12_0 w) k_fX10_64 (Or.inl rfl) ?_
        refine k_icmp_ge C dX10_reckonFor_46 (tgt := 102) (by decide) (fun c46 => ?_) (fun c46 => ?_)
        · replace h := k_if_t h c46
          exact k_vret C dX10_reckonFor_102 hr (Option.some.inj h)
        · replace h := k_if_f h c46
          refine k_aload_n C dX10_reckonFor_49 0 rfl ?_
          refine k_aload_n C dX10_reckonFor_50 1 rfl ?_
          refine k_iload_n C dX10_reckonFor_51 3 rfl ?_
          refine k_iconst C dX10_reckonFor_52 (v := 3) rfl ?_
          obtain ⟨v53, h53, h⟩ := k_bd_e h
          refine k_goI (k_runV C dX10_reckonFor_53 (e_X1_told (d := 2) (Nat.le_refl _) h53) k_lX10_69 k_yX1_told (k_oX12 w) (by omega) rfl (Nat.le_of_ble_eq_true rfl)) ?_
          refine k_puti C dX10_reckonFor_56 (k_pX7_10 w) k_fX10_32 (Or.inl rfl) k_xi ?_
          refine k_st (fun s56 es56 => ?_)
          replace h := k_nm_e h s56 es56
          refine k_iload_n C dX10_reckonFor_59 2 rfl ?_
          obtain ⟨j77, ej77, h⟩ := k_jn_e h
          have Jj77 : ∀ (s_77 : k_St), j77 s_77 = some σ' → k_K (k_PX w) X (k_MQ X (k_Qv (k_PX w) σ') (k_PX w).2.2.1) 77 [(0, .ref (w.2.1 7)), (1, .ref (w.2.1 12)), (2, .int v6), (3, .int v3_41)] [] s_77 := by
            intro s_77 h
            rw [ej77] at h
            refine k_aload_n C dX10_reckonFor_77 1 rfl ?_
            refine k_iload_n C dX10_reckonFor_78 3 rfl ?_
            refine k_iconst C dX10_reckonFor_79 (v := 0) rfl ?_
            refine k_sipush C dX10_reckonFor_80 (v := 999) rfl ?_
            refine k_aload_n C dX10_reckonFor_83 0 rfl ?_
            refine k_get C dX10_reckonFor_84 (k_gX7_10 w) k_fX10_32 (Or.inl rfl) ?_
            refine k_mmin C dX10_reckonFor_87 k_lX10_80 k_ym_min (by omega) (Nat.le_of_ble_eq_true rfl) ?_
            refine k_mmax C dX10_reckonFor_90 k_lX10_85 k_ym_max (by omega) (Nat.le_of_ble_eq_true rfl) ?_
            obtain ⟨s93, h93, h⟩ := k_bd_e h
            refine k_goV (k_runV C dX10_reckonFor_93 (e_X1_setWorth (d := 3) (Nat.le_refl _) h93) k_lX10_88 k_yX1_setWorth (k_oX12 w) (by omega) rfl (Nat.le_of_ble_eq_true rfl)) ?_
            refine k_iinc C dX10_reckonFor_96 3 rfl (v := 1) rfl (by decide) [1, 2, 3, 0] (L' := fun z9 => [(0, .ref (w.2.1 7)), (1, .ref (w.2.1 12)), (2, .int v6), (3, .int z9)]) (fun z9 => rfl) (fun y96 ey96 => ?_)
            replace h := k_nm_e h y96 ey96
            refine k_goto C dX10_reckonFor_99 (tgt := 41) (by decide) ?_
            exact ih41 _ _ h
          refine k_if_eq C dX10_reckonFor_60 (tgt := 77) (by decide) (fun c60 => ?_) (fun c60 => ?_)
          · replace h := k_if_t h c60
            exact Jj77 _ h
          · replace h := k_if_f h c60
            refine k_aload_n C dX10_reckonFor_63 0 rfl ?_
            refine k_aload_n C dX10_reckonFor_64 1 rfl ?_
            refine k_iload_n C dX10_reckonFor_65 3 rfl ?_
            obtain ⟨s66, h66, h⟩ := k_bd_e h
            refine k_goV (k_runV C dX10_reckonFor_66 (e_X10_letItBe (d := 3) (Nat.le_refl _) h66) k_lX10_73 k_yX10_letItBe (k_oX7 w) (by omega) rfl (Nat.le_of_ble_eq_true rfl)) ?_
            refine k_aload_n C dX10_reckonFor_69 0 rfl ?_
            obtain ⟨s70, h70, h⟩ := k_bd_e h
            refine k_goV (k_runU C dX10_reckonFor_70 (e_X3_restart_7 (d := 2) (Nat.le_refl _) h70) k_lX10_77 rfl k_yX3_restart (k_oX7 w) (by omega) rfl (Nat.le_of_ble_eq_true rfl)) ?_
            refine k_aload_n C dX10_reckonFor_73 0 rfl ?_
            obtain ⟨s74, h74, h⟩ := k_bd_e h
            refine k_goV (k_runV C dX10_reckonFor_74 (e_X10_readClauses (d := 110) (Nat.le_refl _) h74) k_lX10_47 k_yX10_readClauses (k_oX7 w) (by omega) rfl (Nat.le_of_ble_eq_true rfl)) ?_
            exact Jj77 _ h
    exact K41 _ _ _ h
  refine k_if_eq C dX10_reckonFor_11 (tgt := 39) (by decide) (fun c11 => ?_) (fun c11 => ?_)
  · replace h := k_if_t h c11
    exact Jj39 _ h
  · replace h := k_if_f h c11
    refine k_aload_n C dX10_reckonFor_14 0 rfl ?_
    refine k_aload_n C dX10_reckonFor_15 0 rfl ?_
    refine k_get C dX10_reckonFor_16 (k_gX7_6 w) k_fX10_18 (Or.inl rfl) ?_
    refine k_aload_n C dX10_reckonFor_19 0 rfl ?_
    refine k_get C dX10_reckonFor_20 (k_gX7_5 w) k_fX10_15 (Or.inl rfl) ?_
    refine k_sipush C dX10_reckonFor_23 (v := 160) rfl ?_
    refine k_imul C dX10_reckonFor_26 ?_
    refine k_aload_n C dX10_reckonFor_27 0 rfl ?_
    refine k_get C dX10_reckonFor_28 (k_gX7_7 w) k_fX10_22 (Or.inl rfl) ?_
    refine k_aload_n C dX10_reckonFor_31 0 rfl ?_
    refine k_get C dX10_reckonFor_32 (k_gX7_5 w) k_fX10_15 (Or.inl rfl) ?_
    obtain ⟨q35, h⟩ := k_gd_e h
    refine k_iald C dX10_reckonFor_35 (k_aX10 w) q35 ?_
    obtain ⟨s36, h36, h⟩ := k_bd_e h
    refine k_goV (k_runU C dX10_reckonFor_36 (e_X3_load_7 (d := 3) (Nat.le_refl _) (k_aX9 w) h36) k_lX10_43 rfl k_yX3_load (k_oX7 w) (by omega) rfl (Nat.le_of_ble_eq_true rfl)) ?_
    exact Jj39 _ h
