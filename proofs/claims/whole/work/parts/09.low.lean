def f_X11_within (x0 : Int32) (x1 : Int32) (x2 : Int32) : Option (Int32) :=
  k_if (x0 < x1)
    (some (0 : Int32))
    (k_if (x2 < x0)
      (some (0 : Int32))
      (some (1 : Int32)))
set_option maxHeartbeats 4000000 in
set_option maxRecDepth 100000 in
theorem e_X11_within {l : Launch} {w : k_WC} {d : Nat} (hd : 2 ≤ d) {x0 : Int32} {x1 : Int32} {x2 : Int32}  {σ : k_St} {r : Int32} (h : f_X11_within x0 x1 x2 = some r) : k_EI l (k_PX w) yX11_within cX11_within 3 (some .boolean) d [.int x0, .int x1, .int x2] σ r σ := by
  refine k_of (own := RX11) rfl (by decide) (Nat.le_of_ble_eq_true rfl) (fun X hX C hr => ?_)
  show k_K (k_PX w) X (k_MQ X (k_Qi (k_PX w) r σ) (k_PX w).2.2.1) 0 [(0, .int x0), (1, .int x1), (2, .int x2)] [] σ
  unfold f_X11_within at h
  refine k_iload_n C dX11_within_0 0 rfl ?_
  refine k_iload_n C dX11_within_1 1 rfl ?_
  refine k_icmp_lt C dX11_within_2 (tgt := 14) (by decide) (fun c2 => ?_) (fun c2 => ?_)
  · replace h := k_if_t h c2
    refine k_iconst C dX11_within_14 (v := 0) rfl ?_
    exact k_zret C dX11_within_15 hr rfl (k_p1 h)
  · replace h := k_if_f h c2
    refine k_iload_n C dX11_within_5 0 rfl ?_
    refine k_iload_n C dX11_within_6 2 rfl ?_
    refine k_icmp_gt C dX11_within_7 (tgt := 14) (by decide) (fun c7 => ?_) (fun c7 => ?_)
    · replace h := k_if_t h c7
      refine k_iconst C dX11_within_14 (v := 0) rfl ?_
      exact k_zret C dX11_within_15 hr rfl (k_p1 h)
    · replace h := k_if_f h c7
      refine k_iconst C dX11_within_10 (v := 1) rfl ?_
      refine k_goto C dX11_within_11 (tgt := 15) (by decide) ?_
      exact k_zret C dX11_within_15 hr rfl (k_p1 h)
def f_X11_isPart (x0 : Int32) : Option (Int32) :=
  k_bd (f_X11_within x0 (0 : Int32) (1 : Int32)) fun v3 =>
  k_gd (o_isB v3 = true) <|
  some v3
set_option maxHeartbeats 4000000 in
set_option maxRecDepth 100000 in
theorem e_X11_isPart {l : Launch} {w : k_WC} {d : Nat} (hd : 3 ≤ d) {x0 : Int32}  {σ : k_St} {r : Int32} (h : f_X11_isPart x0 = some r) : k_EI l (k_PX w) yX11_isPart cX11_isPart 1 (some .boolean) d [.int x0] σ r σ := by
  refine k_of (own := RX11) rfl (by decide) (Nat.le_of_ble_eq_true rfl) (fun X hX C hr => ?_)
  show k_K (k_PX w) X (k_MQ X (k_Qi (k_PX w) r σ) (k_PX w).2.2.1) 0 [(0, .int x0)] [] σ
  unfold f_X11_isPart at h
  refine k_iload_n C dX11_isPart_0 0 rfl ?_
  refine k_iconst C dX11_isPart_1 (v := 0) rfl ?_
  refine k_iconst C dX11_isPart_2 (v := 1) rfl ?_
  obtain ⟨v3, h3, h⟩ := k_bd_e h
  refine k_goI (k_runS C dX11_isPart_3 (e_X11_within (d := 2) (Nat.le_refl _) h3) k_lX11_118 k_yX11_within (by omega) rfl (Nat.le_of_ble_eq_true rfl)) ?_
  obtain ⟨gz, h⟩ := k_gd_e h
  exact k_zret C dX11_isPart_6 hr (k_nz gz) (k_p1 h)
def f_X11_isShelf (x0 : Int32) : Option (Int32) :=
  k_bd (f_X11_within x0 (0 : Int32) (3 : Int32)) fun v3 =>
  k_gd (o_isB v3 = true) <|
  some v3
set_option maxHeartbeats 4000000 in
set_option maxRecDepth 100000 in
theorem e_X11_isShelf {l : Launch} {w : k_WC} {d : Nat} (hd : 3 ≤ d) {x0 : Int32}  {σ : k_St} {r : Int32} (h : f_X11_isShelf x0 = some r) : k_EI l (k_PX w) yX11_isShelf cX11_isShelf 1 (some .boolean) d [.int x0] σ r σ := by
  refine k_of (own := RX11) rfl (by decide) (Nat.le_of_ble_eq_true rfl) (fun X hX C hr => ?_)
  show k_K (k_PX w) X (k_MQ X (k_Qi (k_PX w) r σ) (k_PX w).2.2.1) 0 [(0, .int x0)] [] σ
  unfold f_X11_isShelf at h
  refine k_iload_n C dX11_isShelf_0 0 rfl ?_
  refine k_iconst C dX11_isShelf_1 (v := 0) rfl ?_
  refine k_iconst C dX11_isShelf_2 (v := 3) rfl ?_
  obtain ⟨v3, h3, h⟩ := k_bd_e h
  refine k_goI (k_runS C dX11_isShelf_3 (e_X11_within (d := 2) (Nat.le_refl _) h3) k_lX11_118 k_yX11_within (by omega) rfl (Nat.le_of_ble_eq_true rfl)) ?_
  obtain ⟨gz, h⟩ := k_gd_e h
  exact k_zret C dX11_isShelf_6 hr (k_nz gz) (k_p1 h)
def f_X11_commonOf (x0 : Int64) (x2 : Int64) : Option (Int64) :=
  k_loop (fun (g9 : Int64 × Int64 × Int32 → Option (Int64)) (z9 : Int64 × Int64 × Int32) => match z9 with
    | (v4_9, v6_9, v8_9) =>
      k_if ((200 : Int32) ≤ v8_9)
        (some v4_9)
        (k_if ((lg_cmp v6_9 (0 : Int64)) = (0 : Int32))
          (some v4_9)
          (k_gd (¬ v6_9 = 0) <|
          k_nm ((o_lrem v4_9 v6_9)) fun y29 =>
          k_nm (v8_9 + (1 : Int32)) fun y39 =>
          g9 (v6_9, y29, y39)))) 100000 (x0, x2, (0 : Int32))
set_option maxHeartbeats 4000000 in
set_option maxRecDepth 100000 in
theorem e_X11_commonOf {l : Launch} {w : k_WC} {d : Nat} (hd : 2 ≤ d) {x0 : Int64} {x2 : Int64}  {σ : k_St} {r : Int64} (h : f_X11_commonOf x0 x2 = some r) : k_EL l (k_PX w) yX11_commonOf cX11_commonOf 11 d [.long x0, .long x2] σ r σ := by
  refine k_of (own := RX11) rfl (by decide) (Nat.le_of_ble_eq_true rfl) (fun X hX C hr => ?_)
  show k_K (k_PX w) X (k_MQ X (k_Ql (k_PX w) r σ) (k_PX w).2.2.1) 0 [(0, .long x0), (2, .long x2)] [] σ
  unfold f_X11_commonOf at h
  refine k_lload_n C dX11_commonOf_0 0 rfl ?_
  refine k_lstore C dX11_commonOf_1 (by decide) [1, 2, 0] (L' := [(0, .long x0), (2, .long x2), (4, .long x0)]) rfl ?_
  refine k_lload_n C dX11_commonOf_3 1 rfl ?_
  refine k_lstore C dX11_commonOf_4 (by decide) [1, 2, 3, 0] (L' := [(0, .long x0), (2, .long x2), (4, .long x0), (6, .long x2)]) rfl ?_
  refine k_iconst C dX11_commonOf_6 (v := 0) rfl ?_
  refine k_istore C dX11_commonOf_7 (by decide) [1, 2, 3, 4, 0] (L' := [(0, .long x0), (2, .long x2), (4, .long x0), (6, .long x2), (8, .int (0 : Int32))]) rfl ?_
  obtain ⟨b9, eb9, h⟩ := k_lp_e h
  have K9 : ∀ (n : Nat) (v4_9 : Int64) (v6_9 : Int64) (v8_9 : Int32), k_loop b9 n (v4_9, v6_9, v8_9) = some r → k_K (k_PX w) X (k_MQ X (k_Ql (k_PX w) r σ) (k_PX w).2.2.1) 9 [(4, .long v4_9), (6, .long v6_9), (8, .int v8_9)] [] σ := by
    intro n
    induction n with
    | zero => intro v4_9 v6_9 v8_9 h; cases h
    | succ n ih9 =>
      intro v4_9 v6_9 v8_9 h
      obtain ⟨g9, eg9, h⟩ := k_lp_s h
      rw [← eg9] at ih9
      rw [eb9] at h
      refine k_iload C dX11_commonOf_9 2 rfl ?_
      refine k_sipush C dX11_commonOf_11 (v := 200) rfl ?_
      refine k_icmp_ge C dX11_commonOf_14 (tgt := 45) (by decide) (fun c14 => ?_) (fun c14 => ?_)
      · replace h := k_if_t h c14
        refine k_lload C dX11_commonOf_45 0 rfl ?_
        exact k_lret C dX11_commonOf_47 hr (k_p1 h)
      · replace h := k_if_f h c14
        refine k_lload C dX11_commonOf_17 1 rfl ?_
        refine k_lconst C dX11_commonOf_19 (v := 0) rfl ?_
        refine k_lcmp C dX11_commonOf_20 ?_
        refine k_if_eq C dX11_commonOf_21 (tgt := 45) (by decide) (fun c21 => ?_) (fun c21 => ?_)
        · replace h := k_if_t h c21
          refine k_lload C dX11_commonOf_45 0 rfl ?_
          exact k_lret C dX11_commonOf_47 hr (k_p1 h)
        · replace h := k_if_f h c21
          refine k_lload C dX11_commonOf_24 0 rfl ?_
          refine k_lload C dX11_commonOf_26 1 rfl ?_
          obtain ⟨q28, h⟩ := k_gd_e h
          refine k_lrem C dX11_commonOf_28 q28 ?_
          refine k_topl (fun y29 ey29 => ?_)
          replace h := k_nm_e h y29 ey29
          refine k_lstore C dX11_commonOf_29 (by decide) [1, 2, 3, 0] (L' := [(4, .long v4_9), (6, .long v6_9), (8, .int v8_9), (9, .long y29)]) rfl ?_
          refine k_lload C dX11_commonOf_31 1 rfl ?_
          refine k_lstore C dX11_commonOf_33 (by decide) [0, 1, 2, 3] (L' := [(4, .long v6_9), (6, .long v6_9), (8, .int v8_9), (9, .long y29)]) rfl ?_
          refine k_lload C dX11_commonOf_35 3 rfl ?_
          refine k_lstore C dX11_commonOf_37 (by decide) [1, 0, 2, 3] (L' := [(4, .long v6_9), (6, .long y29), (8, .int v8_9), (9, .long y29)]) rfl ?_
          refine k_iinc C dX11_commonOf_39 2 rfl (v := 1) rfl (by decide) [1, 2, 0, 3] (L' := fun z9 => [(4, .long v6_9), (6, .long y29), (8, .int z9), (9, .long y29)]) (fun z9 => rfl) (fun y39 ey39 => ?_)
          replace h := k_nm_e h y39 ey39
          refine k_goto C dX11_commonOf_42 (tgt := 9) (by decide) ?_
          refine k_sub (L' := [(4, .long v6_9), (6, .long y29), (8, .int y39)]) [0, 1, 2] rfl ?_
          exact ih9 _ _ _ h
  refine k_sub (L' := [(4, .long x0), (6, .long x2), (8, .int (0 : Int32))]) [2, 3, 4] rfl ?_
  exact K9 _ _ _ _ h
def f_X11_plain (x0 : Int64) (x2 : Int64) (x4 : Int32) : Option (Int64) :=
  k_jn (fun (_ : Unit) =>
    k_if (x4 = (0 : Int32))
      (some (0 : Int64))
      (some (1 : Int64))) fun j12 =>
  k_if ((lg_cmp x0 (0 : Int64)) = (0 : Int32))
    (j12 ())
    (k_if ((lg_cmp x2 (0 : Int64)) = (0 : Int32))
      (j12 ())
      (k_bd (f_X11_commonOf x0 x2) fun v25 =>
      k_if ((lg_cmp v25 (0 : Int64)) = (0 : Int32))
        (some (-1 : Int64))
        (k_if (x4 = (0 : Int32))
          (k_gd (¬ v25 = 0) <|
          some (x0 / v25))
          (k_gd (¬ v25 = 0) <|
          some (x2 / v25)))))
set_option maxHeartbeats 4000000 in
set_option maxRecDepth 100000 in
theorem e_X11_plain {l : Launch} {w : k_WC} {d : Nat} (hd : 3 ≤ d) {x0 : Int64} {x2 : Int64} {x4 : Int32}  {σ : k_St} {r : Int64} (h : f_X11_plain x0 x2 x4 = some r) : k_EL l (k_PX w) yX11_plain cX11_plain 7 d [.long x0, .long x2, .int x4] σ r σ := by
  refine k_of (own := RX11) rfl (by decide) (Nat.le_of_ble_eq_true rfl) (fun X hX C hr => ?_)
  show k_K (k_PX w) X (k_MQ X (k_Ql (k_PX w) r σ) (k_PX w).2.2.1) 0 [(0, .long x0), (2, .long x2), (4, .int x4)] [] σ
  unfold f_X11_plain at h
  refine k_lload_n C dX11_plain_0 0 rfl ?_
  refine k_lconst C dX11_plain_1 (v := 0) rfl ?_
  refine k_lcmp C dX11_plain_2 ?_
  obtain ⟨j12, ej12, h⟩ := k_jn_e h
  have Jj12 : j12 () = some r → k_K (k_PX w) X (k_MQ X (k_Ql (k_PX w) r σ) (k_PX w).2.2.1) 12 [(4, .int x4)] [] σ := by
    intro  h
    rw [ej12] at h
    refine k_iload C dX11_plain_12 0 rfl ?_
    refine k_if_ne C dX11_plain_14 (tgt := 21) (by decide) (fun c14 => ?_) (fun c14 => ?_)
    · replace h := k_if_f h c14
      refine k_lconst C dX11_plain_21 (v := 1) rfl ?_
      exact k_lret C dX11_plain_22 hr (k_p1 h)
    · replace h := k_if_t h c14
      refine k_lconst C dX11_plain_17 (v := 0) rfl ?_
      refine k_goto C dX11_plain_18 (tgt := 22) (by decide) ?_
      exact k_lret C dX11_plain_22 hr (k_p1 h)
  refine k_if_eq C dX11_plain_3 (tgt := 12) (by decide) (fun c3 => ?_) (fun c3 => ?_)
  · replace h := k_if_t h c3
    refine k_sub (L' := [(4, .int x4)]) [2] rfl ?_
    exact Jj12 h
  · replace h := k_if_f h c3
    refine k_lload_n C dX11_plain_6 1 rfl ?_
    refine k_lconst C dX11_plain_7 (v := 0) rfl ?_
    refine k_lcmp C dX11_plain_8 ?_
    refine k_if_ne C dX11_plain_9 (tgt := 23) (by decide) (fun c9 => ?_) (fun c9 => ?_)
    · replace h := k_if_f h c9
      refine k_lload_n C dX11_plain_23 0 rfl ?_
      refine k_lload_n C dX11_plain_24 1 rfl ?_
      obtain ⟨v25, h25, h⟩ := k_bd_e h
      refine k_goL (k_runS C dX11_plain_25 (e_X11_commonOf (d := 2) (Nat.le_refl _) h25) k_lX11_422 k_yX11_commonOf (by omega) rfl (Nat.le_of_ble_eq_true rfl)) ?_
      refine k_lstore C dX11_plain_28 (by decide) [1, 2, 3, 0] (L' := [(0, .long x0), (2, .long x2), (4, .int x4), (5, .long v25)]) rfl ?_
      refine k_lload C dX11_plain_30 3 rfl ?_
      refine k_lconst C dX11_plain_32 (v := 0) rfl ?_
      refine k_lcmp C dX11_plain_33 ?_
      refine k_if_ne C dX11_plain_34 (tgt := 41) (by decide) (fun c34 => ?_) (fun c34 => ?_)
      · replace h := k_if_f h c34
        refine k_iload C dX11_plain_41 2 rfl ?_
        refine k_if_ne C dX11_plain_43 (tgt := 53) (by decide) (fun c43 => ?_) (fun c43 => ?_)
        · replace h := k_if_f h c43
          refine k_lload_n C dX11_plain_53 1 rfl ?_
          refine k_lload C dX11_plain_54 3 rfl ?_
          obtain ⟨q56, h⟩ := k_gd_e h
          refine k_ldiv C dX11_plain_56 q56 ?_
          exact k_lret C dX11_plain_57 hr (k_p1 h)
        · replace h := k_if_t h c43
          refine k_lload_n C dX11_plain_46 0 rfl ?_
          refine k_lload C dX11_plain_47 3 rfl ?_
          obtain ⟨q49, h⟩ := k_gd_e h
          refine k_ldiv C dX11_plain_49 q49 ?_
          refine k_goto C dX11_plain_50 (tgt := 57) (by decide) ?_
          exact k_lret C dX11_plain_57 hr (k_p1 h)
      · replace h := k_if_t h c34
        refine k_ldc2 C dX11_plain_37 k_cX11_260 ?_
        exact k_lret C dX11_plain_40 hr (k_p1 h)
    · replace h := k_if_t h c9
      refine k_sub (L' := [(4, .int x4)]) [2] rfl ?_
      exact Jj12 h
def f_X11_signOf (x0 : Int32) (x1 : Int32) : Option (Int32) :=
  some ((o_ushr x0 ((6 : Int32) - ((2 : Int32) * x1))) &&& (3 : Int32))
set_option maxHeartbeats 4000000 in
set_option maxRecDepth 100000 in
theorem e_X11_signOf {l : Launch} {w : k_WC} {d : Nat} (hd : 2 ≤ d) {x0 : Int32} {x1 : Int32}  {σ : k_St} {r : Int32} (h : f_X11_signOf x0 x1 = some r) : k_EI l (k_PX w) yX11_signOf cX11_signOf 2 (some .int) d [.int x0, .int x1] σ r σ := by
  refine k_of (own := RX11) rfl (by decide) (Nat.le_of_ble_eq_true rfl) (fun X hX C hr => ?_)
  show k_K (k_PX w) X (k_MQ X (k_Qi (k_PX w) r σ) (k_PX w).2.2.1) 0 [(0, .int x0), (1, .int x1)] [] σ
  unfold f_X11_signOf at h
  refine k_iload_n C dX11_signOf_0 0 rfl ?_
  refine k_bipush C dX11_signOf_1 (v := 6) rfl ?_
  refine k_iconst C dX11_signOf_3 (v := 2) rfl ?_
  refine k_iload_n C dX11_signOf_4 1 rfl ?_
  refine k_imul C dX11_signOf_5 ?_
  refine k_isub C dX11_signOf_6 ?_
  refine k_iushr C dX11_signOf_7 ?_
  refine k_iconst C dX11_signOf_8 (v := 3) rfl ?_
  refine k_iand C dX11_signOf_9 ?_
  exact k_iret C dX11_signOf_10 hr (k_p1 h)
def f_X11_withSign (x0 : Int32) (x1 : Int32) (x2 : Int32) : Option (Int32) :=
  k_nm (((6 : Int32) - ((2 : Int32) * x1))) fun y6 =>
  some ((x0 &&& ((o_shl (3 : Int32) y6) ^^^ (-1 : Int32))) ||| (o_shl (x2 &&& (3 : Int32)) y6))
set_option maxHeartbeats 4000000 in
set_option maxRecDepth 100000 in
theorem e_X11_withSign {l : Launch} {w : k_WC} {d : Nat} (hd : 2 ≤ d) {x0 : Int32} {x1 : Int32} {x2 : Int32}  {σ : k_St} {r : Int32} (h : f_X11_withSign x0 x1 x2 = some r) : k_EI l (k_PX w) yX11_withSign cX11_withSign 4 (some .int) d [.int x0, .int x1, .int x2] σ r σ := by
  refine k_of (own := RX11) rfl (by decide) (Nat.le_of_ble_eq_true rfl) (fun X hX C hr => ?_)
  show k_K (k_PX w) X (k_MQ X (k_Qi (k_PX w) r σ) (k_PX w).2.2.1) 0 [(0, .int x0), (1, .int x1), (2, .int x2)] [] σ
  unfold f_X11_withSign at h
  refine k_bipush C dX11_withSign_0 (v := 6) rfl ?_
  refine k_iconst C dX11_withSign_2 (v := 2) rfl ?_
  refine k_iload_n C dX11_withSign_3 1 rfl ?_
  refine k_imul C dX11_withSign_4 ?_
  refine k_isub C dX11_withSign_5 ?_
  refine k_topi (fun y6 ey6 => ?_)
  replace h := k_nm_e h y6 ey6
  refine k_istore_n C dX11_withSign_6 (by decide) [1, 2, 3, 0] (L' := [(0, .int x0), (1, .int x1), (2, .int x2), (3, .int y6)]) rfl ?_
  refine k_iload_n C dX11_withSign_7 0 rfl ?_
  refine k_iconst C dX11_withSign_8 (v := 3) rfl ?_
  refine k_iload_n C dX11_withSign_9 3 rfl ?_
  refine k_ishl C dX11_withSign_10 ?_
  refine k_iconst C dX11_withSign_11 (v := -1) rfl ?_
  refine k_ixor C dX11_withSign_12 ?_
  refine k_iand C dX11_withSign_13 ?_
  refine k_iload_n C dX11_withSign_14 2 rfl ?_
  refine k_iconst C dX11_withSign_15 (v := 3) rfl ?_
  refine k_iand C dX11_withSign_16 ?_
  refine k_iload_n C dX11_withSign_17 3 rfl ?_
  refine k_ishl C dX11_withSign_18 ?_
  refine k_ior C dX11_withSign_19 ?_
  exact k_iret C dX11_withSign_20 hr (k_p1 h)
def f_X11_signsBelow (x0 : Int32) (x1 : Int32) : Option (Int32) :=
  k_loop (fun (g2 : Int32 → Option (Int32)) (z2 : Int32) => match z2 with
    | v2_2 =>
      k_if ((4 : Int32) ≤ v2_2)
        (some (1 : Int32))
        (k_bd (f_X11_signOf x0 v2_2) fun v9 =>
        k_if (v9 < x1)
          (k_nm (v2_2 + (1 : Int32)) fun y18 =>
          g2 y18)
          (some (0 : Int32)))) 100000 (0 : Int32)
set_option maxHeartbeats 4000000 in
set_option maxRecDepth 100000 in
theorem e_X11_signsBelow {l : Launch} {w : k_WC} {d : Nat} (hd : 3 ≤ d) {x0 : Int32} {x1 : Int32}  {σ : k_St} {r : Int32} (h : f_X11_signsBelow x0 x1 = some r) : k_EI l (k_PX w) yX11_signsBelow cX11_signsBelow 3 (some .boolean) d [.int x0, .int x1] σ r σ := by
  refine k_of (own := RX11) rfl (by decide) (Nat.le_of_ble_eq_true rfl) (fun X hX C hr => ?_)
  show k_K (k_PX w) X (k_MQ X (k_Qi (k_PX w) r σ) (k_PX w).2.2.1) 0 [(0, .int x0), (1, .int x1)] [] σ
  unfold f_X11_signsBelow at h
  refine k_iconst C dX11_signsBelow_0 (v := 0) rfl ?_
  refine k_istore_n C dX11_signsBelow_1 (by decide) [1, 2, 0] (L' := [(0, .int x0), (1, .int x1), (2, .int (0 : Int32))]) rfl ?_
  obtain ⟨b2, eb2, h⟩ := k_lp_e h
  have K2 : ∀ (n : Nat) (v2_2 : Int32), k_loop b2 n v2_2 = some r → k_K (k_PX w) X (k_MQ X (k_Qi (k_PX w) r σ) (k_PX w).2.2.1) 2 [(0, .int x0), (1, .int x1), (2, .int v2_2)] [] σ := by
    intro n
    induction n with
    | zero => intro v2_2 h; cases h
    | succ n ih2 =>
      intro v2_2 h
      obtain ⟨g2, eg2, h⟩ := k_lp_s h
      rw [← eg2] at ih2
      rw [eb2] at h
      refine k_iload_n C dX11_signsBelow_2 2 rfl ?_
      refine k_iconst C dX11_signsBelow_3 (v := 4) rfl ?_
      refine k_icmp_ge C dX11_signsBelow_4 (tgt := 24) (by decide) (fun c4 => ?_) (fun c4 => ?_)
      · replace h := k_if_t h c4
        refine k_iconst C dX11_signsBelow_24 (v := 1) rfl ?_
        exact k_zret C dX11_signsBelow_25 hr rfl (k_p1 h)
      · replace h := k_if_f h c4
        refine k_iload_n C dX11_signsBelow_7 0 rfl ?_
        refine k_iload_n C dX11_signsBelow_8 2 rfl ?_
        obtain ⟨v9, h9, h⟩ := k_bd_e h
        refine k_goI (k_runS C dX11_signsBelow_9 (e_X11_signOf (d := 2) (Nat.le_refl _) h9) k_lX11_339 k_yX11_signOf (by omega) rfl (Nat.le_of_ble_eq_true rfl)) ?_
        refine k_iload_n C dX11_signsBelow_12 1 rfl ?_
        refine k_icmp_lt C dX11_signsBelow_13 (tgt := 18) (by decide) (fun c13 => ?_) (fun c13 => ?_)
        · replace h := k_if_t h c13
          refine k_iinc C dX11_signsBelow_18 2 rfl (v := 1) rfl (by decide) [1, 2, 0] (L' := fun z9 => [(0, .int x0), (1, .int x1), (2, .int z9)]) (fun z9 => rfl) (fun y18 ey18 => ?_)
          replace h := k_nm_e h y18 ey18
          refine k_goto C dX11_signsBelow_21 (tgt := 2) (by decide) ?_
          exact ih2 _ h
        · replace h := k_if_f h c13
          refine k_iconst C dX11_signsBelow_16 (v := 0) rfl ?_
          exact k_zret C dX11_signsBelow_17 hr rfl (k_p1 h)
  exact K2 _ _ h
def f_X11_digitsOf (x0 : Int32) : Option (Int32) :=
  k_loop (fun (g4 : Int32 × Int32 → Option (Int32)) (z4 : Int32 × Int32) => match z4 with
    | (v1_4, v2_4) =>
      k_if ((4 : Int32) ≤ v2_4)
        (some v1_4)
        (k_bd (f_X11_signOf x0 v2_4) fun v15 =>
        k_nm ((((10 : Int32) * v1_4) + v15)) fun y19 =>
        k_nm (v2_4 + (1 : Int32)) fun y20 =>
        g4 (y19, y20))) 100000 ((0 : Int32), (0 : Int32))
set_option maxHeartbeats 4000000 in
set_option maxRecDepth 100000 in
theorem e_X11_digitsOf {l : Launch} {w : k_WC} {d : Nat} (hd : 3 ≤ d) {x0 : Int32}  {σ : k_St} {r : Int32} (h : f_X11_digitsOf x0 = some r) : k_EI l (k_PX w) yX11_digitsOf cX11_digitsOf 3 (some .int) d [.int x0] σ r σ := by
  refine k_of (own := RX11) rfl (by decide) (Nat.le_of_ble_eq_true rfl) (fun X hX C hr => ?_)
  show k_K (k_PX w) X (k_MQ X (k_Qi (k_PX w) r σ) (k_PX w).2.2.1) 0 [(0, .int x0)] [] σ
  unfold f_X11_digitsOf at h
  refine k_iconst C dX11_digitsOf_0 (v := 0) rfl ?_
  refine k_istore_n C dX11_digitsOf_1 (by decide) [1, 0] (L' := [(0, .int x0), (1, .int (0 : Int32))]) rfl ?_
  refine k_iconst C dX11_digitsOf_2 (v := 0) rfl ?_
  refine k_istore_n C dX11_digitsOf_3 (by decide) [1, 2, 0] (L' := [(0, .int x0), (1, .int (0 : Int32)), (2, .int (0 : Int32))]) rfl ?_
  obtain ⟨b4, eb4, h⟩ := k_lp_e h
  have K4 : ∀ (n : Nat) (v1_4 : Int32) (v2_4 : Int32), k_loop b4 n (v1_4, v2_4) = some r → k_K (k_PX w) X (k_MQ X (k_Qi (k_PX w) r σ) (k_PX w).2.2.1) 4 [(0, .int x0), (1, .int v1_4), (2, .int v2_4)] [] σ := by
    intro n
    induction n with
    | zero => intro v1_4 v2_4 h; cases h
    | succ n ih4 =>
      intro v1_4 v2_4 h
      obtain ⟨g4, eg4, h⟩ := k_lp_s h
      rw [← eg4] at ih4
      rw [eb4] at h
      refine k_iload_n C dX11_digitsOf_4 2 rfl ?_
      refine k_iconst C dX11_digitsOf_5 (v := 4) rfl ?_
      refine k_icmp_ge C dX11_digitsOf_6 (tgt := 26) (by decide) (fun c6 => ?_) (fun c6 => ?_)
      · replace h := k_if_t h c6
        refine k_iload_n C dX11_digitsOf_26 1 rfl ?_
        exact k_iret C dX11_digitsOf_27 hr (k_p1 h)
      · replace h := k_if_f h c6
        refine k_bipush C dX11_digitsOf_9 (v := 10) rfl ?_
        refine k_iload_n C dX11_digitsOf_11 1 rfl ?_
        refine k_imul C dX11_digitsOf_12 ?_
        refine k_iload_n C dX11_digitsOf_13 0 rfl ?_
        refine k_iload_n C dX11_digitsOf_14 2 rfl ?_
        obtain ⟨v15, h15, h⟩ := k_bd_e h
        refine k_goI (k_runS C dX11_digitsOf_15 (e_X11_signOf (d := 2) (Nat.le_refl _) h15) k_lX11_339 k_yX11_signOf (by omega) rfl (Nat.le_of_ble_eq_true rfl)) ?_
        refine k_iadd C dX11_digitsOf_18 ?_
        refine k_topi (fun y19 ey19 => ?_)
        replace h := k_nm_e h y19 ey19
        refine k_istore_n C dX11_digitsOf_19 (by decide) [1, 0, 2] (L' := [(0, .int x0), (1, .int y19), (2, .int v2_4)]) rfl ?_
        refine k_iinc C dX11_digitsOf_20 2 rfl (v := 1) rfl (by decide) [1, 2, 0] (L' := fun z9 => [(0, .int x0), (1, .int y19), (2, .int z9)]) (fun z9 => rfl) (fun y20 ey20 => ?_)
        replace h := k_nm_e h y20 ey20
        refine k_goto C dX11_digitsOf_23 (tgt := 4) (by decide) ?_
        exact ih4 _ _ h
  exact K4 _ _ _ h
def f_X11_digitOf (x0 : Int32) (x1 : Int32) : Option (Int32) :=
  k_loop (fun (g4 : Int32 × Int32 → Option (Int32)) (z4 : Int32 × Int32) => match z4 with
    | (v2_4, v3_4) =>
      k_if ((3 : Int32) ≤ v3_4)
        (some (o_rem v2_4 (10 : Int32)))
        (k_nm ((v2_4 / (10 : Int32))) fun y13 =>
        k_nm (v3_4 + (1 : Int32)) fun y14 =>
        g4 (y13, y14))) 100000 (x0, x1)
set_option maxHeartbeats 4000000 in
set_option maxRecDepth 100000 in
theorem e_X11_digitOf {l : Launch} {w : k_WC} {d : Nat} (hd : 2 ≤ d) {x0 : Int32} {x1 : Int32}  {σ : k_St} {r : Int32} (h : f_X11_digitOf x0 x1 = some r) : k_EI l (k_PX w) yX11_digitOf cX11_digitOf 4 (some .int) d [.int x0, .int x1] σ r σ := by
  refine k_of (own := RX11) rfl (by decide) (Nat.le_of_ble_eq_true rfl) (fun X hX C hr => ?_)
  show k_K (k_PX w) X (k_MQ X (k_Qi (k_PX w) r σ) (k_PX w).2.2.1) 0 [(0, .int x0), (1, .int x1)] [] σ
  unfold f_X11_digitOf at h
  refine k_iload_n C dX11_digitOf_0 0 rfl ?_
  refine k_istore_n C dX11_digitOf_1 (by decide) [1, 2, 0] (L' := [(0, .int x0), (1, .int x1), (2, .int x0)]) rfl ?_
  refine k_iload_n C dX11_digitOf_2 1 rfl ?_
  refine k_istore_n C dX11_digitOf_3 (by decide) [1, 2, 3, 0] (L' := [(0, .int x0), (1, .int x1), (2, .int x0), (3, .int x1)]) rfl ?_
  obtain ⟨b4, eb4, h⟩ := k_lp_e h
  have K4 : ∀ (n : Nat) (v2_4 : Int32) (v3_4 : Int32), k_loop b4 n (v2_4, v3_4) = some r → k_K (k_PX w) X (k_MQ X (k_Qi (k_PX w) r σ) (k_PX w).2.2.1) 4 [(2, .int v2_4), (3, .int v3_4)] [] σ := by
    intro n
    induction n with
    | zero => intro v2_4 v3_4 h; cases h
    | succ n ih4 =>
      intro v2_4 v3_4 h
      obtain ⟨g4, eg4, h⟩ := k_lp_s h
      rw [← eg4] at ih4
      rw [eb4] at h
      refine k_iload_n C dX11_digitOf_4 1 rfl ?_
      refine k_iconst C dX11_digitOf_5 (v := 3) rfl ?_
      refine k_icmp_ge C dX11_digitOf_6 (tgt := 20) (by decide) (fun c6 => ?_) (fun c6 => ?_)
      · replace h := k_if_t h c6
        refine k_iload_n C dX11_digitOf_20 0 rfl ?_
        refine k_bipush C dX11_digitOf_21 (v := 10) rfl ?_
        refine k_irem C dX11_digitOf_23 (by decide) ?_
        exact k_iret C dX11_digitOf_24 hr (k_p1 h)
      · replace h := k_if_f h c6
        refine k_iload_n C dX11_digitOf_9 0 rfl ?_
        refine k_bipush C dX11_digitOf_10 (v := 10) rfl ?_
        refine k_idiv C dX11_digitOf_12 (by decide) ?_
        refine k_topi (fun y13 ey13 => ?_)
        replace h := k_nm_e h y13 ey13
        refine k_istore_n C dX11_digitOf_13 (by decide) [0, 1] (L' := [(2, .int y13), (3, .int v3_4)]) rfl ?_
        refine k_iinc C dX11_digitOf_14 1 rfl (v := 1) rfl (by decide) [1, 0] (L' := fun z9 => [(2, .int y13), (3, .int z9)]) (fun z9 => rfl) (fun y14 ey14 => ?_)
        replace h := k_nm_e h y14 ey14
        refine k_goto C dX11_digitOf_17 (tgt := 4) (by decide) ?_
        exact ih4 _ _ h
  refine k_sub (L' := [(2, .int x0), (3, .int x1)]) [2, 3] rfl ?_
  exact K4 _ _ _ h
def f_X11_tugsOf (x0 : Int32) (x1 : Int32) : Option (Int32) :=
  k_bd (f_X11_within x0 (0 : Int32) (9999 : Int32)) fun v5 =>
  k_if (v5 = (0 : Int32))
    (some (-1 : Int32))
    (k_loop (fun (g17 : Int32 × Int32 → Option (Int32)) (z17 : Int32 × Int32) => match z17 with
      | (v2_17, v3_17) =>
        k_if ((4 : Int32) ≤ v3_17)
          (some v2_17)
          (k_bd (f_X11_digitOf x0 v3_17) fun v24 =>
          k_if (v24 < x1)
            (k_bd (f_X11_withSign v2_17 v3_17 v24) fun v41 =>
            k_nm (v3_17 + (1 : Int32)) fun y45 =>
            g17 (v41, y45))
            (some (-1 : Int32)))) 100000 ((0 : Int32), (0 : Int32)))
set_option maxHeartbeats 4000000 in
set_option maxRecDepth 100000 in
theorem e_X11_tugsOf {l : Launch} {w : k_WC} {d : Nat} (hd : 3 ≤ d) {x0 : Int32} {x1 : Int32}  {σ : k_St} {r : Int32} (h : f_X11_tugsOf x0 x1 = some r) : k_EI l (k_PX w) yX11_tugsOf cX11_tugsOf 5 (some .int) d [.int x0, .int x1] σ r σ := by
  refine k_of (own := RX11) rfl (by decide) (Nat.le_of_ble_eq_true rfl) (fun X hX C hr => ?_)
  show k_K (k_PX w) X (k_MQ X (k_Qi (k_PX w) r σ) (k_PX w).2.2.1) 0 [(0, .int x0), (1, .int x1)] [] σ
  unfold f_X11_tugsOf at h
  refine k_iload_n C dX11_tugsOf_0 0 rfl ?_
  refine k_iconst C dX11_tugsOf_1 (v := 0) rfl ?_
  refine k_sipush C dX11_tugsOf_2 (v := 9999) rfl ?_
  obtain ⟨v5, h5, h⟩ := k_bd_e h
  refine k_goI (k_runS C dX11_tugsOf_5 (e_X11_within (d := 2) (Nat.le_refl _) h5) k_lX11_118 k_yX11_within (by omega) rfl (Nat.le_of_ble_eq_true rfl)) ?_
  refine k_if_ne C dX11_tugsOf_8 (tgt := 13) (by decide) (fun c8 => ?_) (fun c8 => ?_)
  · replace h := k_if_f h c8
    refine k_iconst C dX11_tugsOf_13 (v := 0) rfl ?_
    refine k_istore_n C dX11_tugsOf_14 (by decide) [1, 2, 0] (L' := [(0, .int x0), (1, .int x1), (2, .int (0 : Int32))]) rfl ?_
    refine k_iconst C dX11_tugsOf_15 (v := 0) rfl ?_
    refine k_istore_n C dX11_tugsOf_16 (by decide) [1, 2, 3, 0] (L' := [(0, .int x0), (1, .int x1), (2, .int (0 : Int32)), (3, .int (0 : Int32))]) rfl ?_
    obtain ⟨b17, eb17, h⟩ := k_lp_e h
    have K17 : ∀ (n : Nat) (v2_17 : Int32) (v3_17 : Int32), k_loop b17 n (v2_17, v3_17) = some r → k_K (k_PX w) X (k_MQ X (k_Qi (k_PX w) r σ) (k_PX w).2.2.1) 17 [(0, .int x0), (1, .int x1), (2, .int v2_17), (3, .int v3_17)] [] σ := by
      intro n
      induction n with
      | zero => intro v2_17 v3_17 h; cases h
      | succ n ih17 =>
        intro v2_17 v3_17 h
        obtain ⟨g17, eg17, h⟩ := k_lp_s h
        rw [← eg17] at ih17
        rw [eb17] at h
        refine k_iload_n C dX11_tugsOf_17 3 rfl ?_
        refine k_iconst C dX11_tugsOf_18 (v := 4) rfl ?_
        refine k_icmp_ge C dX11_tugsOf_19 (tgt := 51) (by decide) (fun c19 => ?_) (fun c19 => ?_)
        · replace h := k_if_t h c19
          refine k_iload_n C dX11_tugsOf_51 2 rfl ?_
          exact k_iret C dX11_tugsOf_52 hr (k_p1 h)
        · replace h := k_if_f h c19
          refine k_iload_n C dX11_tugsOf_22 0 rfl ?_
          refine k_iload_n C dX11_tugsOf_23 3 rfl ?_
          obtain ⟨v24, h24, h⟩ := k_bd_e h
          refine k_goI (k_runS C dX11_tugsOf_24 (e_X11_digitOf (d := 2) (Nat.le_refl _) h24) k_lX11_425 k_yX11_digitOf (by omega) rfl (Nat.le_of_ble_eq_true rfl)) ?_
          refine k_istore C dX11_tugsOf_27 (by decide) [1, 2, 3, 4, 0] (L' := [(0, .int x0), (1, .int x1), (2, .int v2_17), (3, .int v3_17), (4, .int v24)]) rfl ?_
          refine k_iload C dX11_tugsOf_29 4 rfl ?_
          refine k_iload_n C dX11_tugsOf_31 1 rfl ?_
          refine k_icmp_lt C dX11_tugsOf_32 (tgt := 37) (by decide) (fun c32 => ?_) (fun c32 => ?_)
          · replace h := k_if_t h c32
            refine k_iload_n C dX11_tugsOf_37 2 rfl ?_
            refine k_iload_n C dX11_tugsOf_38 3 rfl ?_
            refine k_iload C dX11_tugsOf_39 4 rfl ?_
            obtain ⟨v41, h41, h⟩ := k_bd_e h
            refine k_goI (k_runS C dX11_tugsOf_41 (e_X11_withSign (d := 2) (Nat.le_refl _) h41) k_lX11_364 k_yX11_withSign (by omega) rfl (Nat.le_of_ble_eq_true rfl)) ?_
            refine k_istore_n C dX11_tugsOf_44 (by decide) [1, 2, 0, 3, 4] (L' := [(0, .int x0), (1, .int x1), (2, .int v41), (3, .int v3_17), (4, .int v24)]) rfl ?_
            refine k_iinc C dX11_tugsOf_45 3 rfl (v := 1) rfl (by decide) [1, 2, 3, 0, 4] (L' := fun z9 => [(0, .int x0), (1, .int x1), (2, .int v41), (3, .int z9), (4, .int v24)]) (fun z9 => rfl) (fun y45 ey45 => ?_)
            replace h := k_nm_e h y45 ey45
            refine k_goto C dX11_tugsOf_48 (tgt := 17) (by decide) ?_
            refine k_sub (L' := [(0, .int x0), (1, .int x1), (2, .int v41), (3, .int y45)]) [0, 1, 2, 3] rfl ?_
            exact ih17 _ _ h
          · replace h := k_if_f h c32
            refine k_iconst C dX11_tugsOf_35 (v := -1) rfl ?_
            exact k_iret C dX11_tugsOf_36 hr (k_p1 h)
    exact K17 _ _ _ h
  · replace h := k_if_t h c8
    refine k_iconst C dX11_tugsOf_11 (v := -1) rfl ?_
    exact k_iret C dX11_tugsOf_12 hr (k_p1 h)
def f_X11_placeOf (x0 : Int64) (x2 : Int32) (x3 : Int32) : Option (Int32) :=
  some ((o_lushr x0 ((3 : Int32) * ((x2 * (4 : Int32)) + x3))).toInt32 &&& (7 : Int32))
set_option maxHeartbeats 4000000 in
set_option maxRecDepth 100000 in
theorem e_X11_placeOf {l : Launch} {w : k_WC} {d : Nat} (hd : 2 ≤ d) {x0 : Int64} {x2 : Int32} {x3 : Int32}  {σ : k_St} {r : Int32} (h : f_X11_placeOf x0 x2 x3 = some r) : k_EI l (k_PX w) yX11_placeOf cX11_placeOf 4 (some .int) d [.long x0, .int x2, .int x3] σ r σ := by
  refine k_of (own := RX11) rfl (by decide) (Nat.le_of_ble_eq_true rfl) (fun X hX C hr => ?_)
  show k_K (k_PX w) X (k_MQ X (k_Qi (k_PX w) r σ) (k_PX w).2.2.1) 0 [(0, .long x0), (2, .int x2), (3, .int x3)] [] σ
  unfold f_X11_placeOf at h
  refine k_lload_n C dX11_placeOf_0 0 rfl ?_
  refine k_iconst C dX11_placeOf_1 (v := 3) rfl ?_
  refine k_iload_n C dX11_placeOf_2 1 rfl ?_
  refine k_iconst C dX11_placeOf_3 (v := 4) rfl ?_
  refine k_imul C dX11_placeOf_4 ?_
  refine k_iload_n C dX11_placeOf_5 2 rfl ?_
  refine k_iadd C dX11_placeOf_6 ?_
  refine k_imul C dX11_placeOf_7 ?_
  refine k_lushr C dX11_placeOf_8 ?_
  refine k_l2i C dX11_placeOf_9 ?_
  refine k_bipush C dX11_placeOf_10 (v := 7) rfl ?_
  refine k_iand C dX11_placeOf_12 ?_
  exact k_iret C dX11_placeOf_13 hr (k_p1 h)
def f_X11_withPlace (x0 : Int64) (x2 : Int32) (x3 : Int32) (x4 : Int32) : Option (Int64) :=
  k_nm (((3 : Int32) * ((x2 * (4 : Int32)) + x3))) fun y7 =>
  some ((x0 &&& ((o_lshl (7 : Int64) y7) ^^^ (-1 : Int64))) ||| (o_lshl (x4 &&& (7 : Int32)).toInt64 y7))
set_option maxHeartbeats 4000000 in
set_option maxRecDepth 100000 in
theorem e_X11_withPlace {l : Launch} {w : k_WC} {d : Nat} (hd : 2 ≤ d) {x0 : Int64} {x2 : Int32} {x3 : Int32} {x4 : Int32}  {σ : k_St} {r : Int64} (h : f_X11_withPlace x0 x2 x3 x4 = some r) : k_EL l (k_PX w) yX11_withPlace cX11_withPlace 6 d [.long x0, .int x2, .int x3, .int x4] σ r σ := by
  refine k_of (own := RX11) rfl (by decide) (Nat.le_of_ble_eq_true rfl) (fun X hX C hr => ?_)
  show k_K (k_PX w) X (k_MQ X (k_Ql (k_PX w) r σ) (k_PX w).2.2.1) 0 [(0, .long x0), (2, .int x2), (3, .int x3), (4, .int x4)] [] σ
  unfold f_X11_withPlace at h
  refine k_iconst C dX11_withPlace_0 (v := 3) rfl ?_
  refine k_iload_n C dX11_withPlace_1 1 rfl ?_
  refine k_iconst C dX11_withPlace_2 (v := 4) rfl ?_
  refine k_imul C dX11_withPlace_3 ?_
  refine k_iload_n C dX11_withPlace_4 2 rfl ?_
  refine k_iadd C dX11_withPlace_5 ?_
  refine k_imul C dX11_withPlace_6 ?_
  refine k_topi (fun y7 ey7 => ?_)
  replace h := k_nm_e h y7 ey7
  refine k_istore C dX11_withPlace_7 (by decide) [1, 2, 3, 4, 0] (L' := [(0, .long x0), (2, .int x2), (3, .int x3), (4, .int x4), (5, .int y7)]) rfl ?_
  refine k_lload_n C dX11_withPlace_9 0 rfl ?_
  refine k_ldc2 C dX11_withPlace_10 k_cX11_428 ?_
  refine k_iload C dX11_withPlace_13 4 rfl ?_
  refine k_lshl C dX11_withPlace_15 ?_
  refine k_ldc2 C dX11_withPlace_16 k_cX11_260 ?_
  refine k_lxor C dX11_withPlace_19 ?_
  refine k_land C dX11_withPlace_20 ?_
  refine k_iload C dX11_withPlace_21 3 rfl ?_
  refine k_bipush C dX11_withPlace_23 (v := 7) rfl ?_
  refine k_iand C dX11_withPlace_25 ?_
  refine k_i2l C dX11_withPlace_26 ?_
  refine k_iload C dX11_withPlace_27 4 rfl ?_
  refine k_lshl C dX11_withPlace_29 ?_
  refine k_lor C dX11_withPlace_30 ?_
  exact k_lret C dX11_withPlace_31 hr (k_p1 h)
def f_X3_restart (c0 : Nat) (σ : k_St) : Option (k_St) :=
  k_nm (k_wr σ c0 2 (0 : Int32)) fun s2 =>
  k_nm (k_wr s2 c0 3 (-1 : Int32)) fun s7 =>
  some s7
set_option maxHeartbeats 4000000 in
set_option maxRecDepth 100000 in
theorem e_X3_restart_3 {l : Launch} {w : k_WC} {d : Nat} (hd : 2 ≤ d)   {σ σ' : k_St} (h : f_X3_restart 3 σ = some σ') : k_EV l (k_PX w) yX3_restart cX3_restart 1 d [.ref (w.2.1 3)] σ σ' := by
  refine k_of (own := RX3) rfl (by decide) (Nat.le_of_ble_eq_true rfl) (fun X hX C hr => ?_)
  show k_K (k_PX w) X (k_MQ X (k_Qv (k_PX w) σ') (k_PX w).2.2.1) 0 [(0, .ref (w.2.1 3))] [] σ
  unfold f_X3_restart at h
  refine k_aload_n C dX3_restart_0 0 rfl ?_
  refine k_iconst C dX3_restart_1 (v := 0) rfl ?_
  refine k_puti C dX3_restart_2 (k_pX3_2 w) k_fX3_19 (Or.inl rfl) k_xi ?_
  refine k_st (fun s2 es2 => ?_)
  replace h := k_nm_e h s2 es2
  refine k_aload_n C dX3_restart_5 0 rfl ?_
  refine k_iconst C dX3_restart_6 (v := -1) rfl ?_
  refine k_puti C dX3_restart_7 (k_pX3_3 w) k_fX3_22 (Or.inl rfl) k_xi ?_
  refine k_st (fun s7 es7 => ?_)
  replace h := k_nm_e h s7 es7
  exact k_vret C dX3_restart_10 hr (Option.some.inj h)
set_option maxHeartbeats 4000000 in
set_option maxRecDepth 100000 in
theorem e_X3_restart_7 {l : Launch} {w : k_WC} {d : Nat} (hd : 2 ≤ d)   {σ σ' : k_St} (h : f_X3_restart 7 σ = some σ') : k_EV l (k_PX w) yX3_restart cX3_restart 1 d [.ref (w.2.1 7)] σ σ' := by
  refine k_of (own := RX3) rfl (by decide) (Nat.le_of_ble_eq_true rfl) (fun X hX C hr => ?_)
  show k_K (k_PX w) X (k_MQ X (k_Qv (k_PX w) σ') (k_PX w).2.2.1) 0 [(0, .ref (w.2.1 7))] [] σ
  unfold f_X3_restart at h
  refine k_aload_n C dX3_restart_0 0 rfl ?_
  refine k_iconst C dX3_restart_1 (v := 0) rfl ?_
  refine k_puti C dX3_restart_2 (k_pX7_2 w) k_fX3_19 (Or.inl rfl) k_xi ?_
  refine k_st (fun s2 es2 => ?_)
  replace h := k_nm_e h s2 es2
  refine k_aload_n C dX3_restart_5 0 rfl ?_
  refine k_iconst C dX3_restart_6 (v := -1) rfl ?_
  refine k_puti C dX3_restart_7 (k_pX7_3 w) k_fX3_22 (Or.inl rfl) k_xi ?_
  refine k_st (fun s7 es7 => ?_)
  replace h := k_nm_e h s7 es7
  exact k_vret C dX3_restart_10 hr (Option.some.inj h)
def f_X3_load (c0 : Nat) (a1 : Nat) (x2 : Int32) (x3 : Int32) (σ : k_St) : Option (k_St) :=
  k_jn (fun (t0_30 : Int32) =>
    k_jn (fun (t1_43 : Int32) =>
      k_nm (k_wr σ c0 1 t1_43) fun s43 =>
      k_jn (fun (s_62 : k_St) =>
        k_bd (f_X3_restart c0 s_62) fun s63 =>
        some s63) fun j62 =>
      k_if (t0_30 = (0 : Int32))
        (j62 s43)
        (k_gd (o_cp x2 (0 : Int32) x3 (k_nX a1) 160 = true) <|
        k_nm (k_cpI s43 a1 (c0 + 1) x2 (0 : Int32) x3) fun s59 =>
        j62 s59)) fun j43 =>
    k_if (t0_30 = (0 : Int32))
      (j43 (0 : Int32))
      (j43 x3)) fun j30 =>
  k_jn (fun (_ : Unit) =>
    j30 (0 : Int32)) fun j29 =>
  k_if (x2 < (0 : Int32))
    (j29 ())
    (k_if (x3 < (0 : Int32))
      (j29 ())
      (k_if ((160 : Int32) < x3)
        (j29 ())
        (k_if (((Int32.ofNat (k_nX a1)) - x3) < x2)
          (j29 ())
          (j30 (1 : Int32)))))
set_option maxHeartbeats 4000000 in
set_option maxRecDepth 100000 in
theorem e_X3_load_3 {l : Launch} {w : k_WC} {d : Nat} (hd : 3 ≤ d) {a1 : Nat} {x2 : Int32} {x3 : Int32} (ha1 : k_AI (k_PX w) .int a1 (w.2.1 a1) (k_nX a1)) {σ σ' : k_St} (h : f_X3_load 3 a1 x2 x3 σ = some σ') : k_EV l (k_PX w) yX3_load cX3_load 5 d [.ref (w.2.1 3), .ref (w.2.1 a1), .int x2, .int x3] σ σ' := by
  refine k_of (own := RX3) rfl (by decide) (Nat.le_of_ble_eq_true rfl) (fun X hX C hr => ?_)
  show k_K (k_PX w) X (k_MQ X (k_Qv (k_PX w) σ') (k_PX w).2.2.1) 0 [(0, .ref (w.2.1 3)), (1, .ref (w.2.1 a1)), (2, .int x2), (3, .int x3)] [] σ
  unfold f_X3_load at h
  refine k_iload_n C dX3_load_0 2 rfl ?_
  obtain ⟨j30, ej30, h⟩ := k_jn_e h
  have Jj30 : ∀ (t0_30 : Int32), j30 t0_30 = some σ' → k_K (k_PX w) X (k_MQ X (k_Qv (k_PX w) σ') (k_PX w).2.2.1) 30 [(0, .ref (w.2.1 3)), (1, .ref (w.2.1 a1)), (2, .int x2), (3, .int x3)] [.int t0_30] σ := by
    intro t0_30 h
    rw [ej30] at h
    refine k_istore C dX3_load_30 (by decide) [1, 2, 3, 4, 0] (L' := [(0, .ref (w.2.1 3)), (1, .ref (w.2.1 a1)), (2, .int x2), (3, .int x3), (4, .int t0_30)]) rfl ?_
    refine k_aload_n C dX3_load_32 0 rfl ?_
    refine k_iload C dX3_load_33 4 rfl ?_
    obtain ⟨j43, ej43, h⟩ := k_jn_e h
    have Jj43 : ∀ (t1_43 : Int32), j43 t1_43 = some σ' → k_K (k_PX w) X (k_MQ X (k_Qv (k_PX w) σ') (k_PX w).2.2.1) 43 [(0, .ref (w.2.1 3)), (1, .ref (w.2.1 a1)), (2, .int x2), (3, .int x3), (4, .int t0_30)] [.int t1_43, .ref (w.2.1 3)] σ := by
      intro t1_43 h
      rw [ej43] at h
      refine k_puti C dX3_load_43 (k_pX3_1 w) k_fX3_15 (Or.inl rfl) k_xi ?_
      refine k_st (fun s43 es43 => ?_)
      replace h := k_nm_e h s43 es43
      refine k_iload C dX3_load_46 4 rfl ?_
      obtain ⟨j62, ej62, h⟩ := k_jn_e h
      have Jj62 : ∀ (s_62 : k_St), j62 s_62 = some σ' → k_K (k_PX w) X (k_MQ X (k_Qv (k_PX w) σ') (k_PX w).2.2.1) 62 [(0, .ref (w.2.1 3))] [] s_62 := by
        intro s_62 h
        rw [ej62] at h
        refine k_aload_n C dX3_load_62 0 rfl ?_
        obtain ⟨s63, h63, h⟩ := k_bd_e h
        refine k_goV (k_runV C dX3_load_63 (e_X3_restart_3 (d := 2) (Nat.le_refl _) h63) k_lX3_31_X2 k_yX3_restart (k_oX3 w) (by omega) rfl (Nat.le_of_ble_eq_true rfl)) ?_
        exact k_vret C dX3_load_66 hr (Option.some.inj h)
      refine k_if_eq C dX3_load_48 (tgt := 62) (by decide) (fun c48 => ?_) (fun c48 => ?_)
      · replace h := k_if_t h c48
        refine k_sub (L' := [(0, .ref (w.2.1 3))]) [0] rfl ?_
        exact Jj62 _ h
      · replace h := k_if_f h c48
        refine k_aload_n C dX3_load_51 1 rfl ?_
        refine k_iload_n C dX3_load_52 2 rfl ?_
        refine k_aload_n C dX3_load_53 0 rfl ?_
        refine k_get C dX3_load_54 (k_gX3_0 w) k_fX3_9 (Or.inl rfl) ?_
        refine k_iconst C dX3_load_57 (v := 0) rfl ?_
        refine k_iload_n C dX3_load_58 3 rfl ?_
        obtain ⟨q59, h⟩ := k_gd_e h
        refine k_copyi C dX3_load_59 k_lcX3_25 ha1 (k_aX4 w) q59 (by omega) (Nat.le_of_ble_eq_true rfl) ?_
        refine k_st (fun s59 es59 => ?_)
        replace h := k_nm_e h s59 es59
        refine k_sub (L' := [(0, .ref (w.2.1 3))]) [0] rfl ?_
        exact Jj62 _ h
    refine k_if_eq C dX3_load_35 (tgt := 42) (by decide) (fun c35 => ?_) (fun c35 => ?_)
    · replace h := k_if_t h c35
      refine k_iconst C dX3_load_42 (v := 0) rfl ?_
      exact Jj43 _ h
    · replace h := k_if_f h c35
      refine k_iload_n C dX3_load_38 3 rfl ?_
      refine k_goto C dX3_load_39 (tgt := 43) (by decide) ?_
      exact Jj43 _ h
  obtain ⟨j29, ej29, h⟩ := k_jn_e h
  have Jj29 : j29 () = some σ' → k_K (k_PX w) X (k_MQ X (k_Qv (k_PX w) σ') (k_PX w).2.2.1) 29 [(0, .ref (w.2.1 3)), (1, .ref (w.2.1 a1)), (2, .int x2), (3, .int x3)] [] σ := by
    intro  h
    rw [ej29] at h
    refine k_iconst C dX3_load_29 (v := 0) rfl ?_
    exact Jj30 _ h
  refine k_if_lt C dX3_load_1 (tgt := 29) (by decide) (fun c1 => ?_) (fun c1 => ?_)
  · replace h := k_if_t h c1
    exact Jj29 h
  · replace h := k_if_f h c1
    refine k_iload_n C dX3_load_4 3 rfl ?_
    refine k_if_lt C dX3_load_5 (tgt := 29) (by decide) (fun c5 => ?_) (fun c5 => ?_)
    · replace h := k_if_t h c5
      exact Jj29 h
    · replace h := k_if_f h c5
      refine k_iload_n C dX3_load_8 3 rfl ?_
      refine k_aload_n C dX3_load_9 0 rfl ?_
      refine k_get C dX3_load_10 (k_gX3_0 w) k_fX3_9 (Or.inl rfl) ?_
      refine k_alen C dX3_load_13 (k_aX4 w) (v := 160) rfl ?_
      refine k_icmp_gt C dX3_load_14 (tgt := 29) (by decide) (fun c14 => ?_) (fun c14 => ?_)
      · replace h := k_if_t h c14
        exact Jj29 h
      · replace h := k_if_f h c14
        refine k_iload_n C dX3_load_17 2 rfl ?_
        refine k_aload_n C dX3_load_18 1 rfl ?_
        refine k_alen C dX3_load_19 ha1 rfl ?_
        refine k_iload_n C dX3_load_20 3 rfl ?_
        refine k_isub C dX3_load_21 ?_
        refine k_icmp_gt C dX3_load_22 (tgt := 29) (by decide) (fun c22 => ?_) (fun c22 => ?_)
        · replace h := k_if_t h c22
          exact Jj29 h
        · replace h := k_if_f h c22
          refine k_iconst C dX3_load_25 (v := 1) rfl ?_
          refine k_goto C dX3_load_26 (tgt := 30) (by decide) ?_
          exact Jj30 _ h
set_option maxHeartbeats 4000000 in
set_option maxRecDepth 100000 in
theorem e_X3_load_7 {l : Launch} {w : k_WC} {d : Nat} (hd : 3 ≤ d) {a1 : Nat} {x2 : Int32} {x3 : Int32} (ha1 : k_AI (k_PX w) .int a1 (w.2.1 a1) (k_nX a1)) {σ σ' : k_St} (h : f_X3_load 7 a1 x2 x3 σ = some σ') : k_EV l (k_PX w) yX3_load cX3_load 5 d [.ref (w.2.1 7), .ref (w.2.1 a1), .int x2, .int x3] σ σ' := by
  refine k_of (own := RX3) rfl (by decide) (Nat.le_of_ble_eq_true rfl) (fun X hX C hr => ?_)
  show k_K (k_PX w) X (k_MQ X (k_Qv (k_PX w) σ') (k_PX w).2.2.1) 0 [(0, .ref (w.2.1 7)), (1, .ref (w.2.1 a1)), (2, .int x2), (3, .int x3)] [] σ
  unfold f_X3_load at h
  refine k_iload_n C dX3_load_0 2 rfl ?_
  obtain ⟨j30, ej30, h⟩ := k_jn_e h
  have Jj30 : ∀ (t0_30 : Int32), j30 t0_30 = some σ' → k_K (k_PX w) X (k_MQ X (k_Qv (k_PX w) σ') (k_PX w).2.2.1) 30 [(0, .ref (w.2.1 7)), (1, .ref (w.2.1 a1)), (2, .int x2), (3, .int x3)] [.int t0_30] σ := by
    intro t0_30 h
    rw [ej30] at h
    refine k_istore C dX3_load_30 (by decide) [1, 2, 3, 4, 0] (L' := [(0, .ref (w.2.1 7)), (1, .ref (w.2.1 a1)), (2, .int x2), (3, .int x3), (4, .int t0_30)]) rfl ?_
    refine k_aload_n C dX3_load_32 0 rfl ?_
    refine k_iload C dX3_load_33 4 rfl ?_
    obtain ⟨j43, ej43, h⟩ := k_jn_e h
    have Jj43 : ∀ (t1_43 : Int32), j43 t1_43 = some σ' → k_K (k_PX w) X (k_MQ X (k_Qv (k_PX w) σ') (k_PX w).2.2.1) 43 [(0, .ref (w.2.1 7)), (1, .ref (w.2.1 a1)), (2, .int x2), (3, .int x3), (4, .int t0_30)] [.int t1_43, .ref (w.2.1 7)] σ := by
      intro t1_43 h
      rw [ej43] at h
      refine k_puti C dX3_load_43 (k_pX7_1 w) k_fX3_15 (Or.inl rfl) k_xi ?_
      refine k_st (fun s43 es43 => ?_)
      replace h := k_nm_e h s43 es43
      refine k_iload C dX3_load_46 4 rfl ?_
      obtain ⟨j62, ej62, h⟩ := k_jn_e h
      have Jj62 : ∀ (s_62 : k_St), j62 s_62 = some σ' → k_K (k_PX w) X (k_MQ X (k_Qv (k_PX w) σ') (k_PX w).2.2.1) 62 [(0, .ref (w.2.1 7))] [] s_62 := by
        intro s_62 h
        rw [ej62] at h
        refine k_aload_n C dX3_load_62 0 rfl ?_
        obtain ⟨s63, h63, h⟩ := k_bd_e h
        refine k_goV (k_runV C dX3_load_63 (e_X3_restart_7 (d := 2) (Nat.le_refl _) h63) k_lX3_31_X10 k_yX3_restart (k_oX7 w) (by omega) rfl (Nat.le_of_ble_eq_true rfl)) ?_
        exact k_vret C dX3_load_66 hr (Option.some.inj h)
      refine k_if_eq C dX3_load_48 (tgt := 62) (by decide) (fun c48 => ?_) (fun c48 => ?_)
      · replace h := k_if_t h c48
        refine k_sub (L' := [(0, .ref (w.2.1 7))]) [0] rfl ?_
        exact Jj62 _ h
      · replace h := k_if_f h c48
        refine k_aload_n C dX3_load_51 1 rfl ?_
        refine k_iload_n C dX3_load_52 2 rfl ?_
        refine k_aload_n C dX3_load_53 0 rfl ?_
        refine k_get C dX3_load_54 (k_gX7_0 w) k_fX3_9 (Or.inl rfl) ?_
        refine k_iconst C dX3_load_57 (v := 0) rfl ?_
        refine k_iload_n C dX3_load_58 3 rfl ?_
        obtain ⟨q59, h⟩ := k_gd_e h
        refine k_copyi C dX3_load_59 k_lcX3_25 ha1 (k_aX8 w) q59 (by omega) (Nat.le_of_ble_eq_true rfl) ?_
        refine k_st (fun s59 es59 => ?_)
        replace h := k_nm_e h s59 es59
        refine k_sub (L' := [(0, .ref (w.2.1 7))]) [0] rfl ?_
        exact Jj62 _ h
    refine k_if_eq C dX3_load_35 (tgt := 42) (by decide) (fun c35 => ?_) (fun c35 => ?_)
    · replace h := k_if_t h c35
      refine k_iconst C dX3_load_42 (v := 0) rfl ?_
      exact Jj43 _ h
    · replace h := k_if_f h c35
      refine k_iload_n C dX3_load_38 3 rfl ?_
      refine k_goto C dX3_load_39 (tgt := 43) (by decide) ?_
      exact Jj43 _ h
  obtain ⟨j29, ej29, h⟩ := k_jn_e h
  have Jj29 : j29 () = some σ' → k_K (k_PX w) X (k_MQ X (k_Qv (k_PX w) σ') (k_PX w).2.2.1) 29 [(0, .ref (w.2.1 7)), (1, .ref (w.2.1 a1)), (2, .int x2), (3, .int x3)] [] σ := by
    intro  h
    rw [ej29] at h
    refine k_iconst C dX3_load_29 (v := 0) rfl ?_
    exact Jj30 _ h
  refine k_if_lt C dX3_load_1 (tgt := 29) (by decide) (fun c1 => ?_) (fun c1 => ?_)
  · replace h := k_if_t h c1
    exact Jj29 h
  · replace h := k_if_f h c1
    refine k_iload_n C dX3_load_4 3 rfl ?_
    refine k_if_lt C dX3_load_5 (tgt := 29) (by decide) (fun c5 => ?_) (fun c5 => ?_)
    · replace h := k_if_t h c5
      exact Jj29 h
    · replace h := k_if_f h c5
      refine k_iload_n C dX3_load_8 3 rfl ?_
      refine k_aload_n C dX3_load_9 0 rfl ?_
      refine k_get C dX3_load_10 (k_gX7_0 w) k_fX3_9 (Or.inl rfl) ?_
      refine k_alen C dX3_load_13 (k_aX8 w) (v := 160) rfl ?_
      refine k_icmp_gt C dX3_load_14 (tgt := 29) (by decide) (fun c14 => ?_) (fun c14 => ?_)
      · replace h := k_if_t h c14
        exact Jj29 h
      · replace h := k_if_f h c14
        refine k_iload_n C dX3_load_17 2 rfl ?_
        refine k_aload_n C dX3_load_18 1 rfl ?_
        refine k_alen C dX3_load_19 ha1 rfl ?_
        refine k_iload_n C dX3_load_20 3 rfl ?_
        refine k_isub C dX3_load_21 ?_
        refine k_icmp_gt C dX3_load_22 (tgt := 29) (by decide) (fun c22 => ?_) (fun c22 => ?_)
        · replace h := k_if_t h c22
          exact Jj29 h
        · replace h := k_if_f h c22
          refine k_iconst C dX3_load_25 (v := 1) rfl ?_
          refine k_goto C dX3_load_26 (tgt := 30) (by decide) ?_
          exact Jj30 _ h
def f_X3_mark (c0 : Nat) (σ : k_St) : Option (Int32) :=
  some (k_rd σ c0 2)
set_option maxHeartbeats 4000000 in
set_option maxRecDepth 100000 in
theorem e_X3_mark_3 {l : Launch} {w : k_WC} {d : Nat} (hd : 2 ≤ d)   {σ : k_St} {r : Int32} (h : f_X3_mark 3 σ = some r) : k_EI l (k_PX w) yX3_mark cX3_mark 1 (some .int) d [.ref (w.2.1 3)] σ r σ := by
  refine k_of (own := RX3) rfl (by decide) (Nat.le_of_ble_eq_true rfl) (fun X hX C hr => ?_)
  show k_K (k_PX w) X (k_MQ X (k_Qi (k_PX w) r σ) (k_PX w).2.2.1) 0 [(0, .ref (w.2.1 3))] [] σ
  unfold f_X3_mark at h
  refine k_aload_n C dX3_mark_0 0 rfl ?_
  refine k_get C dX3_mark_1 (k_gX3_2 w) k_fX3_19 (Or.inl rfl) ?_
  exact k_iret C dX3_mark_4 hr (k_p1 h)
set_option maxHeartbeats 4000000 in
set_option maxRecDepth 100000 in
theorem e_X3_mark_7 {l : Launch} {w : k_WC} {d : Nat} (hd : 2 ≤ d)   {σ : k_St} {r : Int32} (h : f_X3_mark 7 σ = some r) : k_EI l (k_PX w) yX3_mark cX3_mark 1 (some .int) d [.ref (w.2.1 7)] σ r σ := by
  refine k_of (own := RX3) rfl (by decide) (Nat.le_of_ble_eq_true rfl) (fun X hX C hr => ?_)
  show k_K (k_PX w) X (k_MQ X (k_Qi (k_PX w) r σ) (k_PX w).2.2.1) 0 [(0, .ref (w.2.1 7))] [] σ
  unfold f_X3_mark at h
  refine k_aload_n C dX3_mark_0 0 rfl ?_
  refine k_get C dX3_mark_1 (k_gX7_2 w) k_fX3_19 (Or.inl rfl) ?_
  exact k_iret C dX3_mark_4 hr (k_p1 h)
def f_X3_returnTo (c0 : Nat) (x1 : Int32) (σ : k_St) : Option (k_St) :=
  k_nm (k_wr σ c0 2 x1) fun s2 =>
  some s2
set_option maxHeartbeats 4000000 in
set_option maxRecDepth 100000 in
theorem e_X3_returnTo_3 {l : Launch} {w : k_WC} {d : Nat} (hd : 2 ≤ d) {x1 : Int32}  {σ σ' : k_St} (h : f_X3_returnTo 3 x1 σ = some σ') : k_EV l (k_PX w) yX3_returnTo cX3_returnTo 2 d [.ref (w.2.1 3), .int x1] σ σ' := by
  refine k_of (own := RX3) rfl (by decide) (Nat.le_of_ble_eq_true rfl) (fun X hX C hr => ?_)
  show k_K (k_PX w) X (k_MQ X (k_Qv (k_PX w) σ') (k_PX w).2.2.1) 0 [(0, .ref (w.2.1 3)), (1, .int x1)] [] σ
  unfold f_X3_returnTo at h
  refine k_aload_n C dX3_returnTo_0 0 rfl ?_
  refine k_iload_n C dX3_returnTo_1 1 rfl ?_
  refine k_puti C dX3_returnTo_2 (k_pX3_2 w) k_fX3_19 (Or.inl rfl) k_xi ?_
  refine k_st (fun s2 es2 => ?_)
  replace h := k_nm_e h s2 es2
  exact k_vret C dX3_returnTo_5 hr (Option.some.inj h)
set_option maxHeartbeats 4000000 in
set_option maxRecDepth 100000 in
theorem e_X3_returnTo_7 {l : Launch} {w : k_WC} {d : Nat} (hd : 2 ≤ d) {x1 : Int32}  {σ σ' : k_St} (h : f_X3_returnTo 7 x1 σ = some σ') : k_EV l (k_PX w) yX3_returnTo cX3_returnTo 2 d [.ref (w.2.1 7), .int x1] σ σ' := by
  refine k_of (own := RX3) rfl (by decide) (Nat.le_of_ble_eq_true rfl) (fun X hX C hr => ?_)
  show k_K (k_PX w) X (k_MQ X (k_Qv (k_PX w) σ') (k_PX w).2.2.1) 0 [(0, .ref (w.2.1 7)), (1, .int x1)] [] σ
  unfold f_X3_returnTo at h
  refine k_aload_n C dX3_returnTo_0 0 rfl ?_
  refine k_iload_n C dX3_returnTo_1 1 rfl ?_
  refine k_puti C dX3_returnTo_2 (k_pX7_2 w) k_fX3_19 (Or.inl rfl) k_xi ?_
  refine k_st (fun s2 es2 => ?_)
  replace h := k_nm_e h s2 es2
  exact k_vret C dX3_returnTo_5 hr (Option.some.inj h)
def f_X3_next (c0 : Nat) (σ : k_St) : Option (Int32 × k_St) :=
  k_loop (fun (g0 : k_St → Option (Int32 × k_St)) (z0 : k_St) => match z0 with
    | s_0 =>
      k_jn (fun (_ : Unit) =>
        k_if ((k_rd s_0 c0 1) ≤ (k_rd s_0 c0 2))
          (some ((-2 : Int32), s_0))
          (k_gd (k_ix (k_rd s_0 c0 2) 160 = true) <|
          some ((k_rd s_0 (c0 + 1) (k_rd s_0 c0 2).toNatClampNeg), s_0))) fun j38 =>
      k_if ((k_rd s_0 c0 1) ≤ (k_rd s_0 c0 2))
        (j38 ())
        (k_gd (k_ix (k_rd s_0 c0 2) 160 = true) <|
        k_if ((k_rd s_0 (c0 + 1) (k_rd s_0 c0 2).toNatClampNeg) = (32 : Int32))
          (k_nm (k_wr s_0 c0 2 ((k_rd s_0 c0 2) + (1 : Int32))) fun s32 =>
          g0 s32)
          (j38 ()))) 100000 σ
set_option maxHeartbeats 4000000 in
set_option maxRecDepth 100000 in
theorem e_X3_next_3 {l : Launch} {w : k_WC} {d : Nat} (hd : 2 ≤ d)   {σ σ' : k_St} {r : Int32} (h : f_X3_next 3 σ = some (r, σ')) : k_EI l (k_PX w) yX3_next cX3_next 1 (some .int) d [.ref (w.2.1 3)] σ r σ' := by
  refine k_of (own := RX3) rfl (by decide) (Nat.le_of_ble_eq_true rfl) (fun X hX C hr => ?_)
  show k_K (k_PX w) X (k_MQ X (k_Qi (k_PX w) r σ') (k_PX w).2.2.1) 0 [(0, .ref (w.2.1 3))] [] σ
  unfold f_X3_next at h
  obtain ⟨b0, eb0, h⟩ := k_lp_e h
  have K0 : ∀ (n : Nat) (s_0 : k_St), k_loop b0 n s_0 = some (r, σ') → k_K (k_PX w) X (k_MQ X (k_Qi (k_PX w) r σ') (k_PX w).2.2.1) 0 [(0, .ref (w.2.1 3))] [] s_0 := by
    intro n
    induction n with
    | zero => intro s_0 h; cases h
    | succ n ih0 =>
      intro s_0 h
      obtain ⟨g0, eg0, h⟩ := k_lp_s h
      rw [← eg0] at ih0
      rw [eb0] at h
      refine k_aload_n C dX3_next_0 0 rfl ?_
      refine k_get C dX3_next_1 (k_gX3_2 w) k_fX3_19 (Or.inl rfl) ?_
      refine k_aload_n C dX3_next_4 0 rfl ?_
      refine k_get C dX3_next_5 (k_gX3_1 w) k_fX3_15 (Or.inl rfl) ?_
      obtain ⟨j38, ej38, h⟩ := k_jn_e h
      have Jj38 : j38 () = some (r, σ') → k_K (k_PX w) X (k_MQ X (k_Qi (k_PX w) r σ') (k_PX w).2.2.1) 38 [(0, .ref (w.2.1 3))] [] s_0 := by
        intro  h
        rw [ej38] at h
        refine k_aload_n C dX3_next_38 0 rfl ?_
        refine k_get C dX3_next_39 (k_gX3_2 w) k_fX3_19 (Or.inl rfl) ?_
        refine k_aload_n C dX3_next_42 0 rfl ?_
        refine k_get C dX3_next_43 (k_gX3_1 w) k_fX3_15 (Or.inl rfl) ?_
        refine k_icmp_ge C dX3_next_46 (tgt := 61) (by decide) (fun c46 => ?_) (fun c46 => ?_)
        · replace h := k_if_t h c46
          refine k_bipush C dX3_next_61 (v := -2) rfl ?_
          exact k_iret C dX3_next_63 hr (Option.some.inj h)
        · replace h := k_if_f h c46
          refine k_aload_n C dX3_next_49 0 rfl ?_
          refine k_get C dX3_next_50 (k_gX3_0 w) k_fX3_9 (Or.inl rfl) ?_
          refine k_aload_n C dX3_next_53 0 rfl ?_
          refine k_get C dX3_next_54 (k_gX3_2 w) k_fX3_19 (Or.inl rfl) ?_
          obtain ⟨q57, h⟩ := k_gd_e h
          refine k_iald C dX3_next_57 (k_aX4 w) q57 ?_
          refine k_goto C dX3_next_58 (tgt := 63) (by decide) ?_
          exact k_iret C dX3_next_63 hr (Option.some.inj h)
      refine k_icmp_ge C dX3_next_8 (tgt := 38) (by decide) (fun c8 => ?_) (fun c8 => ?_)
      · replace h := k_if_t h c8
        exact Jj38 h
      · replace h := k_if_f h c8
        refine k_aload_n C dX3_next_11 0 rfl ?_
        refine k_get C dX3_next_12 (k_gX3_0 w) k_fX3_9 (Or.inl rfl) ?_
        refine k_aload_n C dX3_next_15 0 rfl ?_
        refine k_get C dX3_next_16 (k_gX3_2 w) k_fX3_19 (Or.inl rfl) ?_
        obtain ⟨q19, h⟩ := k_gd_e h
        refine k_iald C dX3_next_19 (k_aX4 w) q19 ?_
        refine k_bipush C dX3_next_20 (v := 32) rfl ?_
        refine k_icmp_ne C dX3_next_22 (tgt := 38) (by decide) (fun c22 => ?_) (fun c22 => ?_)
        · replace h := k_if_f h c22
          exact Jj38 h
        · replace h := k_if_t h c22
          refine k_aload_n C dX3_next_25 0 rfl ?_
          refine k_dup C dX3_next_26 rfl ?_
          refine k_get C dX3_next_27 (k_gX3_2 w) k_fX3_19 (Or.inl rfl) ?_
          refine k_iconst C dX3_next_30 (v := 1) rfl ?_
          refine k_iadd C dX3_next_31 ?_
          refine k_puti C dX3_next_32 (k_pX3_2 w) k_fX3_19 (Or.inl rfl) k_xi ?_
          refine k_st (fun s32 es32 => ?_)
          replace h := k_nm_e h s32 es32
          refine k_goto C dX3_next_35 (tgt := 0) (by decide) ?_
          exact ih0 _ h
  exact K0 _ _ h
set_option maxHeartbeats 4000000 in
set_option maxRecDepth 100000 in
theorem e_X3_next_7 {l : Launch} {w : k_WC} {d : Nat} (hd : 2 ≤ d)   {σ σ' : k_St} {r : Int32} (h : f_X3_next 7 σ = some (r, σ')) : k_EI l (k_PX w) yX3_next cX3_next 1 (some .int) d [.ref (w.2.1 7)] σ r σ' := by
  refine k_of (own := RX3) rfl (by decide) (Nat.le_of_ble_eq_true rfl) (fun X hX C hr => ?_)
  show k_K (k_PX w) X (k_MQ X (k_Qi (k_PX w) r σ') (k_PX w).2.2.1) 0 [(0, .ref (w.2.1 7))] [] σ
  unfold f_X3_next at h
  obtain ⟨b0, eb0, h⟩ := k_lp_e h
  have K0 : ∀ (n : Nat) (s_0 : k_St), k_loop b0 n s_0 = some (r, σ') → k_K (k_PX w) X (k_MQ X (k_Qi (k_PX w) r σ') (k_PX w).2.2.1) 0 [(0, .ref (w.2.1 7))] [] s_0 := by
    intro n
    induction n with
    | zero => intro s_0 h; cases h
    | succ n ih0 =>
      intro s_0 h
      obtain ⟨g0, eg0, h⟩ := k_lp_s h
      rw [← eg0] at ih0
      rw [eb0] at h
      refine k_aload_n C dX3_next_0 0 rfl ?_
      refine k_get C dX3_next_1 (k_gX7_2 w) k_fX3_19 (Or.inl rfl) ?_
      refine k_aload_n C dX3_next_4 0 rfl ?_
      refine k_get C dX3_next_5 (k_gX7_1 w) k_fX3_15 (Or.inl rfl) ?_
      obtain ⟨j38, ej38, h⟩ := k_jn_e h
      have Jj38 : j38 () = some (r, σ') → k_K (k_PX w) X (k_MQ X (k_Qi (k_PX w) r σ') (k_PX w).2.2.1) 38 [(0, .ref (w.2.1 7))] [] s_0 := by
        intro  h
        rw [ej38] at h
        refine k_aload_n C dX3_next_38 0 rfl ?_
        refine k_get C dX3_next_39 (k_gX7_2 w) k_fX3_19 (Or.inl rfl) ?_
        refine k_aload_n C dX3_next_42 0 rfl ?_
        refine k_get C dX3_next_43 (k_gX7_1 w) k_fX3_15 (Or.inl rfl) ?_
        refine k_icmp_ge C dX3_next_46 (tgt := 61) (by decide) (fun c46 => ?_) (fun c46 => ?_)
        · replace h := k_if_t h c46
          refine k_bipush C dX3_next_61 (v := -2) rfl ?_
          exact k_iret C dX3_next_63 hr (Option.some.inj h)
        · replace h := k_if_f h c46
          refine k_aload_n C dX3_next_49 0 rfl ?_
          refine k_get C dX3_next_50 (k_gX7_0 w) k_fX3_9 (Or.inl rfl) ?_
          refine k_aload_n C dX3_next_53 0 rfl ?_
          refine k_get C dX3_next_54 (k_gX7_2 w) k_fX3_19 (Or.inl rfl) ?_
          obtain ⟨q57, h⟩ := k_gd_e h
          refine k_iald C dX3_next_57 (k_aX8 w) q57 ?_
          refine k_goto C dX3_next_58 (tgt := 63) (by decide) ?_
          exact k_iret C dX3_next_63 hr (Option.some.inj h)
      refine k_icmp_ge C dX3_next_8 (tgt := 38) (by decide) (fun c8 => ?_) (fun c8 => ?_)
      · replace h := k_if_t h c8
        exact Jj38 h
      · replace h := k_if_f h c8
        refine k_aload_n C dX3_next_11 0 rfl ?_
        refine k_get C dX3_next_12 (k_gX7_0 w) k_fX3_9 (Or.inl rfl) ?_
        refine k_aload_n C dX3_next_15 0 rfl ?_
        refine k_get C dX3_next_16 (k_gX7_2 w) k_fX3_19 (Or.inl rfl) ?_
        obtain ⟨q19, h⟩ := k_gd_e h
        refine k_iald C dX3_next_19 (k_aX8 w) q19 ?_
        refine k_bipush C dX3_next_20 (v := 32) rfl ?_
        refine k_icmp_ne C dX3_next_22 (tgt := 38) (by decide) (fun c22 => ?_) (fun c22 => ?_)
        · replace h := k_if_f h c22
          exact Jj38 h
        · replace h := k_if_t h c22
          refine k_aload_n C dX3_next_25 0 rfl ?_
          refine k_dup C dX3_next_26 rfl ?_
          refine k_get C dX3_next_27 (k_gX7_2 w) k_fX3_19 (Or.inl rfl) ?_
          refine k_iconst C dX3_next_30 (v := 1) rfl ?_
          refine k_iadd C dX3_next_31 ?_
          refine k_puti C dX3_next_32 (k_pX7_2 w) k_fX3_19 (Or.inl rfl) k_xi ?_
          refine k_st (fun s32 es32 => ?_)
          replace h := k_nm_e h s32 es32
          refine k_goto C dX3_next_35 (tgt := 0) (by decide) ?_
          exact ih0 _ h
  exact K0 _ _ h
def f_X3_pass (c0 : Nat) (σ : k_St) : Option (k_St) :=
  k_if ((k_rd σ c0 1) ≤ (k_rd σ c0 2))
    (some σ)
    (k_nm (k_wr σ c0 2 ((k_rd σ c0 2) + (1 : Int32))) fun s18 =>
    some s18)
set_option maxHeartbeats 4000000 in
set_option maxRecDepth 100000 in
theorem e_X3_pass_3 {l : Launch} {w : k_WC} {d : Nat} (hd : 2 ≤ d)   {σ σ' : k_St} (h : f_X3_pass 3 σ = some σ') : k_EV l (k_PX w) yX3_pass cX3_pass 1 d [.ref (w.2.1 3)] σ σ' := by
  refine k_of (own := RX3) rfl (by decide) (Nat.le_of_ble_eq_true rfl) (fun X hX C hr => ?_)
  show k_K (k_PX w) X (k_MQ X (k_Qv (k_PX w) σ') (k_PX w).2.2.1) 0 [(0, .ref (w.2.1 3))] [] σ
  unfold f_X3_pass at h
  refine k_aload_n C dX3_pass_0 0 rfl ?_
  refine k_get C dX3_pass_1 (k_gX3_2 w) k_fX3_19 (Or.inl rfl) ?_
  refine k_aload_n C dX3_pass_4 0 rfl ?_
  refine k_get C dX3_pass_5 (k_gX3_1 w) k_fX3_15 (Or.inl rfl) ?_
  refine k_icmp_ge C dX3_pass_8 (tgt := 21) (by decide) (fun c8 => ?_) (fun c8 => ?_)
  · replace h := k_if_t h c8
    exact k_vret C dX3_pass_21 hr (Option.some.inj h)
  · replace h := k_if_f h c8
    refine k_aload_n C dX3_pass_11 0 rfl ?_
    refine k_dup C dX3_pass_12 rfl ?_
    refine k_get C dX3_pass_13 (k_gX3_2 w) k_fX3_19 (Or.inl rfl) ?_
    refine k_iconst C dX3_pass_16 (v := 1) rfl ?_
    refine k_iadd C dX3_pass_17 ?_
    refine k_puti C dX3_pass_18 (k_pX3_2 w) k_fX3_19 (Or.inl rfl) k_xi ?_
    refine k_st (fun s18 es18 => ?_)
    replace h := k_nm_e h s18 es18
    exact k_vret C dX3_pass_21 hr (Option.some.inj h)
set_option maxHeartbeats 4000000 in
set_option maxRecDepth 100000 in
theorem e_X3_pass_7 {l : Launch} {w : k_WC} {d : Nat} (hd : 2 ≤ d)   {σ σ' : k_St} (h : f_X3_pass 7 σ = some σ') : k_EV l (k_PX w) yX3_pass cX3_pass 1 d [.ref (w.2.1 7)] σ σ' := by
  refine k_of (own := RX3) rfl (by decide) (Nat.le_of_ble_eq_true rfl) (fun X hX C hr => ?_)
  show k_K (k_PX w) X (k_MQ X (k_Qv (k_PX w) σ') (k_PX w).2.2.1) 0 [(0, .ref (w.2.1 7))] [] σ
  unfold f_X3_pass at h
  refine k_aload_n C dX3_pass_0 0 rfl ?_
  refine k_get C dX3_pass_1 (k_gX7_2 w) k_fX3_19 (Or.inl rfl) ?_
  refine k_aload_n C dX3_pass_4 0 rfl ?_
  refine k_get C dX3_pass_5 (k_gX7_1 w) k_fX3_15 (Or.inl rfl) ?_
  refine k_icmp_ge C dX3_pass_8 (tgt := 21) (by decide) (fun c8 => ?_) (fun c8 => ?_)
  · replace h := k_if_t h c8
    exact k_vret C dX3_pass_21 hr (Option.some.inj h)
  · replace h := k_if_f h c8
    refine k_aload_n C dX3_pass_11 0 rfl ?_
    refine k_dup C dX3_pass_12 rfl ?_
    refine k_get C dX3_pass_13 (k_gX7_2 w) k_fX3_19 (Or.inl rfl) ?_
    refine k_iconst C dX3_pass_16 (v := 1) rfl ?_
    refine k_iadd C dX3_pass_17 ?_
    refine k_puti C dX3_pass_18 (k_pX7_2 w) k_fX3_19 (Or.inl rfl) k_xi ?_
    refine k_st (fun s18 es18 => ?_)
    replace h := k_nm_e h s18 es18
    exact k_vret C dX3_pass_21 hr (Option.some.inj h)
def f_X3_take (c0 : Nat) (x1 : Int32) (σ : k_St) : Option (Int32 × k_St) :=
  k_b2 (f_X3_next c0 σ) fun v1 s1 =>
  k_if (v1 = x1)
    (k_bd (f_X3_pass c0 s1) fun s11 =>
    some ((1 : Int32), s11))
    (some ((0 : Int32), s1))
set_option maxHeartbeats 4000000 in
set_option maxRecDepth 100000 in
theorem e_X3_take_3 {l : Launch} {w : k_WC} {d : Nat} (hd : 3 ≤ d) {x1 : Int32}  {σ σ' : k_St} {r : Int32} (h : f_X3_take 3 x1 σ = some (r, σ')) : k_EI l (k_PX w) yX3_take cX3_take 2 (some .boolean) d [.ref (w.2.1 3), .int x1] σ r σ' := by
  refine k_of (own := RX3) rfl (by decide) (Nat.le_of_ble_eq_true rfl) (fun X hX C hr => ?_)
  show k_K (k_PX w) X (k_MQ X (k_Qi (k_PX w) r σ') (k_PX w).2.2.1) 0 [(0, .ref (w.2.1 3)), (1, .int x1)] [] σ
  unfold f_X3_take at h
  refine k_aload_n C dX3_take_0 0 rfl ?_
  obtain ⟨v1, s1, h1, h⟩ := k_b2_e h
  refine k_goI (k_runV C dX3_take_1 (e_X3_next_3 (d := 2) (Nat.le_refl _) h1) k_lX3_34_X2 k_yX3_next (k_oX3 w) (by omega) rfl (Nat.le_of_ble_eq_true rfl)) ?_
  refine k_iload_n C dX3_take_4 1 rfl ?_
  refine k_icmp_eq C dX3_take_5 (tgt := 10) (by decide) (fun c5 => ?_) (fun c5 => ?_)
  · replace h := k_if_t h c5
    refine k_aload_n C dX3_take_10 0 rfl ?_
    obtain ⟨s11, h11, h⟩ := k_bd_e h
    refine k_goV (k_runV C dX3_take_11 (e_X3_pass_3 (d := 2) (Nat.le_refl _) h11) k_lX3_38_X2 k_yX3_pass (k_oX3 w) (by omega) rfl (Nat.le_of_ble_eq_true rfl)) ?_
    refine k_iconst C dX3_take_14 (v := 1) rfl ?_
    exact k_zret C dX3_take_15 hr rfl (Option.some.inj h)
  · replace h := k_if_f h c5
    refine k_iconst C dX3_take_8 (v := 0) rfl ?_
    exact k_zret C dX3_take_9 hr rfl (Option.some.inj h)
set_option maxHeartbeats 4000000 in
set_option maxRecDepth 100000 in
theorem e_X3_take_7 {l : Launch} {w : k_WC} {d : Nat} (hd : 3 ≤ d) {x1 : Int32}  {σ σ' : k_St} {r : Int32} (h : f_X3_take 7 x1 σ = some (r, σ')) : k_EI l (k_PX w) yX3_take cX3_take 2 (some .boolean) d [.ref (w.2.1 7), .int x1] σ r σ' := by
  refine k_of (own := RX3) rfl (by decide) (Nat.le_of_ble_eq_true rfl) (fun X hX C hr => ?_)
  show k_K (k_PX w) X (k_MQ X (k_Qi (k_PX w) r σ') (k_PX w).2.2.1) 0 [(0, .ref (w.2.1 7)), (1, .int x1)] [] σ
  unfold f_X3_take at h
  refine k_aload_n C dX3_take_0 0 rfl ?_
  obtain ⟨v1, s1, h1, h⟩ := k_b2_e h
  refine k_goI (k_runV C dX3_take_1 (e_X3_next_7 (d := 2) (Nat.le_refl _) h1) k_lX3_34_X10 k_yX3_next (k_oX7 w) (by omega) rfl (Nat.le_of_ble_eq_true rfl)) ?_
  refine k_iload_n C dX3_take_4 1 rfl ?_
  refine k_icmp_eq C dX3_take_5 (tgt := 10) (by decide) (fun c5 => ?_) (fun c5 => ?_)
  · replace h := k_if_t h c5
    refine k_aload_n C dX3_take_10 0 rfl ?_
    obtain ⟨s11, h11, h⟩ := k_bd_e h
    refine k_goV (k_runV C dX3_take_11 (e_X3_pass_7 (d := 2) (Nat.le_refl _) h11) k_lX3_38_X10 k_yX3_pass (k_oX7 w) (by omega) rfl (Nat.le_of_ble_eq_true rfl)) ?_
    refine k_iconst C dX3_take_14 (v := 1) rfl ?_
    exact k_zret C dX3_take_15 hr rfl (Option.some.inj h)
  · replace h := k_if_f h c5
    refine k_iconst C dX3_take_8 (v := 0) rfl ?_
    exact k_zret C dX3_take_9 hr rfl (Option.some.inj h)
def f_X3_failAt (c0 : Nat) (x1 : Int32) (σ : k_St) : Option (k_St) :=
  k_if ((k_rd σ c0 3) = (-1 : Int32))
    (k_nm (k_wr σ c0 3 x1) fun s10 =>
    some s10)
    (some σ)
set_option maxHeartbeats 4000000 in
set_option maxRecDepth 100000 in
theorem e_X3_failAt_3 {l : Launch} {w : k_WC} {d : Nat} (hd : 2 ≤ d) {x1 : Int32}  {σ σ' : k_St} (h : f_X3_failAt 3 x1 σ = some σ') : k_EV l (k_PX w) yX3_failAt cX3_failAt 2 d [.ref (w.2.1 3), .int x1] σ σ' := by
  refine k_of (own := RX3) rfl (by decide) (Nat.le_of_ble_eq_true rfl) (fun X hX C hr => ?_)
  show k_K (k_PX w) X (k_MQ X (k_Qv (k_PX w) σ') (k_PX w).2.2.1) 0 [(0, .ref (w.2.1 3)), (1, .int x1)] [] σ
  unfold f_X3_failAt at h
  refine k_aload_n C dX3_failAt_0 0 rfl ?_
  refine k_get C dX3_failAt_1 (k_gX3_3 w) k_fX3_22 (Or.inl rfl) ?_
  refine k_iconst C dX3_failAt_4 (v := -1) rfl ?_
  refine k_icmp_ne C dX3_failAt_5 (tgt := 13) (by decide) (fun c5 => ?_) (fun c5 => ?_)
  · replace h := k_if_f h c5
    exact k_vret C dX3_failAt_13 hr (Option.some.inj h)
  · replace h := k_if_t h c5
    refine k_aload_n C dX3_failAt_8 0 rfl ?_
    refine k_iload_n C dX3_failAt_9 1 rfl ?_
    refine k_puti C dX3_failAt_10 (k_pX3_3 w) k_fX3_22 (Or.inl rfl) k_xi ?_
    refine k_st (fun s10 es10 => ?_)
    replace h := k_nm_e h s10 es10
    exact k_vret C dX3_failAt_13 hr (Option.some.inj h)
set_option maxHeartbeats 4000000 in
set_option maxRecDepth 100000 in
theorem e_X3_failAt_7 {l : Launch} {w : k_WC} {d : Nat} (hd : 2 ≤ d) {x1 : Int32}  {σ σ' : k_St} (h : f_X3_failAt 7 x1 σ = some σ') : k_EV l (k_PX w) yX3_failAt cX3_failAt 2 d [.ref (w.2.1 7), .int x1] σ σ' := by
  refine k_of (own := RX3) rfl (by decide) (Nat.le_of_ble_eq_true rfl) (fun X hX C hr => ?_)
  show k_K (k_PX w) X (k_MQ X (k_Qv (k_PX w) σ') (k_PX w).2.2.1) 0 [(0, .ref (w.2.1 7)), (1, .int x1)] [] σ
  unfold f_X3_failAt at h
  refine k_aload_n C dX3_failAt_0 0 rfl ?_
  refine k_get C dX3_failAt_1 (k_gX7_3 w) k_fX3_22 (Or.inl rfl) ?_
  refine k_iconst C dX3_failAt_4 (v := -1) rfl ?_
  refine k_icmp_ne C dX3_failAt_5 (tgt := 13) (by decide) (fun c5 => ?_) (fun c5 => ?_)
  · replace h := k_if_f h c5
    exact k_vret C dX3_failAt_13 hr (Option.some.inj h)
  · replace h := k_if_t h c5
    refine k_aload_n C dX3_failAt_8 0 rfl ?_
    refine k_iload_n C dX3_failAt_9 1 rfl ?_
    refine k_puti C dX3_failAt_10 (k_pX7_3 w) k_fX3_22 (Or.inl rfl) k_xi ?_
    refine k_st (fun s10 es10 => ?_)
    replace h := k_nm_e h s10 es10
    exact k_vret C dX3_failAt_13 hr (Option.some.inj h)
def f_X3_need (c0 : Nat) (x1 : Int32) (σ : k_St) : Option (k_St) :=
  k_b2 (f_X3_next c0 σ) fun v1 s1 =>
  k_if (v1 = x1)
    (k_nm (k_wr s1 c0 2 ((k_rd s1 c0 2) + (1 : Int32))) fun s15 =>
    some s15)
    (k_bd (f_X3_failAt c0 (k_rd s1 c0 2) s1) fun s26 =>
    some s26)
set_option maxHeartbeats 4000000 in
set_option maxRecDepth 100000 in
theorem e_X3_need_3 {l : Launch} {w : k_WC} {d : Nat} (hd : 3 ≤ d) {x1 : Int32}  {σ σ' : k_St} (h : f_X3_need 3 x1 σ = some σ') : k_EV l (k_PX w) yX3_need cX3_need 2 d [.ref (w.2.1 3), .int x1] σ σ' := by
  refine k_of (own := RX3) rfl (by decide) (Nat.le_of_ble_eq_true rfl) (fun X hX C hr => ?_)
  show k_K (k_PX w) X (k_MQ X (k_Qv (k_PX w) σ') (k_PX w).2.2.1) 0 [(0, .ref (w.2.1 3)), (1, .int x1)] [] σ
  unfold f_X3_need at h
  refine k_aload_n C dX3_need_0 0 rfl ?_
  obtain ⟨v1, s1, h1, h⟩ := k_b2_e h
  refine k_goI (k_runV C dX3_need_1 (e_X3_next_3 (d := 2) (Nat.le_refl _) h1) k_lX3_34_X2 k_yX3_next (k_oX3 w) (by omega) rfl (Nat.le_of_ble_eq_true rfl)) ?_
  refine k_iload_n C dX3_need_4 1 rfl ?_
  refine k_icmp_ne C dX3_need_5 (tgt := 21) (by decide) (fun c5 => ?_) (fun c5 => ?_)
  · replace h := k_if_f h c5
    refine k_aload_n C dX3_need_21 0 rfl ?_
    refine k_aload_n C dX3_need_22 0 rfl ?_
    refine k_get C dX3_need_23 (k_gX3_2 w) k_fX3_19 (Or.inl rfl) ?_
    obtain ⟨s26, h26, h⟩ := k_bd_e h
    refine k_goV (k_runV C dX3_need_26 (e_X3_failAt_3 (d := 2) (Nat.le_refl _) h26) k_lX3_41_X2 k_yX3_failAt (k_oX3 w) (by omega) rfl (Nat.le_of_ble_eq_true rfl)) ?_
    exact k_vret C dX3_need_29 hr (Option.some.inj h)
  · replace h := k_if_t h c5
    refine k_aload_n C dX3_need_8 0 rfl ?_
    refine k_dup C dX3_need_9 rfl ?_
    refine k_get C dX3_need_10 (k_gX3_2 w) k_fX3_19 (Or.inl rfl) ?_
    refine k_iconst C dX3_need_13 (v := 1) rfl ?_
    refine k_iadd C dX3_need_14 ?_
    refine k_puti C dX3_need_15 (k_pX3_2 w) k_fX3_19 (Or.inl rfl) k_xi ?_
    refine k_st (fun s15 es15 => ?_)
    replace h := k_nm_e h s15 es15
    refine k_goto C dX3_need_18 (tgt := 29) (by decide) ?_
    exact k_vret C dX3_need_29 hr (Option.some.inj h)
set_option maxHeartbeats 4000000 in
set_option maxRecDepth 100000 in
theorem e_X3_need_7 {l : Launch} {w : k_WC} {d : Nat} (hd : 3 ≤ d) {x1 : Int32}  {σ σ' : k_St} (h : f_X3_need 7 x1 σ = some σ') : k_EV l (k_PX w) yX3_need cX3_need 2 d [.ref (w.2.1 7), .int x1] σ σ' := by
  refine k_of (own := RX3) rfl (by decide) (Nat.le_of_ble_eq_true rfl) (fun X hX C hr => ?_)
  show k_K (k_PX w) X (k_MQ X (k_Qv (k_PX w) σ') (k_PX w).2.2.1) 0 [(0, .ref (w.2.1 7)), (1, .int x1)] [] σ
  unfold f_X3_need at h
  refine k_aload_n C dX3_need_0 0 rfl ?_
  obtain ⟨v1, s1, h1, h⟩ := k_b2_e h
  refine k_goI (k_runV C dX3_need_1 (e_X3_next_7 (d := 2) (Nat.le_refl _) h1) k_lX3_34_X10 k_yX3_next (k_oX7 w) (by omega) rfl (Nat.le_of_ble_eq_true rfl)) ?_
  refine k_iload_n C dX3_need_4 1 rfl ?_
  refine k_icmp_ne C dX3_need_5 (tgt := 21) (by decide) (fun c5 => ?_) (fun c5 => ?_)
  · replace h := k_if_f h c5
    refine k_aload_n C dX3_need_21 0 rfl ?_
    refine k_aload_n C dX3_need_22 0 rfl ?_
    refine k_get C dX3_need_23 (k_gX7_2 w) k_fX3_19 (Or.inl rfl) ?_
    obtain ⟨s26, h26, h⟩ := k_bd_e h
    refine k_goV (k_runV C dX3_need_26 (e_X3_failAt_7 (d := 2) (Nat.le_refl _) h26) k_lX3_41_X10 k_yX3_failAt (k_oX7 w) (by omega) rfl (Nat.le_of_ble_eq_true rfl)) ?_
    exact k_vret C dX3_need_29 hr (Option.some.inj h)
  · replace h := k_if_t h c5
    refine k_aload_n C dX3_need_8 0 rfl ?_
    refine k_dup C dX3_need_9 rfl ?_
    refine k_get C dX3_need_10 (k_gX7_2 w) k_fX3_19 (Or.inl rfl) ?_
    refine k_iconst C dX3_need_13 (v := 1) rfl ?_
    refine k_iadd C dX3_need_14 ?_
    refine k_puti C dX3_need_15 (k_pX7_2 w) k_fX3_19 (Or.inl rfl) k_xi ?_
    refine k_st (fun s15 es15 => ?_)
    replace h := k_nm_e h s15 es15
    refine k_goto C dX3_need_18 (tgt := 29) (by decide) ?_
    exact k_vret C dX3_need_29 hr (Option.some.inj h)
def f_X3_fail (c0 : Nat) (σ : k_St) : Option (k_St) :=
  k_b2 (f_X3_next c0 σ) fun v1 s1 =>
  k_bd (f_X3_failAt c0 (k_rd s1 c0 2) s1) fun s10 =>
  some s10
set_option maxHeartbeats 4000000 in
set_option maxRecDepth 100000 in
theorem e_X3_fail_3 {l : Launch} {w : k_WC} {d : Nat} (hd : 3 ≤ d)   {σ σ' : k_St} (h : f_X3_fail 3 σ = some σ') : k_EV l (k_PX w) yX3_fail cX3_fail 1 d [.ref (w.2.1 3)] σ σ' := by
  refine k_of (own := RX3) rfl (by decide) (Nat.le_of_ble_eq_true rfl) (fun X hX C hr => ?_)
  show k_K (k_PX w) X (k_MQ X (k_Qv (k_PX w) σ') (k_PX w).2.2.1) 0 [(0, .ref (w.2.1 3))] [] σ
  unfold f_X3_fail at h
  refine k_aload_n C dX3_fail_0 0 rfl ?_
  obtain ⟨v1, s1, h1, h⟩ := k_b2_e h
  refine k_goI (k_runV C dX3_fail_1 (e_X3_next_3 (d := 2) (Nat.le_refl _) h1) k_lX3_34_X2 k_yX3_next (k_oX3 w) (by omega) rfl (Nat.le_of_ble_eq_true rfl)) ?_
  refine k_pop C dX3_fail_4 rfl ?_
  refine k_aload_n C dX3_fail_5 0 rfl ?_
  refine k_aload_n C dX3_fail_6 0 rfl ?_
  refine k_get C dX3_fail_7 (k_gX3_2 w) k_fX3_19 (Or.inl rfl) ?_
  obtain ⟨s10, h10, h⟩ := k_bd_e h
  refine k_goV (k_runV C dX3_fail_10 (e_X3_failAt_3 (d := 2) (Nat.le_refl _) h10) k_lX3_41_X2 k_yX3_failAt (k_oX3 w) (by omega) rfl (Nat.le_of_ble_eq_true rfl)) ?_
  exact k_vret C dX3_fail_13 hr (Option.some.inj h)
set_option maxHeartbeats 4000000 in
set_option maxRecDepth 100000 in
theorem e_X3_fail_7 {l : Launch} {w : k_WC} {d : Nat} (hd : 3 ≤ d)   {σ σ' : k_St} (h : f_X3_fail 7 σ = some σ') : k_EV l (k_PX w) yX3_fail cX3_fail 1 d [.ref (w.2.1 7)] σ σ' := by
  refine k_of (own := RX3) rfl (by decide) (Nat.le_of_ble_eq_true rfl) (fun X hX C hr => ?_)
  show k_K (k_PX w) X (k_MQ X (k_Qv (k_PX w) σ') (k_PX w).2.2.1) 0 [(0, .ref (w.2.1 7))] [] σ
  unfold f_X3_fail at h
  refine k_aload_n C dX3_fail_0 0 rfl ?_
  obtain ⟨v1, s1, h1, h⟩ := k_b2_e h
  refine k_goI (k_runV C dX3_fail_1 (e_X3_next_7 (d := 2) (Nat.le_refl _) h1) k_lX3_34_X10 k_yX3_next (k_oX7 w) (by omega) rfl (Nat.le_of_ble_eq_true rfl)) ?_
  refine k_pop C dX3_fail_4 rfl ?_
  refine k_aload_n C dX3_fail_5 0 rfl ?_
  refine k_aload_n C dX3_fail_6 0 rfl ?_
  refine k_get C dX3_fail_7 (k_gX7_2 w) k_fX3_19 (Or.inl rfl) ?_
  obtain ⟨s10, h10, h⟩ := k_bd_e h
  refine k_goV (k_runV C dX3_fail_10 (e_X3_failAt_7 (d := 2) (Nat.le_refl _) h10) k_lX3_41_X10 k_yX3_failAt (k_oX7 w) (by omega) rfl (Nat.le_of_ble_eq_true rfl)) ?_
  exact k_vret C dX3_fail_13 hr (Option.some.inj h)
def f_X3_failAtLength (c0 : Nat) (σ : k_St) : Option (k_St) :=
  k_bd (f_X3_failAt c0 (k_rd σ c0 1) σ) fun s5 =>
  some s5
set_option maxHeartbeats 4000000 in
set_option maxRecDepth 100000 in
theorem e_X3_failAtLength_3 {l : Launch} {w : k_WC} {d : Nat} (hd : 3 ≤ d)   {σ σ' : k_St} (h : f_X3_failAtLength 3 σ = some σ') : k_EV l (k_PX w) yX3_failAtLength cX3_failAtLength 1 d [.ref (w.2.1 3)] σ σ' := by
  refine k_of (own := RX3) rfl (by decide) (Nat.le_of_ble_eq_true rfl) (fun X hX C hr => ?_)
  show k_K (k_PX w) X (k_MQ X (k_Qv (k_PX w) σ') (k_PX w).2.2.1) 0 [(0, .ref (w.2.1 3))] [] σ
  unfold f_X3_failAtLength at h
  refine k_aload_n C dX3_failAtLength_0 0 rfl ?_
  refine k_aload_n C dX3_failAtLength_1 0 rfl ?_
  refine k_get C dX3_failAtLength_2 (k_gX3_1 w) k_fX3_15 (Or.inl rfl) ?_
  obtain ⟨s5, h5, h⟩ := k_bd_e h
  refine k_goV (k_runV C dX3_failAtLength_5 (e_X3_failAt_3 (d := 2) (Nat.le_refl _) h5) k_lX3_41_X2 k_yX3_failAt (k_oX3 w) (by omega) rfl (Nat.le_of_ble_eq_true rfl)) ?_
  exact k_vret C dX3_failAtLength_8 hr (Option.some.inj h)
set_option maxHeartbeats 4000000 in
set_option maxRecDepth 100000 in
theorem e_X3_failAtLength_7 {l : Launch} {w : k_WC} {d : Nat} (hd : 3 ≤ d)   {σ σ' : k_St} (h : f_X3_failAtLength 7 σ = some σ') : k_EV l (k_PX w) yX3_failAtLength cX3_failAtLength 1 d [.ref (w.2.1 7)] σ σ' := by
  refine k_of (own := RX3) rfl (by decide) (Nat.le_of_ble_eq_true rfl) (fun X hX C hr => ?_)
  show k_K (k_PX w) X (k_MQ X (k_Qv (k_PX w) σ') (k_PX w).2.2.1) 0 [(0, .ref (w.2.1 7))] [] σ
  unfold f_X3_failAtLength at h
  refine k_aload_n C dX3_failAtLength_0 0 rfl ?_
  refine k_aload_n C dX3_failAtLength_1 0 rfl ?_
  refine k_get C dX3_failAtLength_2 (k_gX7_1 w) k_fX3_15 (Or.inl rfl) ?_
  obtain ⟨s5, h5, h⟩ := k_bd_e h
  refine k_goV (k_runV C dX3_failAtLength_5 (e_X3_failAt_7 (d := 2) (Nat.le_refl _) h5) k_lX3_41_X10 k_yX3_failAt (k_oX7 w) (by omega) rfl (Nat.le_of_ble_eq_true rfl)) ?_
  exact k_vret C dX3_failAtLength_8 hr (Option.some.inj h)
def f_X3_failed (c0 : Nat) (σ : k_St) : Option (Int32) :=
  k_if ((k_rd σ c0 3) = (-1 : Int32))
    (some (0 : Int32))
    (some (1 : Int32))
set_option maxHeartbeats 4000000 in
set_option maxRecDepth 100000 in
theorem e_X3_failed_3 {l : Launch} {w : k_WC} {d : Nat} (hd : 2 ≤ d)   {σ : k_St} {r : Int32} (h : f_X3_failed 3 σ = some r) : k_EI l (k_PX w) yX3_failed cX3_failed 1 (some .boolean) d [.ref (w.2.1 3)] σ r σ := by
  refine k_of (own := RX3) rfl (by decide) (Nat.le_of_ble_eq_true rfl) (fun X hX C hr => ?_)
  show k_K (k_PX w) X (k_MQ X (k_Qi (k_PX w) r σ) (k_PX w).2.2.1) 0 [(0, .ref (w.2.1 3))] [] σ
  unfold f_X3_failed at h
  refine k_aload_n C dX3_failed_0 0 rfl ?_
  refine k_get C dX3_failed_1 (k_gX3_3 w) k_fX3_22 (Or.inl rfl) ?_
  refine k_iconst C dX3_failed_4 (v := -1) rfl ?_
  refine k_icmp_eq C dX3_failed_5 (tgt := 12) (by decide) (fun c5 => ?_) (fun c5 => ?_)
  · replace h := k_if_t h c5
    refine k_iconst C dX3_failed_12 (v := 0) rfl ?_
    exact k_zret C dX3_failed_13 hr rfl (k_p1 h)
  · replace h := k_if_f h c5
    refine k_iconst C dX3_failed_8 (v := 1) rfl ?_
    refine k_goto C dX3_failed_9 (tgt := 13) (by decide) ?_
    exact k_zret C dX3_failed_13 hr rfl (k_p1 h)
set_option maxHeartbeats 4000000 in
set_option maxRecDepth 100000 in
theorem e_X3_failed_7 {l : Launch} {w : k_WC} {d : Nat} (hd : 2 ≤ d)   {σ : k_St} {r : Int32} (h : f_X3_failed 7 σ = some r) : k_EI l (k_PX w) yX3_failed cX3_failed 1 (some .boolean) d [.ref (w.2.1 7)] σ r σ := by
  refine k_of (own := RX3) rfl (by decide) (Nat.le_of_ble_eq_true rfl) (fun X hX C hr => ?_)
  show k_K (k_PX w) X (k_MQ X (k_Qi (k_PX w) r σ) (k_PX w).2.2.1) 0 [(0, .ref (w.2.1 7))] [] σ
  unfold f_X3_failed at h
  refine k_aload_n C dX3_failed_0 0 rfl ?_
  refine k_get C dX3_failed_1 (k_gX7_3 w) k_fX3_22 (Or.inl rfl) ?_
  refine k_iconst C dX3_failed_4 (v := -1) rfl ?_
  refine k_icmp_eq C dX3_failed_5 (tgt := 12) (by decide) (fun c5 => ?_) (fun c5 => ?_)
  · replace h := k_if_t h c5
    refine k_iconst C dX3_failed_12 (v := 0) rfl ?_
    exact k_zret C dX3_failed_13 hr rfl (k_p1 h)
  · replace h := k_if_f h c5
    refine k_iconst C dX3_failed_8 (v := 1) rfl ?_
    refine k_goto C dX3_failed_9 (tgt := 13) (by decide) ?_
    exact k_zret C dX3_failed_13 hr rfl (k_p1 h)
def f_X3_faultFound (c0 : Nat) (σ : k_St) : Option (Int32) :=
  some (k_rd σ c0 3)
set_option maxHeartbeats 4000000 in
set_option maxRecDepth 100000 in
theorem e_X3_faultFound_3 {l : Launch} {w : k_WC} {d : Nat} (hd : 2 ≤ d)   {σ : k_St} {r : Int32} (h : f_X3_faultFound 3 σ = some r) : k_EI l (k_PX w) yX3_faultFound cX3_faultFound 1 (some .int) d [.ref (w.2.1 3)] σ r σ := by
  refine k_of (own := RX3) rfl (by decide) (Nat.le_of_ble_eq_true rfl) (fun X hX C hr => ?_)
  show k_K (k_PX w) X (k_MQ X (k_Qi (k_PX w) r σ) (k_PX w).2.2.1) 0 [(0, .ref (w.2.1 3))] [] σ
  unfold f_X3_faultFound at h
  refine k_aload_n C dX3_faultFound_0 0 rfl ?_
  refine k_get C dX3_faultFound_1 (k_gX3_3 w) k_fX3_22 (Or.inl rfl) ?_
  exact k_iret C dX3_faultFound_4 hr (k_p1 h)
set_option maxHeartbeats 4000000 in
set_option maxRecDepth 100000 in
theorem e_X3_faultFound_7 {l : Launch} {w : k_WC} {d : Nat} (hd : 2 ≤ d)   {σ : k_St} {r : Int32} (h : f_X3_faultFound 7 σ = some r) : k_EI l (k_PX w) yX3_faultFound cX3_faultFound 1 (some .int) d [.ref (w.2.1 7)] σ r σ := by
  refine k_of (own := RX3) rfl (by decide) (Nat.le_of_ble_eq_true rfl) (fun X hX C hr => ?_)
  show k_K (k_PX w) X (k_MQ X (k_Qi (k_PX w) r σ) (k_PX w).2.2.1) 0 [(0, .ref (w.2.1 7))] [] σ
  unfold f_X3_faultFound at h
  refine k_aload_n C dX3_faultFound_0 0 rfl ?_
  refine k_get C dX3_faultFound_1 (k_gX7_3 w) k_fX3_22 (Or.inl rfl) ?_
  exact k_iret C dX3_faultFound_4 hr (k_p1 h)
def f_X3_number (c0 : Nat) (x1 : Int32) (x2 : Int32) (x3 : Int32) (σ : k_St) : Option (Int32 × k_St) :=
  k_b2 (f_X3_next c0 σ) fun v1 s1 =>
  k_loop (fun (g11 : Int32 × Int32 × k_St → Option (Int32 × k_St)) (z11 : Int32 × Int32 × k_St) => match z11 with
    | (v4_11, v5_11, s_11) =>
      k_jn (fun (_ : Unit) =>
        k_if (v5_11 = (0 : Int32))
          (k_bd (f_X3_failAt c0 (k_rd s_11 c0 2) s_11) fun s103 =>
          some (v4_11, s103))
          (k_bd (f_X11_within v4_11 x2 x3) fun v113 =>
          k_if (v113 = (0 : Int32))
            (k_bd (f_X3_failAt c0 ((k_rd s_11 c0 2) - (1 : Int32)) s_11) fun s126 =>
            some (v4_11, s126))
            (some (v4_11, s_11)))) fun j93 =>
      k_if ((k_rd s_11 c0 1) ≤ (k_rd s_11 c0 2))
        (j93 ())
        (k_gd (k_ix (k_rd s_11 c0 2) 160 = true) <|
        k_bd (f_X11_within (k_rd s_11 (c0 + 1) (k_rd s_11 c0 2).toNatClampNeg) (48 : Int32) (57 : Int32)) fun v35 =>
        k_if (v35 = (0 : Int32))
          (j93 ())
          (k_if (v5_11 < x1)
            (k_gd (k_ix (k_rd s_11 c0 2) 160 = true) <|
            k_nm (((((10 : Int32) * v4_11) + (k_rd s_11 (c0 + 1) (k_rd s_11 c0 2).toNatClampNeg)) - (48 : Int32))) fun y75 =>
            k_nm (v5_11 + (1 : Int32)) fun y77 =>
            k_nm (k_wr s_11 c0 2 ((k_rd s_11 c0 2) + (1 : Int32))) fun s87 =>
            g11 (y75, y77, s87))
            (k_bd (f_X3_failAt c0 (k_rd s_11 c0 2) s_11) fun s52 =>
            some ((0 : Int32), s52))))) 100000 ((0 : Int32), (0 : Int32), s1)
set_option maxHeartbeats 4000000 in
set_option maxRecDepth 100000 in
theorem e_X3_number_3 {l : Launch} {w : k_WC} {d : Nat} (hd : 3 ≤ d) {x1 : Int32} {x2 : Int32} {x3 : Int32}  {σ σ' : k_St} {r : Int32} (h : f_X3_number 3 x1 x2 x3 σ = some (r, σ')) : k_EI l (k_PX w) yX3_number cX3_number 6 (some .int) d [.ref (w.2.1 3), .int x1, .int x2, .int x3] σ r σ' := by
  refine k_of (own := RX3) rfl (by decide) (Nat.le_of_ble_eq_true rfl) (fun X hX C hr => ?_)
  show k_K (k_PX w) X (k_MQ X (k_Qi (k_PX w) r σ') (k_PX w).2.2.1) 0 [(0, .ref (w.2.1 3)), (1, .int x1), (2, .int x2), (3, .int x3)] [] σ
  unfold f_X3_number at h
  refine k_aload_n C dX3_number_0 0 rfl ?_
  obtain ⟨v1, s1, h1, h⟩ := k_b2_e h
  refine k_goI (k_runV C dX3_number_1 (e_X3_next_3 (d := 2) (Nat.le_refl _) h1) k_lX3_34_X2 k_yX3_next (k_oX3 w) (by omega) rfl (Nat.le_of_ble_eq_true rfl)) ?_
  refine k_pop C dX3_number_4 rfl ?_
  refine k_iconst C dX3_number_5 (v := 0) rfl ?_
  refine k_istore C dX3_number_6 (by decide) [1, 2, 3, 4, 0] (L' := [(0, .ref (w.2.1 3)), (1, .int x1), (2, .int x2), (3, .int x3), (4, .int (0 : Int32))]) rfl ?_
  refine k_iconst C dX3_number_8 (v := 0) rfl ?_
  refine k_istore C dX3_number_9 (by decide) [1, 2, 3, 4, 5, 0] (L' := [(0, .ref (w.2.1 3)), (1, .int x1), (2, .int x2), (3, .int x3), (4, .int (0 : Int32)), (5, .int (0 : Int32))]) rfl ?_
  obtain ⟨b11, eb11, h⟩ := k_lp_e h
  have K11 : ∀ (n : Nat) (v4_11 : Int32) (v5_11 : Int32) (s_11 : k_St), k_loop b11 n (v4_11, v5_11, s_11) = some (r, σ') → k_K (k_PX w) X (k_MQ X (k_Qi (k_PX w) r σ') (k_PX w).2.2.1) 11 [(0, .ref (w.2.1 3)), (1, .int x1), (2, .int x2), (3, .int x3), (4, .int v4_11), (5, .int v5_11)] [] s_11 := by
    intro n
    induction n with
    | zero => intro v4_11 v5_11 s_11 h; cases h
    | succ n ih11 =>
      intro v4_11 v5_11 s_11 h
      obtain ⟨g11, eg11, h⟩ := k_lp_s h
      rw [← eg11] at ih11
      rw [eb11] at h
      refine k_aload_n C dX3_number_11 0 rfl ?_
      refine k_get C dX3_number_12 (k_gX3_2 w) k_fX3_19 (Or.inl rfl) ?_
      refine k_aload_n C dX3_number_15 0 rfl ?_
      refine k_get C dX3_number_16 (k_gX3_1 w) k_fX3_15 (Or.inl rfl) ?_
      obtain ⟨j93, ej93, h⟩ := k_jn_e h
      have Jj93 : j93 () = some (r, σ') → k_K (k_PX w) X (k_MQ X (k_Qi (k_PX w) r σ') (k_PX w).2.2.1) 93 [(0, .ref (w.2.1 3)), (2, .int x2), (3, .int x3), (4, .int v4_11), (5, .int v5_11)] [] s_11 := by
        intro  h
        rw [ej93] at h
        refine k_iload C dX3_number_93 4 rfl ?_
        refine k_if_ne C dX3_number_95 (tgt := 109) (by decide) (fun c95 => ?_) (fun c95 => ?_)
        · replace h := k_if_f h c95
          refine k_iload C dX3_number_109 3 rfl ?_
          refine k_iload_n C dX3_number_111 1 rfl ?_
          refine k_iload_n C dX3_number_112 2 rfl ?_
          obtain ⟨v113, h113, h⟩ := k_bd_e h
          refine k_goI (k_runSN C dX3_number_113 (e_X11_within (d := 2) (Nat.le_refl _) h113) k_lX3_45 k_yX11_within (by omega) rfl (Nat.le_of_ble_eq_true rfl)) ?_
          refine k_if_ne C dX3_number_116 (tgt := 129) (by decide) (fun c116 => ?_) (fun c116 => ?_)
          · replace h := k_if_f h c116
            refine k_iload C dX3_number_129 3 rfl ?_
            exact k_iret C dX3_number_131 hr (Option.some.inj h)
          · replace h := k_if_t h c116
            refine k_aload_n C dX3_number_119 0 rfl ?_
            refine k_aload_n C dX3_number_120 0 rfl ?_
            refine k_get C dX3_number_121 (k_gX3_2 w) k_fX3_19 (Or.inl rfl) ?_
            refine k_iconst C dX3_number_124 (v := 1) rfl ?_
            refine k_isub C dX3_number_125 ?_
            obtain ⟨s126, h126, h⟩ := k_bd_e h
            refine k_goV (k_runV C dX3_number_126 (e_X3_failAt_3 (d := 2) (Nat.le_refl _) h126) k_lX3_41_X2 k_yX3_failAt (k_oX3 w) (by omega) rfl (Nat.le_of_ble_eq_true rfl)) ?_
            refine k_iload C dX3_number_129 3 rfl ?_
            exact k_iret C dX3_number_131 hr (Option.some.inj h)
        · replace h := k_if_t h c95
          refine k_aload_n C dX3_number_98 0 rfl ?_
          refine k_aload_n C dX3_number_99 0 rfl ?_
          refine k_get C dX3_number_100 (k_gX3_2 w) k_fX3_19 (Or.inl rfl) ?_
          obtain ⟨s103, h103, h⟩ := k_bd_e h
          refine k_goV (k_runV C dX3_number_103 (e_X3_failAt_3 (d := 2) (Nat.le_refl _) h103) k_lX3_41_X2 k_yX3_failAt (k_oX3 w) (by omega) rfl (Nat.le_of_ble_eq_true rfl)) ?_
          refine k_goto C dX3_number_106 (tgt := 129) (by decide) ?_
          refine k_iload C dX3_number_129 3 rfl ?_
          exact k_iret C dX3_number_131 hr (Option.some.inj h)
      refine k_icmp_ge C dX3_number_19 (tgt := 93) (by decide) (fun c19 => ?_) (fun c19 => ?_)
      · replace h := k_if_t h c19
        refine k_sub (L' := [(0, .ref (w.2.1 3)), (2, .int x2), (3, .int x3), (4, .int v4_11), (5, .int v5_11)]) [0, 2, 3, 4, 5] rfl ?_
        exact Jj93 h
      · replace h := k_if_f h c19
        refine k_aload_n C dX3_number_22 0 rfl ?_
        refine k_get C dX3_number_23 (k_gX3_0 w) k_fX3_9 (Or.inl rfl) ?_
        refine k_aload_n C dX3_number_26 0 rfl ?_
        refine k_get C dX3_number_27 (k_gX3_2 w) k_fX3_19 (Or.inl rfl) ?_
        obtain ⟨q30, h⟩ := k_gd_e h
        refine k_iald C dX3_number_30 (k_aX4 w) q30 ?_
        refine k_bipush C dX3_number_31 (v := 48) rfl ?_
        refine k_bipush C dX3_number_33 (v := 57) rfl ?_
        obtain ⟨v35, h35, h⟩ := k_bd_e h
        refine k_goI (k_runSN C dX3_number_35 (e_X11_within (d := 2) (Nat.le_refl _) h35) k_lX3_45 k_yX11_within (by omega) rfl (Nat.le_of_ble_eq_true rfl)) ?_
        refine k_if_eq C dX3_number_38 (tgt := 93) (by decide) (fun c38 => ?_) (fun c38 => ?_)
        · replace h := k_if_t h c38
          refine k_sub (L' := [(0, .ref (w.2.1 3)), (2, .int x2), (3, .int x3), (4, .int v4_11), (5, .int v5_11)]) [0, 2, 3, 4, 5] rfl ?_
          exact Jj93 h
        · replace h := k_if_f h c38
          refine k_iload C dX3_number_41 5 rfl ?_
          refine k_iload_n C dX3_number_43 1 rfl ?_
          refine k_icmp_lt C dX3_number_44 (tgt := 57) (by decide) (fun c44 => ?_) (fun c44 => ?_)
          · replace h := k_if_t h c44
            refine k_bipush C dX3_number_57 (v := 10) rfl ?_
            refine k_iload C dX3_number_59 4 rfl ?_
            refine k_imul C dX3_number_61 ?_
            refine k_aload_n C dX3_number_62 0 rfl ?_
            refine k_get C dX3_number_63 (k_gX3_0 w) k_fX3_9 (Or.inl rfl) ?_
            refine k_aload_n C dX3_number_66 0 rfl ?_
            refine k_get C dX3_number_67 (k_gX3_2 w) k_fX3_19 (Or.inl rfl) ?_
            obtain ⟨q70, h⟩ := k_gd_e h
            refine k_iald C dX3_number_70 (k_aX4 w) q70 ?_
            refine k_iadd C dX3_number_71 ?_
            refine k_bipush C dX3_number_72 (v := 48) rfl ?_
            refine k_isub C dX3_number_74 ?_
            refine k_topi (fun y75 ey75 => ?_)
            replace h := k_nm_e h y75 ey75
            refine k_istore C dX3_number_75 (by decide) [1, 2, 3, 4, 0, 5] (L' := [(0, .ref (w.2.1 3)), (1, .int x1), (2, .int x2), (3, .int x3), (4, .int y75), (5, .int v5_11)]) rfl ?_
            refine k_iinc C dX3_number_77 5 rfl (v := 1) rfl (by decide) [1, 2, 3, 4, 5, 0] (L' := fun z9 => [(0, .ref (w.2.1 3)), (1, .int x1), (2, .int x2), (3, .int x3), (4, .int y75), (5, .int z9)]) (fun z9 => rfl) (fun y77 ey77 => ?_)
            replace h := k_nm_e h y77 ey77
            refine k_aload_n C dX3_number_80 0 rfl ?_
            refine k_dup C dX3_number_81 rfl ?_
            refine k_get C dX3_number_82 (k_gX3_2 w) k_fX3_19 (Or.inl rfl) ?_
            refine k_iconst C dX3_number_85 (v := 1) rfl ?_
            refine k_iadd C dX3_number_86 ?_
            refine k_puti C dX3_number_87 (k_pX3_2 w) k_fX3_19 (Or.inl rfl) k_xi ?_
            refine k_st (fun s87 es87 => ?_)
            replace h := k_nm_e h s87 es87
            refine k_goto C dX3_number_90 (tgt := 11) (by decide) ?_
            exact ih11 _ _ _ h
          · replace h := k_if_f h c44
            refine k_aload_n C dX3_number_47 0 rfl ?_
            refine k_aload_n C dX3_number_48 0 rfl ?_
            refine k_get C dX3_number_49 (k_gX3_2 w) k_fX3_19 (Or.inl rfl) ?_
            obtain ⟨s52, h52, h⟩ := k_bd_e h
            refine k_goV (k_runV C dX3_number_52 (e_X3_failAt_3 (d := 2) (Nat.le_refl _) h52) k_lX3_41_X2 k_yX3_failAt (k_oX3 w) (by omega) rfl (Nat.le_of_ble_eq_true rfl)) ?_
            refine k_iconst C dX3_number_55 (v := 0) rfl ?_
            exact k_iret C dX3_number_56 hr (Option.some.inj h)
  exact K11 _ _ _ _ h
set_option maxHeartbeats 4000000 in
set_option maxRecDepth 100000 in
theorem e_X3_number_7 {l : Launch} {w : k_WC} {d : Nat} (hd : 3 ≤ d) {x1 : Int32} {x2 : Int32} {x3 : Int32}  {σ σ' : k_St} {r : Int32} (h : f_X3_number 7 x1 x2 x3 σ = some (r, σ')) : k_EI l (k_PX w) yX3_number cX3_number 6 (some .int) d [.ref (w.2.1 7), .int x1, .int x2, .int x3] σ r σ' := by
  refine k_of (own := RX3) rfl (by decide) (Nat.le_of_ble_eq_true rfl) (fun X hX C hr => ?_)
  show k_K (k_PX w) X (k_MQ X (k_Qi (k_PX w) r σ') (k_PX w).2.2.1) 0 [(0, .ref (w.2.1 7)), (1, .int x1), (2, .int x2), (3, .int x3)] [] σ
  unfold f_X3_number at h
  refine k_aload_n C dX3_number_0 0 rfl ?_
  obtain ⟨v1, s1, h1, h⟩ := k_b2_e h
  refine k_goI (k_runV C dX3_number_1 (e_X3_next_7 (d := 2) (Nat.le_refl _) h1) k_lX3_34_X10 k_yX3_next (k_oX7 w) (by omega) rfl (Nat.le_of_ble_eq_true rfl)) ?_
  refine k_pop C dX3_number_4 rfl ?_
  refine k_iconst C dX3_number_5 (v := 0) rfl ?_
  refine k_istore C dX3_number_6 (by decide) [1, 2, 3, 4, 0] (L' := [(0, .ref (w.2.1 7)), (1, .int x1), (2, .int x2), (3, .int x3), (4, .int (0 : Int32))]) rfl ?_
  refine k_iconst C dX3_number_8 (v := 0) rfl ?_
  refine k_istore C dX3_number_9 (by decide) [1, 2, 3, 4, 5, 0] (L' := [(0, .ref (w.2.1 7)), (1, .int x1), (2, .int x2), (3, .int x3), (4, .int (0 : Int32)), (5, .int (0 : Int32))]) rfl ?_
  obtain ⟨b11, eb11, h⟩ := k_lp_e h
  have K11 : ∀ (n : Nat) (v4_11 : Int32) (v5_11 : Int32) (s_11 : k_St), k_loop b11 n (v4_11, v5_11, s_11) = some (r, σ') → k_K (k_PX w) X (k_MQ X (k_Qi (k_PX w) r σ') (k_PX w).2.2.1) 11 [(0, .ref (w.2.1 7)), (1, .int x1), (2, .int x2), (3, .int x3), (4, .int v4_11), (5, .int v5_11)] [] s_11 := by
    intro n
    induction n with
    | zero => intro v4_11 v5_11 s_11 h; cases h
    | succ n ih11 =>
      intro v4_11 v5_11 s_11 h
      obtain ⟨g11, eg11, h⟩ := k_lp_s h
      rw [← eg11] at ih11
      rw [eb11] at h
      refine k_aload_n C dX3_number_11 0 rfl ?_
      refine k_get C dX3_number_12 (k_gX7_2 w) k_fX3_19 (Or.inl rfl) ?_
      refine k_aload_n C dX3_number_15 0 rfl ?_
      refine k_get C dX3_number_16 (k_gX7_1 w) k_fX3_15 (Or.inl rfl) ?_
      obtain ⟨j93, ej93, h⟩ := k_jn_e h
      have Jj93 : j93 () = some (r, σ') → k_K (k_PX w) X (k_MQ X (k_Qi (k_PX w) r σ') (k_PX w).2.2.1) 93 [(0, .ref (w.2.1 7)), (2, .int x2), (3, .int x3), (4, .int v4_11), (5, .int v5_11)] [] s_11 := by
        intro  h
        rw [ej93] at h
        refine k_iload C dX3_number_93 4 rfl ?_
        refine k_if_ne C dX3_number_95 (tgt := 109) (by decide) (fun c95 => ?_) (fun c95 => ?_)
        · replace h := k_if_f h c95
          refine k_iload C dX3_number_109 3 rfl ?_
          refine k_iload_n C dX3_number_111 1 rfl ?_
          refine k_iload_n C dX3_number_112 2 rfl ?_
          obtain ⟨v113, h113, h⟩ := k_bd_e h
          refine k_goI (k_runSN C dX3_number_113 (e_X11_within (d := 2) (Nat.le_refl _) h113) k_lX3_45 k_yX11_within (by omega) rfl (Nat.le_of_ble_eq_true rfl)) ?_
          refine k_if_ne C dX3_number_116 (tgt := 129) (by decide) (fun c116 => ?_) (fun c116 => ?_)
          · replace h := k_if_f h c116
            refine k_iload C dX3_number_129 3 rfl ?_
            exact k_iret C dX3_number_131 hr (Option.some.inj h)
          · replace h := k_if_t h c116
            refine k_aload_n C dX3_number_119 0 rfl ?_
            refine k_aload_n C dX3_number_120 0 rfl ?_
            refine k_get C dX3_number_121 (k_gX7_2 w) k_fX3_19 (Or.inl rfl) ?_
            refine k_iconst C dX3_number_124 (v := 1) rfl ?_
            refine k_isub C dX3_number_125 ?_
            obtain ⟨s126, h126, h⟩ := k_bd_e h
            refine k_goV (k_runV C dX3_number_126 (e_X3_failAt_7 (d := 2) (Nat.le_refl _) h126) k_lX3_41_X10 k_yX3_failAt (k_oX7 w) (by omega) rfl (Nat.le_of_ble_eq_true rfl)) ?_
            refine k_iload C dX3_number_129 3 rfl ?_
            exact k_iret C dX3_number_131 hr (Option.some.inj h)
        · replace h := k_if_t h c95
          refine k_aload_n C dX3_number_98 0 rfl ?_
          refine k_aload_n C dX3_number_99 0 rfl ?_
          refine k_get C dX3_number_100 (k_gX7_2 w) k_fX3_19 (Or.inl rfl) ?_
          obtain ⟨s103, h103, h⟩ := k_bd_e h
          refine k_goV (k_runV C dX3_number_103 (e_X3_failAt_7 (d := 2) (Nat.le_refl _) h103) k_lX3_41_X10 k_yX3_failAt (k_oX7 w) (by omega) rfl (Nat.le_of_ble_eq_true rfl)) ?_
          refine k_goto C dX3_number_106 (tgt := 129) (by decide) ?_
          refine k_iload C dX3_number_129 3 rfl ?_
          exact k_iret C dX3_number_131 hr (Option.some.inj h)
      refine k_icmp_ge C dX3_number_19 (tgt := 93) (by decide) (fun c19 => ?_) (fun c19 => ?_)
      · replace h := k_if_t h c19
        refine k_sub (L' := [(0, .ref (w.2.1 7)), (2, .int x2), (3, .int x3), (4, .int v4_11), (5, .int v5_11)]) [0, 2, 3, 4, 5] rfl ?_
        exact Jj93 h
      · replace h := k_if_f h c19
        refine k_aload_n C dX3_number_22 0 rfl ?_
        refine k_get C dX3_number_23 (k_gX7_0 w) k_fX3_9 (Or.inl rfl) ?_
        refine k_aload_n C dX3_number_26 0 rfl ?_
        refine k_get C dX3_number_27 (k_gX7_2 w) k_fX3_19 (Or.inl rfl) ?_
        obtain ⟨q30, h⟩ := k_gd_e h
        refine k_iald C dX3_number_30 (k_aX8 w) q30 ?_
        refine k_bipush C dX3_number_31 (v := 48) rfl ?_
        refine k_bipush C dX3_number_33 (v := 57) rfl ?_
        obtain ⟨v35, h35, h⟩ := k_bd_e h
        refine k_goI (k_runSN C dX3_number_35 (e_X11_within (d := 2) (Nat.le_refl _) h35) k_lX3_45 k_yX11_within (by omega) rfl (Nat.le_of_ble_eq_true rfl)) ?_
        refine k_if_eq C dX3_number_38 (tgt := 93) (by decide) (fun c38 => ?_) (fun c38 => ?_)
        · replace h := k_if_t h c38
          refine k_sub (L' := [(0, .ref (w.2.1 7)), (2, .int x2), (3, .int x3), (4, .int v4_11), (5, .int v5_11)]) [0, 2, 3, 4, 5] rfl ?_
          exact Jj93 h
        · replace h := k_if_f h c38
          refine k_iload C dX3_number_41 5 rfl ?_
          refine k_iload_n C dX3_number_43 1 rfl ?_
          refine k_icmp_lt C dX3_number_44 (tgt := 57) (by decide) (fun c44 => ?_) (fun c44 => ?_)
          · replace h := k_if_t h c44
            refine k_bipush C dX3_number_57 (v := 10) rfl ?_
            refine k_iload C dX3_number_59 4 rfl ?_
            refine k_imul C dX3_number_61 ?_
            refine k_aload_n C dX3_number_62 0 rfl ?_
            refine k_get C dX3_number_63 (k_gX7_0 w) k_fX3_9 (Or.inl rfl) ?_
            refine k_aload_n C dX3_number_66 0 rfl ?_
            refine k_get C dX3_number_67 (k_gX7_2 w) k_fX3_19 (Or.inl rfl) ?_
            obtain ⟨q70, h⟩ := k_gd_e h
            refine k_iald C dX3_number_70 (k_aX8 w) q70 ?_
            refine k_iadd C dX3_number_71 ?_
            refine k_bipush C dX3_number_72 (v := 48) rfl ?_
            refine k_isub C dX3_number_74 ?_
            refine k_topi (fun y75 ey75 => ?_)
            replace h := k_nm_e h y75 ey75
            refine k_istore C dX3_number_75 (by decide) [1, 2, 3, 4, 0, 5] (L' := [(0, .ref (w.2.1 7)), (1, .int x1), (2, .int x2), (3, .int x3), (4, .int y75), (5, .int v5_11)]) rfl ?_
            refine k_iinc C dX3_number_77 5 rfl (v := 1) rfl (by decide) [1, 2, 3, 4, 5, 0] (L' := fun z9 => [(0, .ref (w.2.1 7)), (1, .int x1), (2, .int x2), (3, .int x3), (4, .int y75), (5, .int z9)]) (fun z9 => rfl) (fun y77 ey77 => ?_)
            replace h := k_nm_e h y77 ey77
            refine k_aload_n C dX3_number_80 0 rfl ?_
            refine k_dup C dX3_number_81 rfl ?_
            refine k_get C dX3_number_82 (k_gX7_2 w) k_fX3_19 (Or.inl rfl) ?_
            refine k_iconst C dX3_number_85 (v := 1) rfl ?_
            refine k_iadd C dX3_number_86 ?_
            refine k_puti C dX3_number_87 (k_pX7_2 w) k_fX3_19 (Or.inl rfl) k_xi ?_
            refine k_st (fun s87 es87 => ?_)
            replace h := k_nm_e h s87 es87
            refine k_goto C dX3_number_90 (tgt := 11) (by decide) ?_
            exact ih11 _ _ _ h
          · replace h := k_if_f h c44
            refine k_aload_n C dX3_number_47 0 rfl ?_
            refine k_aload_n C dX3_number_48 0 rfl ?_
            refine k_get C dX3_number_49 (k_gX7_2 w) k_fX3_19 (Or.inl rfl) ?_
            obtain ⟨s52, h52, h⟩ := k_bd_e h
            refine k_goV (k_runV C dX3_number_52 (e_X3_failAt_7 (d := 2) (Nat.le_refl _) h52) k_lX3_41_X10 k_yX3_failAt (k_oX7 w) (by omega) rfl (Nat.le_of_ble_eq_true rfl)) ?_
            refine k_iconst C dX3_number_55 (v := 0) rfl ?_
            exact k_iret C dX3_number_56 hr (Option.some.inj h)
  exact K11 _ _ _ _ h
def f_X6_startLake (c0 : Nat) (x1 : Int32) (σ : k_St) : Option (k_St) :=
  k_nm (k_wr σ c0 0 (0 : Int32)) fun s2 =>
  k_nm (k_wl s2 c0 1 (0 : Int64)) fun s7 =>
  k_nm (k_wr s7 c0 3 (0 : Int32)) fun s12 =>
  k_nm (k_wr s12 c0 4 (0 : Int32)) fun s17 =>
  k_nm (k_wr s17 c0 5 x1) fun s22 =>
  k_nm (k_wr s22 c0 6 (0 : Int32)) fun s27 =>
  some s27
set_option maxHeartbeats 4000000 in
set_option maxRecDepth 100000 in
theorem e_X6_startLake_16 {l : Launch} {w : k_WC} {d : Nat} (hd : 2 ≤ d) {x1 : Int32}  {σ σ' : k_St} (h : f_X6_startLake 16 x1 σ = some σ') : k_EV l (k_PX w) yX6_startLake cX6_startLake 2 d [.ref (w.2.1 16), .int x1] σ σ' := by
  refine k_of (own := RX6) rfl (by decide) (Nat.le_of_ble_eq_true rfl) (fun X hX C hr => ?_)
  show k_K (k_PX w) X (k_MQ X (k_Qv (k_PX w) σ') (k_PX w).2.2.1) 0 [(0, .ref (w.2.1 16)), (1, .int x1)] [] σ
  unfold f_X6_startLake at h
  refine k_aload_n C dX6_startLake_0 0 rfl ?_
  refine k_iconst C dX6_startLake_1 (v := 0) rfl ?_
  refine k_puti C dX6_startLake_2 (k_pX16_0 w) k_fX6_9 (Or.inl rfl) k_xi ?_
  refine k_st (fun s2 es2 => ?_)
  replace h := k_nm_e h s2 es2
  refine k_aload_n C dX6_startLake_5 0 rfl ?_
  refine k_lconst C dX6_startLake_6 (v := 0) rfl ?_
  refine k_putl C dX6_startLake_7 (k_pX16_1 w) k_fX6_15 rfl ?_
  refine k_st (fun s7 es7 => ?_)
  replace h := k_nm_e h s7 es7
  refine k_aload_n C dX6_startLake_10 0 rfl ?_
  refine k_iconst C dX6_startLake_11 (v := 0) rfl ?_
  refine k_puti C dX6_startLake_12 (k_pX16_3 w) k_fX6_22 (Or.inl rfl) (k_xz rfl) ?_
  refine k_st (fun s12 es12 => ?_)
  replace h := k_nm_e h s12 es12
  refine k_aload_n C dX6_startLake_15 0 rfl ?_
  refine k_iconst C dX6_startLake_16 (v := 0) rfl ?_
  refine k_puti C dX6_startLake_17 (k_pX16_4 w) k_fX6_26 (Or.inl rfl) (k_xz rfl) ?_
  refine k_st (fun s17 es17 => ?_)
  replace h := k_nm_e h s17 es17
  refine k_aload_n C dX6_startLake_20 0 rfl ?_
  refine k_iload_n C dX6_startLake_21 1 rfl ?_
  refine k_puti C dX6_startLake_22 (k_pX16_5 w) k_fX6_29 (Or.inl rfl) k_xi ?_
  refine k_st (fun s22 es22 => ?_)
  replace h := k_nm_e h s22 es22
  refine k_aload_n C dX6_startLake_25 0 rfl ?_
  refine k_iconst C dX6_startLake_26 (v := 0) rfl ?_
  refine k_puti C dX6_startLake_27 (k_pX16_6 w) k_fX6_32 (Or.inl rfl) k_xi ?_
  refine k_st (fun s27 es27 => ?_)
  replace h := k_nm_e h s27 es27
  exact k_vret C dX6_startLake_30 hr (Option.some.inj h)
set_option maxHeartbeats 4000000 in
set_option maxRecDepth 100000 in
theorem e_X6_startLake_23 {l : Launch} {w : k_WC} {d : Nat} (hd : 2 ≤ d) {x1 : Int32}  {σ σ' : k_St} (h : f_X6_startLake 23 x1 σ = some σ') : k_EV l (k_PX w) yX6_startLake cX6_startLake 2 d [.ref (w.2.1 23), .int x1] σ σ' := by
  refine k_of (own := RX6) rfl (by decide) (Nat.le_of_ble_eq_true rfl) (fun X hX C hr => ?_)
  show k_K (k_PX w) X (k_MQ X (k_Qv (k_PX w) σ') (k_PX w).2.2.1) 0 [(0, .ref (w.2.1 23)), (1, .int x1)] [] σ
  unfold f_X6_startLake at h
  refine k_aload_n C dX6_startLake_0 0 rfl ?_
  refine k_iconst C dX6_startLake_1 (v := 0) rfl ?_
  refine k_puti C dX6_startLake_2 (k_pX23_0 w) k_fX6_9 (Or.inl rfl) k_xi ?_
  refine k_st (fun s2 es2 => ?_)
  replace h := k_nm_e h s2 es2
  refine k_aload_n C dX6_startLake_5 0 rfl ?_
  refine k_lconst C dX6_startLake_6 (v := 0) rfl ?_
  refine k_putl C dX6_startLake_7 (k_pX23_1 w) k_fX6_15 rfl ?_
  refine k_st (fun s7 es7 => ?_)
  replace h := k_nm_e h s7 es7
  refine k_aload_n C dX6_startLake_10 0 rfl ?_
  refine k_iconst C dX6_startLake_11 (v := 0) rfl ?_
  refine k_puti C dX6_startLake_12 (k_pX23_3 w) k_fX6_22 (Or.inl rfl) (k_xz rfl) ?_
  refine k_st (fun s12 es12 => ?_)
  replace h := k_nm_e h s12 es12
  refine k_aload_n C dX6_startLake_15 0 rfl ?_
  refine k_iconst C dX6_startLake_16 (v := 0) rfl ?_
  refine k_puti C dX6_startLake_17 (k_pX23_4 w) k_fX6_26 (Or.inl rfl) (k_xz rfl) ?_
  refine k_st (fun s17 es17 => ?_)
  replace h := k_nm_e h s17 es17
  refine k_aload_n C dX6_startLake_20 0 rfl ?_
  refine k_iload_n C dX6_startLake_21 1 rfl ?_
  refine k_puti C dX6_startLake_22 (k_pX23_5 w) k_fX6_29 (Or.inl rfl) k_xi ?_
  refine k_st (fun s22 es22 => ?_)
  replace h := k_nm_e h s22 es22
  refine k_aload_n C dX6_startLake_25 0 rfl ?_
  refine k_iconst C dX6_startLake_26 (v := 0) rfl ?_
  refine k_puti C dX6_startLake_27 (k_pX23_6 w) k_fX6_32 (Or.inl rfl) k_xi ?_
  refine k_st (fun s27 es27 => ?_)
  replace h := k_nm_e h s27 es27
  exact k_vret C dX6_startLake_30 hr (Option.some.inj h)
def f_X6_draw (c0 : Nat) (x1 : Int32) (σ : k_St) : Option (Int32 × k_St) :=
  k_nm (k_wl σ c0 2 (((k_rl σ c0 2) * (6364136223846793005 : Int64)) + (1442695040888963407 : Int64))) fun s13 =>
  k_if ((1 : Int32) ≤ x1)
    (k_gd (¬ x1.toInt64 = 0) <|
    some ((o_lrem (o_lushr (k_rl s13 c0 2) (33 : Int32)) x1.toInt64).toInt32, s13))
    (some ((0 : Int32), s13))
set_option maxHeartbeats 4000000 in
set_option maxRecDepth 100000 in
theorem e_X6_draw_16 {l : Launch} {w : k_WC} {d : Nat} (hd : 2 ≤ d) {x1 : Int32}  {σ σ' : k_St} {r : Int32} (h : f_X6_draw 16 x1 σ = some (r, σ')) : k_EI l (k_PX w) yX6_draw cX6_draw 2 (some .int) d [.ref (w.2.1 16), .int x1] σ r σ' := by
  refine k_of (own := RX6) rfl (by decide) (Nat.le_of_ble_eq_true rfl) (fun X hX C hr => ?_)
  show k_K (k_PX w) X (k_MQ X (k_Qi (k_PX w) r σ') (k_PX w).2.2.1) 0 [(0, .ref (w.2.1 16)), (1, .int x1)] [] σ
  unfold f_X6_draw at h
  refine k_aload_n C dX6_draw_0 0 rfl ?_
  refine k_aload_n C dX6_draw_1 0 rfl ?_
  refine k_get C dX6_draw_2 (k_gX16_2 w) k_fX6_19 (Or.inl rfl) ?_
  refine k_ldc2 C dX6_draw_5 k_cX6_55 ?_
  refine k_lmul C dX6_draw_8 ?_
  refine k_ldc2 C dX6_draw_9 k_cX6_57 ?_
  refine k_ladd C dX6_draw_12 ?_
  refine k_putl C dX6_draw_13 (k_pX16_2 w) k_fX6_19 rfl ?_
  refine k_st (fun s13 es13 => ?_)
  replace h := k_nm_e h s13 es13
  refine k_iload_n C dX6_draw_16 1 rfl ?_
  refine k_iconst C dX6_draw_17 (v := 1) rfl ?_
  refine k_icmp_ge C dX6_draw_18 (tgt := 25) (by decide) (fun c18 => ?_) (fun c18 => ?_)
  · replace h := k_if_t h c18
    refine k_aload_n C dX6_draw_25 0 rfl ?_
    refine k_get C dX6_draw_26 (k_gX16_2 w) k_fX6_19 (Or.inl rfl) ?_
    refine k_bipush C dX6_draw_29 (v := 33) rfl ?_
    refine k_lushr C dX6_draw_31 ?_
    refine k_iload_n C dX6_draw_32 1 rfl ?_
    refine k_i2l C dX6_draw_33 ?_
    obtain ⟨q34, h⟩ := k_gd_e h
    refine k_lrem C dX6_draw_34 q34 ?_
    refine k_l2i C dX6_draw_35 ?_
    exact k_iret C dX6_draw_36 hr (Option.some.inj h)
  · replace h := k_if_f h c18
    refine k_iconst C dX6_draw_21 (v := 0) rfl ?_
    refine k_goto C dX6_draw_22 (tgt := 36) (by decide) ?_
    exact k_iret C dX6_draw_36 hr (Option.some.inj h)
set_option maxHeartbeats 4000000 in
set_option maxRecDepth 100000 in
theorem e_X6_draw_23 {l : Launch} {w : k_WC} {d : Nat} (hd : 2 ≤ d) {x1 : Int32}  {σ σ' : k_St} {r : Int32} (h : f_X6_draw 23 x1 σ = some (r, σ')) : k_EI l (k_PX w) yX6_draw cX6_draw 2 (some .int) d [.ref (w.2.1 23), .int x1] σ r σ' := by
  refine k_of (own := RX6) rfl (by decide) (Nat.le_of_ble_eq_true rfl) (fun X hX C hr => ?_)
  show k_K (k_PX w) X (k_MQ X (k_Qi (k_PX w) r σ') (k_PX w).2.2.1) 0 [(0, .ref (w.2.1 23)), (1, .int x1)] [] σ
  unfold f_X6_draw at h
  refine k_aload_n C dX6_draw_0 0 rfl ?_
  refine k_aload_n C dX6_draw_1 0 rfl ?_
  refine k_get C dX6_draw_2 (k_gX23_2 w) k_fX6_19 (Or.inl rfl) ?_
  refine k_ldc2 C dX6_draw_5 k_cX6_55 ?_
  refine k_lmul C dX6_draw_8 ?_
  refine k_ldc2 C dX6_draw_9 k_cX6_57 ?_
  refine k_ladd C dX6_draw_12 ?_
  refine k_putl C dX6_draw_13 (k_pX23_2 w) k_fX6_19 rfl ?_
  refine k_st (fun s13 es13 => ?_)
  replace h := k_nm_e h s13 es13
  refine k_iload_n C dX6_draw_16 1 rfl ?_
  refine k_iconst C dX6_draw_17 (v := 1) rfl ?_
  refine k_icmp_ge C dX6_draw_18 (tgt := 25) (by decide) (fun c18 => ?_) (fun c18 => ?_)
  · replace h := k_if_t h c18
    refine k_aload_n C dX6_draw_25 0 rfl ?_
    refine k_get C dX6_draw_26 (k_gX23_2 w) k_fX6_19 (Or.inl rfl) ?_
    refine k_bipush C dX6_draw_29 (v := 33) rfl ?_
    refine k_lushr C dX6_draw_31 ?_
    refine k_iload_n C dX6_draw_32 1 rfl ?_
    refine k_i2l C dX6_draw_33 ?_
    obtain ⟨q34, h⟩ := k_gd_e h
    refine k_lrem C dX6_draw_34 q34 ?_
    refine k_l2i C dX6_draw_35 ?_
    exact k_iret C dX6_draw_36 hr (Option.some.inj h)
  · replace h := k_if_f h c18
    refine k_iconst C dX6_draw_21 (v := 0) rfl ?_
    refine k_goto C dX6_draw_22 (tgt := 36) (by decide) ?_
    exact k_iret C dX6_draw_36 hr (Option.some.inj h)
def f_X6_startDay (c0 : Nat) (σ : k_St) : Option (k_St) :=
  k_bd (f_X11_within (k_rd σ c0 6) (0 : Int32) (39 : Int32)) fun v7 =>
  k_if (v7 = (0 : Int32))
    (some σ)
    (k_gd (k_ix (k_rd σ c0 6) 40 = true) <|
    k_nm (k_wr σ (c0 + 4) (k_rd σ c0 6).toNatClampNeg (k_rd σ c0 0)) fun s25 =>
    k_gd (k_ix (k_rd s25 c0 6) 40 = true) <|
    k_nm (k_wl s25 (c0 + 5) (k_rd s25 c0 6).toNatClampNeg (k_rl s25 c0 1)) fun s38 =>
    k_gd (k_ix (k_rd s38 c0 6) 40 = true) <|
    k_nm (k_wl s38 (c0 + 6) (k_rd s38 c0 6).toNatClampNeg (k_rl s38 c0 2)) fun s51 =>
    some s51)
set_option maxHeartbeats 4000000 in
set_option maxRecDepth 100000 in
theorem e_X6_startDay_16 {l : Launch} {w : k_WC} {d : Nat} (hd : 3 ≤ d)   {σ σ' : k_St} (h : f_X6_startDay 16 σ = some σ') : k_EV l (k_PX w) yX6_startDay cX6_startDay 1 d [.ref (w.2.1 16)] σ σ' := by
  refine k_of (own := RX6) rfl (by decide) (Nat.le_of_ble_eq_true rfl) (fun X hX C hr => ?_)
  show k_K (k_PX w) X (k_MQ X (k_Qv (k_PX w) σ') (k_PX w).2.2.1) 0 [(0, .ref (w.2.1 16))] [] σ
  unfold f_X6_startDay at h
  refine k_aload_n C dX6_startDay_0 0 rfl ?_
  refine k_get C dX6_startDay_1 (k_gX16_6 w) k_fX6_32 (Or.inl rfl) ?_
  refine k_iconst C dX6_startDay_4 (v := 0) rfl ?_
  refine k_bipush C dX6_startDay_5 (v := 39) rfl ?_
  obtain ⟨v7, h7, h⟩ := k_bd_e h
  refine k_goI (k_runSN C dX6_startDay_7 (e_X11_within (d := 2) (Nat.le_refl _) h7) k_lX6_59 k_yX11_within (by omega) rfl (Nat.le_of_ble_eq_true rfl)) ?_
  refine k_if_eq C dX6_startDay_10 (tgt := 52) (by decide) (fun c10 => ?_) (fun c10 => ?_)
  · replace h := k_if_t h c10
    exact k_vret C dX6_startDay_52 hr (Option.some.inj h)
  · replace h := k_if_f h c10
    refine k_aload_n C dX6_startDay_13 0 rfl ?_
    refine k_get C dX6_startDay_14 (k_gX16_10 w) k_fX6_45 (Or.inl rfl) ?_
    refine k_aload_n C dX6_startDay_17 0 rfl ?_
    refine k_get C dX6_startDay_18 (k_gX16_6 w) k_fX6_32 (Or.inl rfl) ?_
    refine k_aload_n C dX6_startDay_21 0 rfl ?_
    refine k_get C dX6_startDay_22 (k_gX16_0 w) k_fX6_9 (Or.inl rfl) ?_
    obtain ⟨q25, h⟩ := k_gd_e h
    refine k_iast C dX6_startDay_25 (k_aX20 w) q25 ?_
    refine k_st (fun s25 es25 => ?_)
    replace h := k_nm_e h s25 es25
    refine k_aload_n C dX6_startDay_26 0 rfl ?_
    refine k_get C dX6_startDay_27 (k_gX16_11 w) k_fX6_48 (Or.inl rfl) ?_
    refine k_aload_n C dX6_startDay_30 0 rfl ?_
    refine k_get C dX6_startDay_31 (k_gX16_6 w) k_fX6_32 (Or.inl rfl) ?_
    refine k_aload_n C dX6_startDay_34 0 rfl ?_
    refine k_get C dX6_startDay_35 (k_gX16_1 w) k_fX6_15 (Or.inl rfl) ?_
    obtain ⟨q38, h⟩ := k_gd_e h
    refine k_last C dX6_startDay_38 (k_aX21 w) q38 ?_
    refine k_st (fun s38 es38 => ?_)
    replace h := k_nm_e h s38 es38
    refine k_aload_n C dX6_startDay_39 0 rfl ?_
    refine k_get C dX6_startDay_40 (k_gX16_12 w) k_fX6_52 (Or.inl rfl) ?_
    refine k_aload_n C dX6_startDay_43 0 rfl ?_
    refine k_get C dX6_startDay_44 (k_gX16_6 w) k_fX6_32 (Or.inl rfl) ?_
    refine k_aload_n C dX6_startDay_47 0 rfl ?_
    refine k_get C dX6_startDay_48 (k_gX16_2 w) k_fX6_19 (Or.inl rfl) ?_
    obtain ⟨q51, h⟩ := k_gd_e h
    refine k_last C dX6_startDay_51 (k_aX22 w) q51 ?_
    refine k_st (fun s51 es51 => ?_)
    replace h := k_nm_e h s51 es51
    exact k_vret C dX6_startDay_52 hr (Option.some.inj h)
set_option maxHeartbeats 4000000 in
set_option maxRecDepth 100000 in
theorem e_X6_startDay_23 {l : Launch} {w : k_WC} {d : Nat} (hd : 3 ≤ d)   {σ σ' : k_St} (h : f_X6_startDay 23 σ = some σ') : k_EV l (k_PX w) yX6_startDay cX6_startDay 1 d [.ref (w.2.1 23)] σ σ' := by
  refine k_of (own := RX6) rfl (by decide) (Nat.le_of_ble_eq_true rfl) (fun X hX C hr => ?_)
  show k_K (k_PX w) X (k_MQ X (k_Qv (k_PX w) σ') (k_PX w).2.2.1) 0 [(0, .ref (w.2.1 23))] [] σ
  unfold f_X6_startDay at h
  refine k_aload_n C dX6_startDay_0 0 rfl ?_
  refine k_get C dX6_startDay_1 (k_gX23_6 w) k_fX6_32 (Or.inl rfl) ?_
  refine k_iconst C dX6_startDay_4 (v := 0) rfl ?_
  refine k_bipush C dX6_startDay_5 (v := 39) rfl ?_
  obtain ⟨v7, h7, h⟩ := k_bd_e h
  refine k_goI (k_runSN C dX6_startDay_7 (e_X11_within (d := 2) (Nat.le_refl _) h7) k_lX6_59 k_yX11_within (by omega) rfl (Nat.le_of_ble_eq_true rfl)) ?_
  refine k_if_eq C dX6_startDay_10 (tgt := 52) (by decide) (fun c10 => ?_) (fun c10 => ?_)
  · replace h := k_if_t h c10
    exact k_vret C dX6_startDay_52 hr (Option.some.inj h)
  · replace h := k_if_f h c10
    refine k_aload_n C dX6_startDay_13 0 rfl ?_
    refine k_get C dX6_startDay_14 (k_gX23_10 w) k_fX6_45 (Or.inl rfl) ?_
    refine k_aload_n C dX6_startDay_17 0 rfl ?_
    refine k_get C dX6_startDay_18 (k_gX23_6 w) k_fX6_32 (Or.inl rfl) ?_
    refine k_aload_n C dX6_startDay_21 0 rfl ?_
    refine k_get C dX6_startDay_22 (k_gX23_0 w) k_fX6_9 (Or.inl rfl) ?_
    obtain ⟨q25, h⟩ := k_gd_e h
    refine k_iast C dX6_startDay_25 (k_aX27 w) q25 ?_
    refine k_st (fun s25 es25 => ?_)
    replace h := k_nm_e h s25 es25
    refine k_aload_n C dX6_startDay_26 0 rfl ?_
    refine k_get C dX6_startDay_27 (k_gX23_11 w) k_fX6_48 (Or.inl rfl) ?_
    refine k_aload_n C dX6_startDay_30 0 rfl ?_
    refine k_get C dX6_startDay_31 (k_gX23_6 w) k_fX6_32 (Or.inl rfl) ?_
    refine k_aload_n C dX6_startDay_34 0 rfl ?_
    refine k_get C dX6_startDay_35 (k_gX23_1 w) k_fX6_15 (Or.inl rfl) ?_
    obtain ⟨q38, h⟩ := k_gd_e h
    refine k_last C dX6_startDay_38 (k_aX28 w) q38 ?_
    refine k_st (fun s38 es38 => ?_)
    replace h := k_nm_e h s38 es38
    refine k_aload_n C dX6_startDay_39 0 rfl ?_
    refine k_get C dX6_startDay_40 (k_gX23_12 w) k_fX6_52 (Or.inl rfl) ?_
    refine k_aload_n C dX6_startDay_43 0 rfl ?_
    refine k_get C dX6_startDay_44 (k_gX23_6 w) k_fX6_32 (Or.inl rfl) ?_
    refine k_aload_n C dX6_startDay_47 0 rfl ?_
    refine k_get C dX6_startDay_48 (k_gX23_2 w) k_fX6_19 (Or.inl rfl) ?_
    obtain ⟨q51, h⟩ := k_gd_e h
    refine k_last C dX6_startDay_51 (k_aX29 w) q51 ?_
    refine k_st (fun s51 es51 => ?_)
    replace h := k_nm_e h s51 es51
    exact k_vret C dX6_startDay_52 hr (Option.some.inj h)
def f_X6_endDay (c0 : Nat) (x1 : Int32) (x2 : Int32) (x3 : Int32) (σ : k_St) : Option (k_St) :=
  k_bd (f_X11_within (k_rd σ c0 6) (0 : Int32) (39 : Int32)) fun v7 =>
  k_if (v7 = (0 : Int32))
    (some σ)
    (k_gd (k_ix (k_rd σ c0 6) 40 = true) <|
    k_nm (k_wr σ (c0 + 1) (k_rd σ c0 6).toNatClampNeg x1) fun s22 =>
    k_gd (k_ix (k_rd s22 c0 6) 40 = true) <|
    k_nm (k_wr s22 (c0 + 2) (k_rd s22 c0 6).toNatClampNeg x2) fun s32 =>
    k_gd (k_ix (k_rd s32 c0 6) 40 = true) <|
    k_nm (k_wr s32 (c0 + 3) (k_rd s32 c0 6).toNatClampNeg x3) fun s42 =>
    k_nm (k_wr s42 c0 6 ((k_rd s42 c0 6) + (1 : Int32))) fun s50 =>
    some s50)
set_option maxHeartbeats 4000000 in
set_option maxRecDepth 100000 in
theorem e_X6_endDay_16 {l : Launch} {w : k_WC} {d : Nat} (hd : 3 ≤ d) {x1 : Int32} {x2 : Int32} {x3 : Int32}  {σ σ' : k_St} (h : f_X6_endDay 16 x1 x2 x3 σ = some σ') : k_EV l (k_PX w) yX6_endDay cX6_endDay 4 d [.ref (w.2.1 16), .int x1, .int x2, .int x3] σ σ' := by
  refine k_of (own := RX6) rfl (by decide) (Nat.le_of_ble_eq_true rfl) (fun X hX C hr => ?_)
  show k_K (k_PX w) X (k_MQ X (k_Qv (k_PX w) σ') (k_PX w).2.2.1) 0 [(0, .ref (w.2.1 16)), (1, .int x1), (2, .int x2), (3, .int x3)] [] σ
  unfold f_X6_endDay at h
  refine k_aload_n C dX6_endDay_0 0 rfl ?_
  refine k_get C dX6_endDay_1 (k_gX16_6 w) k_fX6_32 (Or.inl rfl) ?_
  refine k_iconst C dX6_endDay_4 (v := 0) rfl ?_
  refine k_bipush C dX6_endDay_5 (v := 39) rfl ?_
  obtain ⟨v7, h7, h⟩ := k_bd_e h
  refine k_goI (k_runSN C dX6_endDay_7 (e_X11_within (d := 2) (Nat.le_refl _) h7) k_lX6_59 k_yX11_within (by omega) rfl (Nat.le_of_ble_eq_true rfl)) ?_
  refine k_if_eq C dX6_endDay_10 (tgt := 53) (by decide) (fun c10 => ?_) (fun c10 => ?_)
  · replace h := k_if_t h c10
    exact k_vret C dX6_endDay_53 hr (Option.some.inj h)
  · replace h := k_if_f h c10
    refine k_aload_n C dX6_endDay_13 0 rfl ?_
    refine k_get C dX6_endDay_14 (k_gX16_7 w) k_fX6_35 (Or.inl rfl) ?_
    refine k_aload_n C dX6_endDay_17 0 rfl ?_
    refine k_get C dX6_endDay_18 (k_gX16_6 w) k_fX6_32 (Or.inl rfl) ?_
    refine k_iload_n C dX6_endDay_21 1 rfl ?_
    obtain ⟨q22, h⟩ := k_gd_e h
    refine k_iast C dX6_endDay_22 (k_aX17 w) q22 ?_
    refine k_st (fun s22 es22 => ?_)
    replace h := k_nm_e h s22 es22
    refine k_aload_n C dX6_endDay_23 0 rfl ?_
    refine k_get C dX6_endDay_24 (k_gX16_8 w) k_fX6_39 (Or.inl rfl) ?_
    refine k_aload_n C dX6_endDay_27 0 rfl ?_
    refine k_get C dX6_endDay_28 (k_gX16_6 w) k_fX6_32 (Or.inl rfl) ?_
    refine k_iload_n C dX6_endDay_31 2 rfl ?_
    obtain ⟨q32, h⟩ := k_gd_e h
    refine k_iast C dX6_endDay_32 (k_aX18 w) q32 ?_
    refine k_st (fun s32 es32 => ?_)
    replace h := k_nm_e h s32 es32
    refine k_aload_n C dX6_endDay_33 0 rfl ?_
    refine k_get C dX6_endDay_34 (k_gX16_9 w) k_fX6_42 (Or.inl rfl) ?_
    refine k_aload_n C dX6_endDay_37 0 rfl ?_
    refine k_get C dX6_endDay_38 (k_gX16_6 w) k_fX6_32 (Or.inl rfl) ?_
    refine k_iload_n C dX6_endDay_41 3 rfl ?_
    obtain ⟨q42, h⟩ := k_gd_e h
    refine k_iast C dX6_endDay_42 (k_aX19 w) q42 ?_
    refine k_st (fun s42 es42 => ?_)
    replace h := k_nm_e h s42 es42
    refine k_aload_n C dX6_endDay_43 0 rfl ?_
    refine k_dup C dX6_endDay_44 rfl ?_
    refine k_get C dX6_endDay_45 (k_gX16_6 w) k_fX6_32 (Or.inl rfl) ?_
    refine k_iconst C dX6_endDay_48 (v := 1) rfl ?_
    refine k_iadd C dX6_endDay_49 ?_
    refine k_puti C dX6_endDay_50 (k_pX16_6 w) k_fX6_32 (Or.inl rfl) k_xi ?_
    refine k_st (fun s50 es50 => ?_)
    replace h := k_nm_e h s50 es50
    exact k_vret C dX6_endDay_53 hr (Option.some.inj h)
set_option maxHeartbeats 4000000 in
set_option maxRecDepth 100000 in
theorem e_X6_endDay_23 {l : Launch} {w : k_WC} {d : Nat} (hd : 3 ≤ d) {x1 : Int32} {x2 : Int32} {x3 : Int32}  {σ σ' : k_St} (h : f_X6_endDay 23 x1 x2 x3 σ = some σ') : k_EV l (k_PX w) yX6_endDay cX6_endDay 4 d [.ref (w.2.1 23), .int x1, .int x2, .int x3] σ σ' := by
  refine k_of (own := RX6) rfl (by decide) (Nat.le_of_ble_eq_true rfl) (fun X hX C hr => ?_)
  show k_K (k_PX w) X (k_MQ X (k_Qv (k_PX w) σ') (k_PX w).2.2.1) 0 [(0, .ref (w.2.1 23)), (1, .int x1), (2, .int x2), (3, .int x3)] [] σ
  unfold f_X6_endDay at h
  refine k_aload_n C dX6_endDay_0 0 rfl ?_
  refine k_get C dX6_endDay_1 (k_gX23_6 w) k_fX6_32 (Or.inl rfl) ?_
  refine k_iconst C dX6_endDay_4 (v := 0) rfl ?_
  refine k_bipush C dX6_endDay_5 (v := 39) rfl ?_
  obtain ⟨v7, h7, h⟩ := k_bd_e h
  refine k_goI (k_runSN C dX6_endDay_7 (e_X11_within (d := 2) (Nat.le_refl _) h7) k_lX6_59 k_yX11_within (by omega) rfl (Nat.le_of_ble_eq_true rfl)) ?_
  refine k_if_eq C dX6_endDay_10 (tgt := 53) (by decide) (fun c10 => ?_) (fun c10 => ?_)
  · replace h := k_if_t h c10
    exact k_vret C dX6_endDay_53 hr (Option.some.inj h)
  · replace h := k_if_f h c10
    refine k_aload_n C dX6_endDay_13 0 rfl ?_
    refine k_get C dX6_endDay_14 (k_gX23_7 w) k_fX6_35 (Or.inl rfl) ?_
    refine k_aload_n C dX6_endDay_17 0 rfl ?_
    refine k_get C dX6_endDay_18 (k_gX23_6 w) k_fX6_32 (Or.inl rfl) ?_
    refine k_iload_n C dX6_endDay_21 1 rfl ?_
    obtain ⟨q22, h⟩ := k_gd_e h
    refine k_iast C dX6_endDay_22 (k_aX24 w) q22 ?_
    refine k_st (fun s22 es22 => ?_)
    replace h := k_nm_e h s22 es22
    refine k_aload_n C dX6_endDay_23 0 rfl ?_
    refine k_get C dX6_endDay_24 (k_gX23_8 w) k_fX6_39 (Or.inl rfl) ?_
    refine k_aload_n C dX6_endDay_27 0 rfl ?_
    refine k_get C dX6_endDay_28 (k_gX23_6 w) k_fX6_32 (Or.inl rfl) ?_
    refine k_iload_n C dX6_endDay_31 2 rfl ?_
    obtain ⟨q32, h⟩ := k_gd_e h
    refine k_iast C dX6_endDay_32 (k_aX25 w) q32 ?_
    refine k_st (fun s32 es32 => ?_)
    replace h := k_nm_e h s32 es32
    refine k_aload_n C dX6_endDay_33 0 rfl ?_
    refine k_get C dX6_endDay_34 (k_gX23_9 w) k_fX6_42 (Or.inl rfl) ?_
    refine k_aload_n C dX6_endDay_37 0 rfl ?_
    refine k_get C dX6_endDay_38 (k_gX23_6 w) k_fX6_32 (Or.inl rfl) ?_
    refine k_iload_n C dX6_endDay_41 3 rfl ?_
    obtain ⟨q42, h⟩ := k_gd_e h
    refine k_iast C dX6_endDay_42 (k_aX26 w) q42 ?_
    refine k_st (fun s42 es42 => ?_)
    replace h := k_nm_e h s42 es42
    refine k_aload_n C dX6_endDay_43 0 rfl ?_
    refine k_dup C dX6_endDay_44 rfl ?_
    refine k_get C dX6_endDay_45 (k_gX23_6 w) k_fX6_32 (Or.inl rfl) ?_
    refine k_iconst C dX6_endDay_48 (v := 1) rfl ?_
    refine k_iadd C dX6_endDay_49 ?_
    refine k_puti C dX6_endDay_50 (k_pX23_6 w) k_fX6_32 (Or.inl rfl) k_xi ?_
    refine k_st (fun s50 es50 => ?_)
    replace h := k_nm_e h s50 es50
    exact k_vret C dX6_endDay_53 hr (Option.some.inj h)
def f_X6_shoalOn (c0 : Nat) (x1 : Int32) (σ : k_St) : Option (Int32) :=
  k_bd (f_X11_within x1 (0 : Int32) (39 : Int32)) fun v4 =>
  k_if (v4 = (0 : Int32))
    (some (-1 : Int32))
    (k_gd (k_ix x1 40 = true) <|
    some (k_rd σ (c0 + 1) x1.toNatClampNeg))
set_option maxHeartbeats 4000000 in
set_option maxRecDepth 100000 in
theorem e_X6_shoalOn_16 {l : Launch} {w : k_WC} {d : Nat} (hd : 3 ≤ d) {x1 : Int32}  {σ : k_St} {r : Int32} (h : f_X6_shoalOn 16 x1 σ = some r) : k_EI l (k_PX w) yX6_shoalOn cX6_shoalOn 2 (some .int) d [.ref (w.2.1 16), .int x1] σ r σ := by
  refine k_of (own := RX6) rfl (by decide) (Nat.le_of_ble_eq_true rfl) (fun X hX C hr => ?_)
  show k_K (k_PX w) X (k_MQ X (k_Qi (k_PX w) r σ) (k_PX w).2.2.1) 0 [(0, .ref (w.2.1 16)), (1, .int x1)] [] σ
  unfold f_X6_shoalOn at h
  refine k_iload_n C dX6_shoalOn_0 1 rfl ?_
  refine k_iconst C dX6_shoalOn_1 (v := 0) rfl ?_
  refine k_bipush C dX6_shoalOn_2 (v := 39) rfl ?_
  obtain ⟨v4, h4, h⟩ := k_bd_e h
  refine k_goI (k_runSN C dX6_shoalOn_4 (e_X11_within (d := 2) (Nat.le_refl _) h4) k_lX6_59 k_yX11_within (by omega) rfl (Nat.le_of_ble_eq_true rfl)) ?_
  refine k_if_eq C dX6_shoalOn_7 (tgt := 19) (by decide) (fun c7 => ?_) (fun c7 => ?_)
  · replace h := k_if_t h c7
    refine k_iconst C dX6_shoalOn_19 (v := -1) rfl ?_
    exact k_iret C dX6_shoalOn_20 hr (k_p1 h)
  · replace h := k_if_f h c7
    refine k_aload_n C dX6_shoalOn_10 0 rfl ?_
    refine k_get C dX6_shoalOn_11 (k_gX16_7 w) k_fX6_35 (Or.inl rfl) ?_
    refine k_iload_n C dX6_shoalOn_14 1 rfl ?_
    obtain ⟨q15, h⟩ := k_gd_e h
    refine k_iald C dX6_shoalOn_15 (k_aX17 w) q15 ?_
    refine k_goto C dX6_shoalOn_16 (tgt := 20) (by decide) ?_
    exact k_iret C dX6_shoalOn_20 hr (k_p1 h)
set_option maxHeartbeats 4000000 in
set_option maxRecDepth 100000 in
theorem e_X6_shoalOn_23 {l : Launch} {w : k_WC} {d : Nat} (hd : 3 ≤ d) {x1 : Int32}  {σ : k_St} {r : Int32} (h : f_X6_shoalOn 23 x1 σ = some r) : k_EI l (k_PX w) yX6_shoalOn cX6_shoalOn 2 (some .int) d [.ref (w.2.1 23), .int x1] σ r σ := by
  refine k_of (own := RX6) rfl (by decide) (Nat.le_of_ble_eq_true rfl) (fun X hX C hr => ?_)
  show k_K (k_PX w) X (k_MQ X (k_Qi (k_PX w) r σ) (k_PX w).2.2.1) 0 [(0, .ref (w.2.1 23)), (1, .int x1)] [] σ
  unfold f_X6_shoalOn at h
  refine k_iload_n C dX6_shoalOn_0 1 rfl ?_
  refine k_iconst C dX6_shoalOn_1 (v := 0) rfl ?_
  refine k_bipush C dX6_shoalOn_2 (v := 39) rfl ?_
  obtain ⟨v4, h4, h⟩ := k_bd_e h
  refine k_goI (k_runSN C dX6_shoalOn_4 (e_X11_within (d := 2) (Nat.le_refl _) h4) k_lX6_59 k_yX11_within (by omega) rfl (Nat.le_of_ble_eq_true rfl)) ?_
  refine k_if_eq C dX6_shoalOn_7 (tgt := 19) (by decide) (fun c7 => ?_) (fun c7 => ?_)
  · replace h := k_if_t h c7
    refine k_iconst C dX6_shoalOn_19 (v := -1) rfl ?_
    exact k_iret C dX6_shoalOn_20 hr (k_p1 h)
  · replace h := k_if_f h c7
    refine k_aload_n C dX6_shoalOn_10 0 rfl ?_
    refine k_get C dX6_shoalOn_11 (k_gX23_7 w) k_fX6_35 (Or.inl rfl) ?_
    refine k_iload_n C dX6_shoalOn_14 1 rfl ?_
    obtain ⟨q15, h⟩ := k_gd_e h
    refine k_iald C dX6_shoalOn_15 (k_aX24 w) q15 ?_
    refine k_goto C dX6_shoalOn_16 (tgt := 20) (by decide) ?_
    exact k_iret C dX6_shoalOn_20 hr (k_p1 h)
def f_X6_cameOn (c0 : Nat) (x1 : Int32) (σ : k_St) : Option (Int32) :=
  k_bd (f_X11_within x1 (0 : Int32) (39 : Int32)) fun v4 =>
  k_if (v4 = (0 : Int32))
    (some (-1 : Int32))
    (k_gd (k_ix x1 40 = true) <|
    some (k_rd σ (c0 + 2) x1.toNatClampNeg))
set_option maxHeartbeats 4000000 in
set_option maxRecDepth 100000 in
theorem e_X6_cameOn_16 {l : Launch} {w : k_WC} {d : Nat} (hd : 3 ≤ d) {x1 : Int32}  {σ : k_St} {r : Int32} (h : f_X6_cameOn 16 x1 σ = some r) : k_EI l (k_PX w) yX6_cameOn cX6_cameOn 2 (some .int) d [.ref (w.2.1 16), .int x1] σ r σ := by
  refine k_of (own := RX6) rfl (by decide) (Nat.le_of_ble_eq_true rfl) (fun X hX C hr => ?_)
  show k_K (k_PX w) X (k_MQ X (k_Qi (k_PX w) r σ) (k_PX w).2.2.1) 0 [(0, .ref (w.2.1 16)), (1, .int x1)] [] σ
  unfold f_X6_cameOn at h
  refine k_iload_n C dX6_cameOn_0 1 rfl ?_
  refine k_iconst C dX6_cameOn_1 (v := 0) rfl ?_
  refine k_bipush C dX6_cameOn_2 (v := 39) rfl ?_
  obtain ⟨v4, h4, h⟩ := k_bd_e h
  refine k_goI (k_runSN C dX6_cameOn_4 (e_X11_within (d := 2) (Nat.le_refl _) h4) k_lX6_59 k_yX11_within (by omega) rfl (Nat.le_of_ble_eq_true rfl)) ?_
  refine k_if_eq C dX6_cameOn_7 (tgt := 19) (by decide) (fun c7 => ?_) (fun c7 => ?_)
  · replace h := k_if_t h c7
    refine k_iconst C dX6_cameOn_19 (v := -1) rfl ?_
    exact k_iret C dX6_cameOn_20 hr (k_p1 h)
  · replace h := k_if_f h c7
    refine k_aload_n C dX6_cameOn_10 0 rfl ?_
    refine k_get C dX6_cameOn_11 (k_gX16_8 w) k_fX6_39 (Or.inl rfl) ?_
    refine k_iload_n C dX6_cameOn_14 1 rfl ?_
    obtain ⟨q15, h⟩ := k_gd_e h
    refine k_iald C dX6_cameOn_15 (k_aX18 w) q15 ?_
    refine k_goto C dX6_cameOn_16 (tgt := 20) (by decide) ?_
    exact k_iret C dX6_cameOn_20 hr (k_p1 h)
set_option maxHeartbeats 4000000 in
set_option maxRecDepth 100000 in
theorem e_X6_cameOn_23 {l : Launch} {w : k_WC} {d : Nat} (hd : 3 ≤ d) {x1 : Int32}  {σ : k_St} {r : Int32} (h : f_X6_cameOn 23 x1 σ = some r) : k_EI l (k_PX w) yX6_cameOn cX6_cameOn 2 (some .int) d [.ref (w.2.1 23), .int x1] σ r σ := by
  refine k_of (own := RX6) rfl (by decide) (Nat.le_of_ble_eq_true rfl) (fun X hX C hr => ?_)
  show k_K (k_PX w) X (k_MQ X (k_Qi (k_PX w) r σ) (k_PX w).2.2.1) 0 [(0, .ref (w.2.1 23)), (1, .int x1)] [] σ
  unfold f_X6_cameOn at h
  refine k_iload_n C dX6_cameOn_0 1 rfl ?_
  refine k_iconst C dX6_cameOn_1 (v := 0) rfl ?_
  refine k_bipush C dX6_cameOn_2 (v := 39) rfl ?_
  obtain ⟨v4, h4, h⟩ := k_bd_e h
  refine k_goI (k_runSN C dX6_cameOn_4 (e_X11_within (d := 2) (Nat.le_refl _) h4) k_lX6_59 k_yX11_within (by omega) rfl (Nat.le_of_ble_eq_true rfl)) ?_
  refine k_if_eq C dX6_cameOn_7 (tgt := 19) (by decide) (fun c7 => ?_) (fun c7 => ?_)
  · replace h := k_if_t h c7
    refine k_iconst C dX6_cameOn_19 (v := -1) rfl ?_
    exact k_iret C dX6_cameOn_20 hr (k_p1 h)
  · replace h := k_if_f h c7
    refine k_aload_n C dX6_cameOn_10 0 rfl ?_
    refine k_get C dX6_cameOn_11 (k_gX23_8 w) k_fX6_39 (Or.inl rfl) ?_
    refine k_iload_n C dX6_cameOn_14 1 rfl ?_
    obtain ⟨q15, h⟩ := k_gd_e h
    refine k_iald C dX6_cameOn_15 (k_aX25 w) q15 ?_
    refine k_goto C dX6_cameOn_16 (tgt := 20) (by decide) ?_
    exact k_iret C dX6_cameOn_20 hr (k_p1 h)
def f_X6_caughtOn (c0 : Nat) (x1 : Int32) (σ : k_St) : Option (Int32) :=
  k_bd (f_X11_within x1 (0 : Int32) (39 : Int32)) fun v4 =>
  k_if (v4 = (0 : Int32))
    (some (-1 : Int32))
    (k_gd (k_ix x1 40 = true) <|
    some (k_rd σ (c0 + 3) x1.toNatClampNeg))
set_option maxHeartbeats 4000000 in
set_option maxRecDepth 100000 in
theorem e_X6_caughtOn_16 {l : Launch} {w : k_WC} {d : Nat} (hd : 3 ≤ d) {x1 : Int32}  {σ : k_St} {r : Int32} (h : f_X6_caughtOn 16 x1 σ = some r) : k_EI l (k_PX w) yX6_caughtOn cX6_caughtOn 2 (some .int) d [.ref (w.2.1 16), .int x1] σ r σ := by
  refine k_of (own := RX6) rfl (by decide) (Nat.le_of_ble_eq_true rfl) (fun X hX C hr => ?_)
  show k_K (k_PX w) X (k_MQ X (k_Qi (k_PX w) r σ) (k_PX w).2.2.1) 0 [(0, .ref (w.2.1 16)), (1, .int x1)] [] σ
  unfold f_X6_caughtOn at h
  refine k_iload_n C dX6_caughtOn_0 1 rfl ?_
  refine k_iconst C dX6_caughtOn_1 (v := 0) rfl ?_
  refine k_bipush C dX6_caughtOn_2 (v := 39) rfl ?_
  obtain ⟨v4, h4, h⟩ := k_bd_e h
  refine k_goI (k_runSN C dX6_caughtOn_4 (e_X11_within (d := 2) (Nat.le_refl _) h4) k_lX6_59 k_yX11_within (by omega) rfl (Nat.le_of_ble_eq_true rfl)) ?_
  refine k_if_eq C dX6_caughtOn_7 (tgt := 19) (by decide) (fun c7 => ?_) (fun c7 => ?_)
  · replace h := k_if_t h c7
    refine k_iconst C dX6_caughtOn_19 (v := -1) rfl ?_
    exact k_iret C dX6_caughtOn_20 hr (k_p1 h)
  · replace h := k_if_f h c7
    refine k_aload_n C dX6_caughtOn_10 0 rfl ?_
    refine k_get C dX6_caughtOn_11 (k_gX16_9 w) k_fX6_42 (Or.inl rfl) ?_
    refine k_iload_n C dX6_caughtOn_14 1 rfl ?_
    obtain ⟨q15, h⟩ := k_gd_e h
    refine k_iald C dX6_caughtOn_15 (k_aX19 w) q15 ?_
    refine k_goto C dX6_caughtOn_16 (tgt := 20) (by decide) ?_
    exact k_iret C dX6_caughtOn_20 hr (k_p1 h)
set_option maxHeartbeats 4000000 in
set_option maxRecDepth 100000 in
theorem e_X6_caughtOn_23 {l : Launch} {w : k_WC} {d : Nat} (hd : 3 ≤ d) {x1 : Int32}  {σ : k_St} {r : Int32} (h : f_X6_caughtOn 23 x1 σ = some r) : k_EI l (k_PX w) yX6_caughtOn cX6_caughtOn 2 (some .int) d [.ref (w.2.1 23), .int x1] σ r σ := by
  refine k_of (own := RX6) rfl (by decide) (Nat.le_of_ble_eq_true rfl) (fun X hX C hr => ?_)
  show k_K (k_PX w) X (k_MQ X (k_Qi (k_PX w) r σ) (k_PX w).2.2.1) 0 [(0, .ref (w.2.1 23)), (1, .int x1)] [] σ
  unfold f_X6_caughtOn at h
  refine k_iload_n C dX6_caughtOn_0 1 rfl ?_
  refine k_iconst C dX6_caughtOn_1 (v := 0) rfl ?_
  refine k_bipush C dX6_caughtOn_2 (v := 39) rfl ?_
  obtain ⟨v4, h4, h⟩ := k_bd_e h
  refine k_goI (k_runSN C dX6_caughtOn_4 (e_X11_within (d := 2) (Nat.le_refl _) h4) k_lX6_59 k_yX11_within (by omega) rfl (Nat.le_of_ble_eq_true rfl)) ?_
  refine k_if_eq C dX6_caughtOn_7 (tgt := 19) (by decide) (fun c7 => ?_) (fun c7 => ?_)
  · replace h := k_if_t h c7
    refine k_iconst C dX6_caughtOn_19 (v := -1) rfl ?_
    exact k_iret C dX6_caughtOn_20 hr (k_p1 h)
  · replace h := k_if_f h c7
    refine k_aload_n C dX6_caughtOn_10 0 rfl ?_
    refine k_get C dX6_caughtOn_11 (k_gX23_9 w) k_fX6_42 (Or.inl rfl) ?_
    refine k_iload_n C dX6_caughtOn_14 1 rfl ?_
    obtain ⟨q15, h⟩ := k_gd_e h
    refine k_iald C dX6_caughtOn_15 (k_aX26 w) q15 ?_
    refine k_goto C dX6_caughtOn_16 (tgt := 20) (by decide) ?_
    exact k_iret C dX6_caughtOn_20 hr (k_p1 h)
def f_X6_takeBackDay (c0 : Nat) (σ : k_St) : Option (k_St) :=
  k_bd (f_X11_within (k_rd σ c0 6) (1 : Int32) (40 : Int32)) fun v7 =>
  k_if (v7 = (0 : Int32))
    (some σ)
    (k_nm (k_wr σ c0 6 ((k_rd σ c0 6) - (1 : Int32))) fun s20 =>
    k_gd (k_ix (k_rd s20 c0 6) 40 = true) <|
    k_nm (k_wr s20 c0 0 (k_rd s20 (c0 + 4) (k_rd s20 c0 6).toNatClampNeg)) fun s33 =>
    k_gd (k_ix (k_rd s33 c0 6) 40 = true) <|
    k_nm (k_wl s33 c0 1 (k_rl s33 (c0 + 5) (k_rd s33 c0 6).toNatClampNeg)) fun s46 =>
    k_gd (k_ix (k_rd s46 c0 6) 40 = true) <|
    k_nm (k_wl s46 c0 2 (k_rl s46 (c0 + 6) (k_rd s46 c0 6).toNatClampNeg)) fun s59 =>
    some s59)
set_option maxHeartbeats 4000000 in
set_option maxRecDepth 100000 in
theorem e_X6_takeBackDay_16 {l : Launch} {w : k_WC} {d : Nat} (hd : 3 ≤ d)   {σ σ' : k_St} (h : f_X6_takeBackDay 16 σ = some σ') : k_EV l (k_PX w) yX6_takeBackDay cX6_takeBackDay 1 d [.ref (w.2.1 16)] σ σ' := by
  refine k_of (own := RX6) rfl (by decide) (Nat.le_of_ble_eq_true rfl) (fun X hX C hr => ?_)
  show k_K (k_PX w) X (k_MQ X (k_Qv (k_PX w) σ') (k_PX w).2.2.1) 0 [(0, .ref (w.2.1 16))] [] σ
  unfold f_X6_takeBackDay at h
  refine k_aload_n C dX6_takeBackDay_0 0 rfl ?_
  refine k_get C dX6_takeBackDay_1 (k_gX16_6 w) k_fX6_32 (Or.inl rfl) ?_
  refine k_iconst C dX6_takeBackDay_4 (v := 1) rfl ?_
  refine k_bipush C dX6_takeBackDay_5 (v := 40) rfl ?_
  obtain ⟨v7, h7, h⟩ := k_bd_e h
  refine k_goI (k_runSN C dX6_takeBackDay_7 (e_X11_within (d := 2) (Nat.le_refl _) h7) k_lX6_59 k_yX11_within (by omega) rfl (Nat.le_of_ble_eq_true rfl)) ?_
  refine k_if_eq C dX6_takeBackDay_10 (tgt := 62) (by decide) (fun c10 => ?_) (fun c10 => ?_)
  · replace h := k_if_t h c10
    exact k_vret C dX6_takeBackDay_62 hr (Option.some.inj h)
  · replace h := k_if_f h c10
    refine k_aload_n C dX6_takeBackDay_13 0 rfl ?_
    refine k_dup C dX6_takeBackDay_14 rfl ?_
    refine k_get C dX6_takeBackDay_15 (k_gX16_6 w) k_fX6_32 (Or.inl rfl) ?_
    refine k_iconst C dX6_takeBackDay_18 (v := 1) rfl ?_
    refine k_isub C dX6_takeBackDay_19 ?_
    refine k_puti C dX6_takeBackDay_20 (k_pX16_6 w) k_fX6_32 (Or.inl rfl) k_xi ?_
    refine k_st (fun s20 es20 => ?_)
    replace h := k_nm_e h s20 es20
    refine k_aload_n C dX6_takeBackDay_23 0 rfl ?_
    refine k_aload_n C dX6_takeBackDay_24 0 rfl ?_
    refine k_get C dX6_takeBackDay_25 (k_gX16_10 w) k_fX6_45 (Or.inl rfl) ?_
    refine k_aload_n C dX6_takeBackDay_28 0 rfl ?_
    refine k_get C dX6_takeBackDay_29 (k_gX16_6 w) k_fX6_32 (Or.inl rfl) ?_
    obtain ⟨q32, h⟩ := k_gd_e h
    refine k_iald C dX6_takeBackDay_32 (k_aX20 w) q32 ?_
    refine k_puti C dX6_takeBackDay_33 (k_pX16_0 w) k_fX6_9 (Or.inl rfl) k_xi ?_
    refine k_st (fun s33 es33 => ?_)
    replace h := k_nm_e h s33 es33
    refine k_aload_n C dX6_takeBackDay_36 0 rfl ?_
    refine k_aload_n C dX6_takeBackDay_37 0 rfl ?_
    refine k_get C dX6_takeBackDay_38 (k_gX16_11 w) k_fX6_48 (Or.inl rfl) ?_
    refine k_aload_n C dX6_takeBackDay_41 0 rfl ?_
    refine k_get C dX6_takeBackDay_42 (k_gX16_6 w) k_fX6_32 (Or.inl rfl) ?_
    obtain ⟨q45, h⟩ := k_gd_e h
    refine k_lald C dX6_takeBackDay_45 (k_aX21 w) q45 ?_
    refine k_putl C dX6_takeBackDay_46 (k_pX16_1 w) k_fX6_15 rfl ?_
    refine k_st (fun s46 es46 => ?_)
    replace h := k_nm_e h s46 es46
    refine k_aload_n C dX6_takeBackDay_49 0 rfl ?_
    refine k_aload_n C dX6_takeBackDay_50 0 rfl ?_
    refine k_get C dX6_takeBackDay_51 (k_gX16_12 w) k_fX6_52 (Or.inl rfl) ?_
    refine k_aload_n C dX6_takeBackDay_54 0 rfl ?_
    refine k_get C dX6_takeBackDay_55 (k_gX16_6 w) k_fX6_32 (Or.inl rfl) ?_
    obtain ⟨q58, h⟩ := k_gd_e h
    refine k_lald C dX6_takeBackDay_58 (k_aX22 w) q58 ?_
    refine k_putl C dX6_takeBackDay_59 (k_pX16_2 w) k_fX6_19 rfl ?_
    refine k_st (fun s59 es59 => ?_)
    replace h := k_nm_e h s59 es59
    exact k_vret C dX6_takeBackDay_62 hr (Option.some.inj h)
set_option maxHeartbeats 4000000 in
set_option maxRecDepth 100000 in
theorem e_X6_takeBackDay_23 {l : Launch} {w : k_WC} {d : Nat} (hd : 3 ≤ d)   {σ σ' : k_St} (h : f_X6_takeBackDay 23 σ = some σ') : k_EV l (k_PX w) yX6_takeBackDay cX6_takeBackDay 1 d [.ref (w.2.1 23)] σ σ' := by
  refine k_of (own := RX6) rfl (by decide) (Nat.le_of_ble_eq_true rfl) (fun X hX C hr => ?_)
  show k_K (k_PX w) X (k_MQ X (k_Qv (k_PX w) σ') (k_PX w).2.2.1) 0 [(0, .ref (w.2.1 23))] [] σ
  unfold f_X6_takeBackDay at h
  refine k_aload_n C dX6_takeBackDay_0 0 rfl ?_
  refine k_get C dX6_takeBackDay_1 (k_gX23_6 w) k_fX6_32 (Or.inl rfl) ?_
  refine k_iconst C dX6_takeBackDay_4 (v := 1) rfl ?_
  refine k_bipush C dX6_takeBackDay_5 (v := 40) rfl ?_
  obtain ⟨v7, h7, h⟩ := k_bd_e h
  refine k_goI (k_runSN C dX6_takeBackDay_7 (e_X11_within (d := 2) (Nat.le_refl _) h7) k_lX6_59 k_yX11_within (by omega) rfl (Nat.le_of_ble_eq_true rfl)) ?_
  refine k_if_eq C dX6_takeBackDay_10 (tgt := 62) (by decide) (fun c10 => ?_) (fun c10 => ?_)
  · replace h := k_if_t h c10
    exact k_vret C dX6_takeBackDay_62 hr (Option.some.inj h)
  · replace h := k_if_f h c10
    refine k_aload_n C dX6_takeBackDay_13 0 rfl ?_
    refine k_dup C dX6_takeBackDay_14 rfl ?_
    refine k_get C dX6_takeBackDay_15 (k_gX23_6 w) k_fX6_32 (Or.inl rfl) ?_
    refine k_iconst C dX6_takeBackDay_18 (v := 1) rfl ?_
    refine k_isub C dX6_takeBackDay_19 ?_
    refine k_puti C dX6_takeBackDay_20 (k_pX23_6 w) k_fX6_32 (Or.inl rfl) k_xi ?_
    refine k_st (fun s20 es20 => ?_)
    replace h := k_nm_e h s20 es20
    refine k_aload_n C dX6_takeBackDay_23 0 rfl ?_
    refine k_aload_n C dX6_takeBackDay_24 0 rfl ?_
    refine k_get C dX6_takeBackDay_25 (k_gX23_10 w) k_fX6_45 (Or.inl rfl) ?_
    refine k_aload_n C dX6_takeBackDay_28 0 rfl ?_
    refine k_get C dX6_takeBackDay_29 (k_gX23_6 w) k_fX6_32 (Or.inl rfl) ?_
    obtain ⟨q32, h⟩ := k_gd_e h
    refine k_iald C dX6_takeBackDay_32 (k_aX27 w) q32 ?_
    refine k_puti C dX6_takeBackDay_33 (k_pX23_0 w) k_fX6_9 (Or.inl rfl) k_xi ?_
    refine k_st (fun s33 es33 => ?_)
    replace h := k_nm_e h s33 es33
    refine k_aload_n C dX6_takeBackDay_36 0 rfl ?_
    refine k_aload_n C dX6_takeBackDay_37 0 rfl ?_
    refine k_get C dX6_takeBackDay_38 (k_gX23_11 w) k_fX6_48 (Or.inl rfl) ?_
    refine k_aload_n C dX6_takeBackDay_41 0 rfl ?_
    refine k_get C dX6_takeBackDay_42 (k_gX23_6 w) k_fX6_32 (Or.inl rfl) ?_
    obtain ⟨q45, h⟩ := k_gd_e h
    refine k_lald C dX6_takeBackDay_45 (k_aX28 w) q45 ?_
    refine k_putl C dX6_takeBackDay_46 (k_pX23_1 w) k_fX6_15 rfl ?_
    refine k_st (fun s46 es46 => ?_)
    replace h := k_nm_e h s46 es46
    refine k_aload_n C dX6_takeBackDay_49 0 rfl ?_
    refine k_aload_n C dX6_takeBackDay_50 0 rfl ?_
    refine k_get C dX6_takeBackDay_51 (k_gX23_12 w) k_fX6_52 (Or.inl rfl) ?_
    refine k_aload_n C dX6_takeBackDay_54 0 rfl ?_
    refine k_get C dX6_takeBackDay_55 (k_gX23_6 w) k_fX6_32 (Or.inl rfl) ?_
    obtain ⟨q58, h⟩ := k_gd_e h
    refine k_lald C dX6_takeBackDay_58 (k_aX29 w) q58 ?_
    refine k_putl C dX6_takeBackDay_59 (k_pX23_2 w) k_fX6_19 rfl ?_
    refine k_st (fun s59 es59 => ?_)
    replace h := k_nm_e h s59 es59
    exact k_vret C dX6_takeBackDay_62 hr (Option.some.inj h)
def f_X6_takeFrom (c0 : Nat) (c1 : Nat) (σ : k_St) : Option (k_St) :=
  k_nm (k_wr σ c0 0 (k_rd σ c1 0)) fun s5 =>
  k_nm (k_wl s5 c0 1 (k_rl s5 c1 1)) fun s13 =>
  k_nm (k_wl s13 c0 2 (k_rl s13 c1 2)) fun s21 =>
  k_gd (o_isB (k_rd s21 c1 3) = true) <|
  k_nm (k_wr s21 c0 3 (k_rd s21 c1 3)) fun s29 =>
  k_gd (o_isB (k_rd s29 c1 4) = true) <|
  k_nm (k_wr s29 c0 4 (k_rd s29 c1 4)) fun s37 =>
  k_nm (k_wr s37 c0 5 (k_rd s37 c1 5)) fun s45 =>
  k_nm (k_wr s45 c0 6 (o_min (40 : Int32) (k_rd s45 c1 6))) fun s58 =>
  k_gd (o_cp (0 : Int32) (0 : Int32) (k_rd s58 c0 6) 40 40 = true) <|
  k_nm (k_cpI s58 (c1 + 1) (c0 + 1) (0 : Int32) (0 : Int32) (k_rd s58 c0 6)) fun s75 =>
  k_gd (o_cp (0 : Int32) (0 : Int32) (k_rd s75 c0 6) 40 40 = true) <|
  k_nm (k_cpI s75 (c1 + 2) (c0 + 2) (0 : Int32) (0 : Int32) (k_rd s75 c0 6)) fun s92 =>
  k_gd (o_cp (0 : Int32) (0 : Int32) (k_rd s92 c0 6) 40 40 = true) <|
  k_nm (k_cpI s92 (c1 + 3) (c0 + 3) (0 : Int32) (0 : Int32) (k_rd s92 c0 6)) fun s109 =>
  k_gd (o_cp (0 : Int32) (0 : Int32) (k_rd s109 c0 6) 40 40 = true) <|
  k_nm (k_cpI s109 (c1 + 4) (c0 + 4) (0 : Int32) (0 : Int32) (k_rd s109 c0 6)) fun s126 =>
  k_gd (o_cp (0 : Int32) (0 : Int32) (k_rd s126 c0 6) 40 40 = true) <|
  k_nm (k_cpL s126 (c1 + 5) (c0 + 5) (0 : Int32) (0 : Int32) (k_rd s126 c0 6)) fun s143 =>
  k_gd (o_cp (0 : Int32) (0 : Int32) (k_rd s143 c0 6) 40 40 = true) <|
  k_nm (k_cpL s143 (c1 + 6) (c0 + 6) (0 : Int32) (0 : Int32) (k_rd s143 c0 6)) fun s160 =>
  some s160
set_option maxHeartbeats 4000000 in
set_option maxRecDepth 100000 in
theorem e_X6_takeFrom_16 {l : Launch} {w : k_WC} {d : Nat} (hd : 3 ≤ d)   {σ σ' : k_St} (h : f_X6_takeFrom 16 23 σ = some σ') : k_EV l (k_PX w) yX6_takeFrom cX6_takeFrom 2 d [.ref (w.2.1 16), .ref (w.2.1 23)] σ σ' := by
  refine k_of (own := RX6) rfl (by decide) (Nat.le_of_ble_eq_true rfl) (fun X hX C hr => ?_)
  show k_K (k_PX w) X (k_MQ X (k_Qv (k_PX w) σ') (k_PX w).2.2.1) 0 [(0, .ref (w.2.1 16)), (1, .ref (w.2.1 23))] [] σ
  unfold f_X6_takeFrom at h
  refine k_aload_n C dX6_takeFrom_0 0 rfl ?_
  refine k_aload_n C dX6_takeFrom_1 1 rfl ?_
  refine k_get C dX6_takeFrom_2 (k_gX23_0 w) k_fX6_9 (Or.inl rfl) ?_
  refine k_puti C dX6_takeFrom_5 (k_pX16_0 w) k_fX6_9 (Or.inl rfl) k_xi ?_
  refine k_st (fun s5 es5 => ?_)
  replace h := k_nm_e h s5 es5
  refine k_aload_n C dX6_takeFrom_8 0 rfl ?_
  refine k_aload_n C dX6_takeFrom_9 1 rfl ?_
  refine k_get C dX6_takeFrom_10 (k_gX23_1 w) k_fX6_15 (Or.inl rfl) ?_
  refine k_putl C dX6_takeFrom_13 (k_pX16_1 w) k_fX6_15 rfl ?_
  refine k_st (fun s13 es13 => ?_)
  replace h := k_nm_e h s13 es13
  refine k_aload_n C dX6_takeFrom_16 0 rfl ?_
  refine k_aload_n C dX6_takeFrom_17 1 rfl ?_
  refine k_get C dX6_takeFrom_18 (k_gX23_2 w) k_fX6_19 (Or.inl rfl) ?_
  refine k_putl C dX6_takeFrom_21 (k_pX16_2 w) k_fX6_19 rfl ?_
  refine k_st (fun s21 es21 => ?_)
  replace h := k_nm_e h s21 es21
  refine k_aload_n C dX6_takeFrom_24 0 rfl ?_
  refine k_aload_n C dX6_takeFrom_25 1 rfl ?_
  refine k_get C dX6_takeFrom_26 (k_gX23_3 w) k_fX6_22 (Or.inl rfl) ?_
  obtain ⟨r29, h⟩ := k_gd_e h
  refine k_puti C dX6_takeFrom_29 (k_pX16_3 w) k_fX6_22 (Or.inl rfl) (k_xz r29) ?_
  refine k_st (fun s29 es29 => ?_)
  replace h := k_nm_e h s29 es29
  refine k_aload_n C dX6_takeFrom_32 0 rfl ?_
  refine k_aload_n C dX6_takeFrom_33 1 rfl ?_
  refine k_get C dX6_takeFrom_34 (k_gX23_4 w) k_fX6_26 (Or.inl rfl) ?_
  obtain ⟨r37, h⟩ := k_gd_e h
  refine k_puti C dX6_takeFrom_37 (k_pX16_4 w) k_fX6_26 (Or.inl rfl) (k_xz r37) ?_
  refine k_st (fun s37 es37 => ?_)
  replace h := k_nm_e h s37 es37
  refine k_aload_n C dX6_takeFrom_40 0 rfl ?_
  refine k_aload_n C dX6_takeFrom_41 1 rfl ?_
  refine k_get C dX6_takeFrom_42 (k_gX23_5 w) k_fX6_29 (Or.inl rfl) ?_
  refine k_puti C dX6_takeFrom_45 (k_pX16_5 w) k_fX6_29 (Or.inl rfl) k_xi ?_
  refine k_st (fun s45 es45 => ?_)
  replace h := k_nm_e h s45 es45
  refine k_aload_n C dX6_takeFrom_48 0 rfl ?_
  refine k_bipush C dX6_takeFrom_49 (v := 40) rfl ?_
  refine k_aload_n C dX6_takeFrom_51 1 rfl ?_
  refine k_get C dX6_takeFrom_52 (k_gX23_6 w) k_fX6_32 (Or.inl rfl) ?_
  refine k_mmin C dX6_takeFrom_55 k_lX6_63 k_ym_min (by omega) (Nat.le_of_ble_eq_true rfl) ?_
  refine k_puti C dX6_takeFrom_58 (k_pX16_6 w) k_fX6_32 (Or.inl rfl) k_xi ?_
  refine k_st (fun s58 es58 => ?_)
  replace h := k_nm_e h s58 es58
  refine k_aload_n C dX6_takeFrom_61 1 rfl ?_
  refine k_get C dX6_takeFrom_62 (k_gX23_7 w) k_fX6_35 (Or.inl rfl) ?_
  refine k_iconst C dX6_takeFrom_65 (v := 0) rfl ?_
  refine k_aload_n C dX6_takeFrom_66 0 rfl ?_
  refine k_get C dX6_takeFrom_67 (k_gX16_7 w) k_fX6_35 (Or.inl rfl) ?_
  refine k_iconst C dX6_takeFrom_70 (v := 0) rfl ?_
  refine k_aload_n C dX6_takeFrom_71 0 rfl ?_
  refine k_get C dX6_takeFrom_72 (k_gX16_6 w) k_fX6_32 (Or.inl rfl) ?_
  obtain ⟨q75, h⟩ := k_gd_e h
  refine k_copyi C dX6_takeFrom_75 k_lcX6_69 (k_aX24 w) (k_aX17 w) q75 (by omega) (Nat.le_of_ble_eq_true rfl) ?_
  refine k_st (fun s75 es75 => ?_)
  replace h := k_nm_e h s75 es75
  refine k_aload_n C dX6_takeFrom_78 1 rfl ?_
  refine k_get C dX6_takeFrom_79 (k_gX23_8 w) k_fX6_39 (Or.inl rfl) ?_
  refine k_iconst C dX6_takeFrom_82 (v := 0) rfl ?_
  refine k_aload_n C dX6_takeFrom_83 0 rfl ?_
  refine k_get C dX6_takeFrom_84 (k_gX16_8 w) k_fX6_39 (Or.inl rfl) ?_
  refine k_iconst C dX6_takeFrom_87 (v := 0) rfl ?_
  refine k_aload_n C dX6_takeFrom_88 0 rfl ?_
  refine k_get C dX6_takeFrom_89 (k_gX16_6 w) k_fX6_32 (Or.inl rfl) ?_
  obtain ⟨q92, h⟩ := k_gd_e h
  refine k_copyi C dX6_takeFrom_92 k_lcX6_69 (k_aX25 w) (k_aX18 w) q92 (by omega) (Nat.le_of_ble_eq_true rfl) ?_
  refine k_st (fun s92 es92 => ?_)
  replace h := k_nm_e h s92 es92
  refine k_aload_n C dX6_takeFrom_95 1 rfl ?_
  refine k_get C dX6_takeFrom_96 (k_gX23_9 w) k_fX6_42 (Or.inl rfl) ?_
  refine k_iconst C dX6_takeFrom_99 (v := 0) rfl ?_
  refine k_aload_n C dX6_takeFrom_100 0 rfl ?_
  refine k_get C dX6_takeFrom_101 (k_gX16_9 w) k_fX6_42 (Or.inl rfl) ?_
  refine k_iconst C dX6_takeFrom_104 (v := 0) rfl ?_
  refine k_aload_n C dX6_takeFrom_105 0 rfl ?_
  refine k_get C dX6_takeFrom_106 (k_gX16_6 w) k_fX6_32 (Or.inl rfl) ?_
  obtain ⟨q109, h⟩ := k_gd_e h
  refine k_copyi C dX6_takeFrom_109 k_lcX6_69 (k_aX26 w) (k_aX19 w) q109 (by omega) (Nat.le_of_ble_eq_true rfl) ?_
  refine k_st (fun s109 es109 => ?_)
  replace h := k_nm_e h s109 es109
  refine k_aload_n C dX6_takeFrom_112 1 rfl ?_
  refine k_get C dX6_takeFrom_113 (k_gX23_10 w) k_fX6_45 (Or.inl rfl) ?_
  refine k_iconst C dX6_takeFrom_116 (v := 0) rfl ?_
  refine k_aload_n C dX6_takeFrom_117 0 rfl ?_
  refine k_get C dX6_takeFrom_118 (k_gX16_10 w) k_fX6_45 (Or.inl rfl) ?_
  refine k_iconst C dX6_takeFrom_121 (v := 0) rfl ?_
  refine k_aload_n C dX6_takeFrom_122 0 rfl ?_
  refine k_get C dX6_takeFrom_123 (k_gX16_6 w) k_fX6_32 (Or.inl rfl) ?_
  obtain ⟨q126, h⟩ := k_gd_e h
  refine k_copyi C dX6_takeFrom_126 k_lcX6_69 (k_aX27 w) (k_aX20 w) q126 (by omega) (Nat.le_of_ble_eq_true rfl) ?_
  refine k_st (fun s126 es126 => ?_)
  replace h := k_nm_e h s126 es126
  refine k_aload_n C dX6_takeFrom_129 1 rfl ?_
  refine k_get C dX6_takeFrom_130 (k_gX23_11 w) k_fX6_48 (Or.inl rfl) ?_
  refine k_iconst C dX6_takeFrom_133 (v := 0) rfl ?_
  refine k_aload_n C dX6_takeFrom_134 0 rfl ?_
  refine k_get C dX6_takeFrom_135 (k_gX16_11 w) k_fX6_48 (Or.inl rfl) ?_
  refine k_iconst C dX6_takeFrom_138 (v := 0) rfl ?_
  refine k_aload_n C dX6_takeFrom_139 0 rfl ?_
  refine k_get C dX6_takeFrom_140 (k_gX16_6 w) k_fX6_32 (Or.inl rfl) ?_
  obtain ⟨q143, h⟩ := k_gd_e h
  refine k_copyl C dX6_takeFrom_143 k_lcX6_69 (k_aX28 w) (k_aX21 w) q143 (by omega) (Nat.le_of_ble_eq_true rfl) ?_
  refine k_st (fun s143 es143 => ?_)
  replace h := k_nm_e h s143 es143
  refine k_aload_n C dX6_takeFrom_146 1 rfl ?_
  refine k_get C dX6_takeFrom_147 (k_gX23_12 w) k_fX6_52 (Or.inl rfl) ?_
  refine k_iconst C dX6_takeFrom_150 (v := 0) rfl ?_
  refine k_aload_n C dX6_takeFrom_151 0 rfl ?_
  refine k_get C dX6_takeFrom_152 (k_gX16_12 w) k_fX6_52 (Or.inl rfl) ?_
  refine k_iconst C dX6_takeFrom_155 (v := 0) rfl ?_
  refine k_aload_n C dX6_takeFrom_156 0 rfl ?_
  refine k_get C dX6_takeFrom_157 (k_gX16_6 w) k_fX6_32 (Or.inl rfl) ?_
  obtain ⟨q160, h⟩ := k_gd_e h
  refine k_copyl C dX6_takeFrom_160 k_lcX6_69 (k_aX29 w) (k_aX22 w) q160 (by omega) (Nat.le_of_ble_eq_true rfl) ?_
  refine k_st (fun s160 es160 => ?_)
  replace h := k_nm_e h s160 es160
  exact k_vret C dX6_takeFrom_163 hr (Option.some.inj h)
set_option maxHeartbeats 4000000 in
set_option maxRecDepth 100000 in
theorem e_X6_takeFrom_23 {l : Launch} {w : k_WC} {d : Nat} (hd : 3 ≤ d)   {σ σ' : k_St} (h : f_X6_takeFrom 23 16 σ = some σ') : k_EV l (k_PX w) yX6_takeFrom cX6_takeFrom 2 d [.ref (w.2.1 23), .ref (w.2.1 16)] σ σ' := by
  refine k_of (own := RX6) rfl (by decide) (Nat.le_of_ble_eq_true rfl) (fun X hX C hr => ?_)
  show k_K (k_PX w) X (k_MQ X (k_Qv (k_PX w) σ') (k_PX w).2.2.1) 0 [(0, .ref (w.2.1 23)), (1, .ref (w.2.1 16))] [] σ
  unfold f_X6_takeFrom at h
  refine k_aload_n C dX6_takeFrom_0 0 rfl ?_
  refine k_aload_n C dX6_takeFrom_1 1 rfl ?_
  refine k_get C dX6_takeFrom_2 (k_gX16_0 w) k_fX6_9 (Or.inl rfl) ?_
  refine k_puti C dX6_takeFrom_5 (k_pX23_0 w) k_fX6_9 (Or.inl rfl) k_xi ?_
  refine k_st (fun s5 es5 => ?_)
  replace h := k_nm_e h s5 es5
  refine k_aload_n C dX6_takeFrom_8 0 rfl ?_
  refine k_aload_n C dX6_takeFrom_9 1 rfl ?_
  refine k_get C dX6_takeFrom_10 (k_gX16_1 w) k_fX6_15 (Or.inl rfl) ?_
  refine k_putl C dX6_takeFrom_13 (k_pX23_1 w) k_fX6_15 rfl ?_
  refine k_st (fun s13 es13 => ?_)
  replace h := k_nm_e h s13 es13
  refine k_aload_n C dX6_takeFrom_16 0 rfl ?_
  refine k_aload_n C dX6_takeFrom_17 1 rfl ?_
  refine k_get C dX6_takeFrom_18 (k_gX16_2 w) k_fX6_19 (Or.inl rfl) ?_
  refine k_putl C dX6_takeFrom_21 (k_pX23_2 w) k_fX6_19 rfl ?_
  refine k_st (fun s21 es21 => ?_)
  replace h := k_nm_e h s21 es21
  refine k_aload_n C dX6_takeFrom_24 0 rfl ?_
  refine k_aload_n C dX6_takeFrom_25 1 rfl ?_
  refine k_get C dX6_takeFrom_26 (k_gX16_3 w) k_fX6_22 (Or.inl rfl) ?_
  obtain ⟨r29, h⟩ := k_gd_e h
  refine k_puti C dX6_takeFrom_29 (k_pX23_3 w) k_fX6_22 (Or.inl rfl) (k_xz r29) ?_
  refine k_st (fun s29 es29 => ?_)
  replace h := k_nm_e h s29 es29
  refine k_aload_n C dX6_takeFrom_32 0 rfl ?_
  refine k_aload_n C dX6_takeFrom_33 1 rfl ?_
  refine k_get C dX6_takeFrom_34 (k_gX16_4 w) k_fX6_26 (Or.inl rfl) ?_
  obtain ⟨r37, h⟩ := k_gd_e h
  refine k_puti C dX6_takeFrom_37 (k_pX23_4 w) k_fX6_26 (Or.inl rfl) (k_xz r37) ?_
  refine k_st (fun s37 es37 => ?_)
  replace h := k_nm_e h s37 es37
  refine k_aload_n C dX6_takeFrom_40 0 rfl ?_
  refine k_aload_n C dX6_takeFrom_41 1 rfl ?_
  refine k_get C dX6_takeFrom_42 (k_gX16_5 w) k_fX6_29 (Or.inl rfl) ?_
  refine k_puti C dX6_takeFrom_45 (k_pX23_5 w) k_fX6_29 (Or.inl rfl) k_xi ?_
  refine k_st (fun s45 es45 => ?_)
  replace h := k_nm_e h s45 es45
  refine k_aload_n C dX6_takeFrom_48 0 rfl ?_
  refine k_bipush C dX6_takeFrom_49 (v := 40) rfl ?_
  refine k_aload_n C dX6_takeFrom_51 1 rfl ?_
  refine k_get C dX6_takeFrom_52 (k_gX16_6 w) k_fX6_32 (Or.inl rfl) ?_
  refine k_mmin C dX6_takeFrom_55 k_lX6_63 k_ym_min (by omega) (Nat.le_of_ble_eq_true rfl) ?_
  refine k_puti C dX6_takeFrom_58 (k_pX23_6 w) k_fX6_32 (Or.inl rfl) k_xi ?_
  refine k_st (fun s58 es58 => ?_)
  replace h := k_nm_e h s58 es58
  refine k_aload_n C dX6_takeFrom_61 1 rfl ?_
  refine k_get C dX6_takeFrom_62 (k_gX16_7 w) k_fX6_35 (Or.inl rfl) ?_
  refine k_iconst C dX6_takeFrom_65 (v := 0) rfl ?_
  refine k_aload_n C dX6_takeFrom_66 0 rfl ?_
  refine k_get C dX6_takeFrom_67 (k_gX23_7 w) k_fX6_35 (Or.inl rfl) ?_
  refine k_iconst C dX6_takeFrom_70 (v := 0) rfl ?_
  refine k_aload_n C dX6_takeFrom_71 0 rfl ?_
  refine k_get C dX6_takeFrom_72 (k_gX23_6 w) k_fX6_32 (Or.inl rfl) ?_
  obtain ⟨q75, h⟩ := k_gd_e h
  refine k_copyi C dX6_takeFrom_75 k_lcX6_69 (k_aX17 w) (k_aX24 w) q75 (by omega) (Nat.le_of_ble_eq_true rfl) ?_
  refine k_st (fun s75 es75 => ?_)
  replace h := k_nm_e h s75 es75
  refine k_aload_n C dX6_takeFrom_78 1 rfl ?_
  refine k_get C dX6_takeFrom_79 (k_gX16_8 w) k_fX6_39 (Or.inl rfl) ?_
  refine k_iconst C dX6_takeFrom_82 (v := 0) rfl ?_
  refine k_aload_n C dX6_takeFrom_83 0 rfl ?_
  refine k_get C dX6_takeFrom_84 (k_gX23_8 w) k_fX6_39 (Or.inl rfl) ?_
  refine k_iconst C dX6_takeFrom_87 (v := 0) rfl ?_
  refine k_aload_n C dX6_takeFrom_88 0 rfl ?_
  refine k_get C dX6_takeFrom_89 (k_gX23_6 w) k_fX6_32 (Or.inl rfl) ?_
  obtain ⟨q92, h⟩ := k_gd_e h
  refine k_copyi C dX6_takeFrom_92 k_lcX6_69 (k_aX18 w) (k_aX25 w) q92 (by omega) (Nat.le_of_ble_eq_true rfl) ?_
  refine k_st (fun s92 es92 => ?_)
  replace h := k_nm_e h s92 es92
  refine k_aload_n C dX6_takeFrom_95 1 rfl ?_
  refine k_get C dX6_takeFrom_96 (k_gX16_9 w) k_fX6_42 (Or.inl rfl) ?_
  refine k_iconst C dX6_takeFrom_99 (v := 0) rfl ?_
  refine k_aload_n C dX6_takeFrom_100 0 rfl ?_
  refine k_get C dX6_takeFrom_101 (k_gX23_9 w) k_fX6_42 (Or.inl rfl) ?_
  refine k_iconst C dX6_takeFrom_104 (v := 0) rfl ?_
  refine k_aload_n C dX6_takeFrom_105 0 rfl ?_
  refine k_get C dX6_takeFrom_106 (k_gX23_6 w) k_fX6_32 (Or.inl rfl) ?_
  obtain ⟨q109, h⟩ := k_gd_e h
  refine k_copyi C dX6_takeFrom_109 k_lcX6_69 (k_aX19 w) (k_aX26 w) q109 (by omega) (Nat.le_of_ble_eq_true rfl) ?_
  refine k_st (fun s109 es109 => ?_)
  replace h := k_nm_e h s109 es109
  refine k_aload_n C dX6_takeFrom_112 1 rfl ?_
  refine k_get C dX6_takeFrom_113 (k_gX16_10 w) k_fX6_45 (Or.inl rfl) ?_
  refine k_iconst C dX6_takeFrom_116 (v := 0) rfl ?_
  refine k_aload_n C dX6_takeFrom_117 0 rfl ?_
  refine k_get C dX6_takeFrom_118 (k_gX23_10 w) k_fX6_45 (Or.inl rfl) ?_
  refine k_iconst C dX6_takeFrom_121 (v := 0) rfl ?_
  refine k_aload_n C dX6_takeFrom_122 0 rfl ?_
  refine k_get C dX6_takeFrom_123 (k_gX23_6 w) k_fX6_32 (Or.inl rfl) ?_
  obtain ⟨q126, h⟩ := k_gd_e h
  refine k_copyi C dX6_takeFrom_126 k_lcX6_69 (k_aX20 w) (k_aX27 w) q126 (by omega) (Nat.le_of_ble_eq_true rfl) ?_
  refine k_st (fun s126 es126 => ?_)
  replace h := k_nm_e h s126 es126
  refine k_aload_n C dX6_takeFrom_129 1 rfl ?_
  refine k_get C dX6_takeFrom_130 (k_gX16_11 w) k_fX6_48 (Or.inl rfl) ?_
  refine k_iconst C dX6_takeFrom_133 (v := 0) rfl ?_
  refine k_aload_n C dX6_takeFrom_134 0 rfl ?_
  refine k_get C dX6_takeFrom_135 (k_gX23_11 w) k_fX6_48 (Or.inl rfl) ?_
  refine k_iconst C dX6_takeFrom_138 (v := 0) rfl ?_
  refine k_aload_n C dX6_takeFrom_139 0 rfl ?_
  refine k_get C dX6_takeFrom_140 (k_gX23_6 w) k_fX6_32 (Or.inl rfl) ?_
  obtain ⟨q143, h⟩ := k_gd_e h
  refine k_copyl C dX6_takeFrom_143 k_lcX6_69 (k_aX21 w) (k_aX28 w) q143 (by omega) (Nat.le_of_ble_eq_true rfl) ?_
  refine k_st (fun s143 es143 => ?_)
  replace h := k_nm_e h s143 es143
  refine k_aload_n C dX6_takeFrom_146 1 rfl ?_
  refine k_get C dX6_takeFrom_147 (k_gX16_12 w) k_fX6_52 (Or.inl rfl) ?_
  refine k_iconst C dX6_takeFrom_150 (v := 0) rfl ?_
  refine k_aload_n C dX6_takeFrom_151 0 rfl ?_
  refine k_get C dX6_takeFrom_152 (k_gX23_12 w) k_fX6_52 (Or.inl rfl) ?_
  refine k_iconst C dX6_takeFrom_155 (v := 0) rfl ?_
  refine k_aload_n C dX6_takeFrom_156 0 rfl ?_
  refine k_get C dX6_takeFrom_157 (k_gX23_6 w) k_fX6_32 (Or.inl rfl) ?_
  obtain ⟨q160, h⟩ := k_gd_e h
  refine k_copyl C dX6_takeFrom_160 k_lcX6_69 (k_aX22 w) (k_aX29 w) q160 (by omega) (Nat.le_of_ble_eq_true rfl) ?_
  refine k_st (fun s160 es160 => ?_)
  replace h := k_nm_e h s160 es160
  exact k_vret C dX6_takeFrom_163 hr (Option.some.inj h)
def f_X7_start (x1 : Int32) (σ : k_St) : Option (k_St) :=
  k_nm (k_wr σ 41 0 x1) fun s2 =>
  k_nm (k_wr s2 41 1 (0 : Int32)) fun s7 =>
  k_nm (k_wr s7 41 2 (-1 : Int32)) fun s12 =>
  some s12
set_option maxHeartbeats 4000000 in
set_option maxRecDepth 100000 in
theorem e_X7_start {l : Launch} {w : k_WC} {d : Nat} (hd : 2 ≤ d) {x1 : Int32}  {σ σ' : k_St} (h : f_X7_start x1 σ = some σ') : k_EV l (k_PX w) yX7_start cX7_start 2 d [.ref (w.2.1 41), .int x1] σ σ' := by
  refine k_of (own := RX7) rfl (by decide) (Nat.le_of_ble_eq_true rfl) (fun X hX C hr => ?_)
  show k_K (k_PX w) X (k_MQ X (k_Qv (k_PX w) σ') (k_PX w).2.2.1) 0 [(0, .ref (w.2.1 41)), (1, .int x1)] [] σ
  unfold f_X7_start at h
  refine k_aload_n C dX7_start_0 0 rfl ?_
  refine k_iload_n C dX7_start_1 1 rfl ?_
  refine k_puti C dX7_start_2 (k_pX41_0 w) k_fX7_9 (Or.inl rfl) k_xi ?_
  refine k_st (fun s2 es2 => ?_)
  replace h := k_nm_e h s2 es2
  refine k_aload_n C dX7_start_5 0 rfl ?_
  refine k_iconst C dX7_start_6 (v := 0) rfl ?_
  refine k_puti C dX7_start_7 (k_pX41_1 w) k_fX7_15 (Or.inl rfl) k_xi ?_
  refine k_st (fun s7 es7 => ?_)
  replace h := k_nm_e h s7 es7
  refine k_aload_n C dX7_start_10 0 rfl ?_
  refine k_iconst C dX7_start_11 (v := -1) rfl ?_
  refine k_puti C dX7_start_12 (k_pX41_2 w) k_fX7_18 (Or.inl rfl) k_xi ?_
  refine k_st (fun s12 es12 => ?_)
  replace h := k_nm_e h s12 es12
  exact k_vret C dX7_start_15 hr (Option.some.inj h)
def f_X7_add (x1 : Int32) (σ : k_St) : Option (k_St) :=
  k_if ((k_rd σ 41 1) = (k_rd σ 41 0))
    (k_nm (k_wr σ 41 2 x1) fun s13 =>
    k_nm (k_wr s13 41 1 ((k_rd s13 41 1) + (1 : Int32))) fun s23 =>
    some s23)
    (k_nm (k_wr σ 41 1 ((k_rd σ 41 1) + (1 : Int32))) fun s23 =>
    some s23)
set_option maxHeartbeats 4000000 in
set_option maxRecDepth 100000 in
theorem e_X7_add {l : Launch} {w : k_WC} {d : Nat} (hd : 2 ≤ d) {x1 : Int32}  {σ σ' : k_St} (h : f_X7_add x1 σ = some σ') : k_EV l (k_PX w) yX7_add cX7_add 2 d [.ref (w.2.1 41), .int x1] σ σ' := by
  refine k_of (own := RX7) rfl (by decide) (Nat.le_of_ble_eq_true rfl) (fun X hX C hr => ?_)
  show k_K (k_PX w) X (k_MQ X (k_Qv (k_PX w) σ') (k_PX w).2.2.1) 0 [(0, .ref (w.2.1 41)), (1, .int x1)] [] σ
  unfold f_X7_add at h
  refine k_aload_n C dX7_add_0 0 rfl ?_
  refine k_get C dX7_add_1 (k_gX41_1 w) k_fX7_15 (Or.inl rfl) ?_
  refine k_aload_n C dX7_add_4 0 rfl ?_
  refine k_get C dX7_add_5 (k_gX41_0 w) k_fX7_9 (Or.inl rfl) ?_
  refine k_icmp_ne C dX7_add_8 (tgt := 16) (by decide) (fun c8 => ?_) (fun c8 => ?_)
  · replace h := k_if_f h c8
    refine k_aload_n C dX7_add_16 0 rfl ?_
    refine k_dup C dX7_add_17 rfl ?_
    refine k_get C dX7_add_18 (k_gX41_1 w) k_fX7_15 (Or.inl rfl) ?_
    refine k_iconst C dX7_add_21 (v := 1) rfl ?_
    refine k_iadd C dX7_add_22 ?_
    refine k_puti C dX7_add_23 (k_pX41_1 w) k_fX7_15 (Or.inl rfl) k_xi ?_
    refine k_st (fun s23 es23 => ?_)
    replace h := k_nm_e h s23 es23
    exact k_vret C dX7_add_26 hr (Option.some.inj h)
  · replace h := k_if_t h c8
    refine k_aload_n C dX7_add_11 0 rfl ?_
    refine k_iload_n C dX7_add_12 1 rfl ?_
    refine k_puti C dX7_add_13 (k_pX41_2 w) k_fX7_18 (Or.inl rfl) k_xi ?_
    refine k_st (fun s13 es13 => ?_)
    replace h := k_nm_e h s13 es13
    refine k_aload_n C dX7_add_16 0 rfl ?_
    refine k_dup C dX7_add_17 rfl ?_
    refine k_get C dX7_add_18 (k_gX41_1 w) k_fX7_15 (Or.inl rfl) ?_
    refine k_iconst C dX7_add_21 (v := 1) rfl ?_
    refine k_iadd C dX7_add_22 ?_
    refine k_puti C dX7_add_23 (k_pX41_1 w) k_fX7_15 (Or.inl rfl) k_xi ?_
    refine k_st (fun s23 es23 => ?_)
    replace h := k_nm_e h s23 es23
    exact k_vret C dX7_add_26 hr (Option.some.inj h)
def f_X7_told  (σ : k_St) : Option (Int32) :=
  k_if ((k_rd σ 41 0) = (-1 : Int32))
    (some (k_rd σ 41 1))
    (some (k_rd σ 41 2))
set_option maxHeartbeats 4000000 in
set_option maxRecDepth 100000 in
theorem e_X7_told {l : Launch} {w : k_WC} {d : Nat} (hd : 2 ≤ d)   {σ : k_St} {r : Int32} (h : f_X7_told σ = some r) : k_EI l (k_PX w) yX7_told cX7_told 1 (some .int) d [.ref (w.2.1 41)] σ r σ := by
  refine k_of (own := RX7) rfl (by decide) (Nat.le_of_ble_eq_true rfl) (fun X hX C hr => ?_)
  show k_K (k_PX w) X (k_MQ X (k_Qi (k_PX w) r σ) (k_PX w).2.2.1) 0 [(0, .ref (w.2.1 41))] [] σ
  unfold f_X7_told at h
  refine k_aload_n C dX7_told_0 0 rfl ?_
  refine k_get C dX7_told_1 (k_gX41_0 w) k_fX7_9 (Or.inl rfl) ?_
  refine k_iconst C dX7_told_4 (v := -1) rfl ?_
  refine k_icmp_ne C dX7_told_5 (tgt := 15) (by decide) (fun c5 => ?_) (fun c5 => ?_)
  · replace h := k_if_f h c5
    refine k_aload_n C dX7_told_15 0 rfl ?_
    refine k_get C dX7_told_16 (k_gX41_2 w) k_fX7_18 (Or.inl rfl) ?_
    exact k_iret C dX7_told_19 hr (k_p1 h)
  · replace h := k_if_t h c5
    refine k_aload_n C dX7_told_8 0 rfl ?_
    refine k_get C dX7_told_9 (k_gX41_1 w) k_fX7_15 (Or.inl rfl) ?_
    refine k_goto C dX7_told_12 (tgt := 19) (by decide) ?_
    exact k_iret C dX7_told_19 hr (k_p1 h)
def f_X8_signsIn (x0 : Int32) : Option (Int32) :=
  k_loop (fun (g5 : Int32 × Int32 → Option (Int32)) (z5 : Int32 × Int32) => match z5 with
    | (v1_5, v2_5) =>
      k_if (v2_5 < (0 : Int32))
        (some v1_5)
        (k_if (((o_ushr x0 v2_5) &&& (255 : Int32)) = (0 : Int32))
          (k_nm (v2_5 + (-8 : Int32)) fun y22 =>
          g5 (v1_5, y22))
          (k_nm (v1_5 + (1 : Int32)) fun y19 =>
          k_nm (v2_5 + (-8 : Int32)) fun y22 =>
          g5 (y19, y22)))) 100000 ((0 : Int32), (24 : Int32))
set_option maxHeartbeats 4000000 in
set_option maxRecDepth 100000 in
theorem e_X8_signsIn {l : Launch} {w : k_WC} {d : Nat} (hd : 2 ≤ d) {x0 : Int32}  {σ : k_St} {r : Int32} (h : f_X8_signsIn x0 = some r) : k_EI l (k_PX w) yX8_signsIn cX8_signsIn 3 (some .int) d [.int x0] σ r σ := by
  refine k_of (own := RX8) rfl (by decide) (Nat.le_of_ble_eq_true rfl) (fun X hX C hr => ?_)
  show k_K (k_PX w) X (k_MQ X (k_Qi (k_PX w) r σ) (k_PX w).2.2.1) 0 [(0, .int x0)] [] σ
  unfold f_X8_signsIn at h
  refine k_iconst C dX8_signsIn_0 (v := 0) rfl ?_
  refine k_istore_n C dX8_signsIn_1 (by decide) [1, 0] (L' := [(0, .int x0), (1, .int (0 : Int32))]) rfl ?_
  refine k_bipush C dX8_signsIn_2 (v := 24) rfl ?_
  refine k_istore_n C dX8_signsIn_4 (by decide) [1, 2, 0] (L' := [(0, .int x0), (1, .int (0 : Int32)), (2, .int (24 : Int32))]) rfl ?_
  obtain ⟨b5, eb5, h⟩ := k_lp_e h
  have K5 : ∀ (n : Nat) (v1_5 : Int32) (v2_5 : Int32), k_loop b5 n (v1_5, v2_5) = some r → k_K (k_PX w) X (k_MQ X (k_Qi (k_PX w) r σ) (k_PX w).2.2.1) 5 [(0, .int x0), (1, .int v1_5), (2, .int v2_5)] [] σ := by
    intro n
    induction n with
    | zero => intro v1_5 v2_5 h; cases h
    | succ n ih5 =>
      intro v1_5 v2_5 h
      obtain ⟨g5, eg5, h⟩ := k_lp_s h
      rw [← eg5] at ih5
      rw [eb5] at h
      refine k_iload_n C dX8_signsIn_5 2 rfl ?_
      refine k_if_lt C dX8_signsIn_6 (tgt := 28) (by decide) (fun c6 => ?_) (fun c6 => ?_)
      · replace h := k_if_t h c6
        refine k_iload_n C dX8_signsIn_28 1 rfl ?_
        exact k_iret C dX8_signsIn_29 hr (k_p1 h)
      · replace h := k_if_f h c6
        refine k_iload_n C dX8_signsIn_9 0 rfl ?_
        refine k_iload_n C dX8_signsIn_10 2 rfl ?_
        refine k_iushr C dX8_signsIn_11 ?_
        refine k_sipush C dX8_signsIn_12 (v := 255) rfl ?_
        refine k_iand C dX8_signsIn_15 ?_
        refine k_if_eq C dX8_signsIn_16 (tgt := 22) (by decide) (fun c16 => ?_) (fun c16 => ?_)
        · replace h := k_if_t h c16
          refine k_iinc C dX8_signsIn_22 2 rfl (v := -8) rfl (by decide) [1, 2, 0] (L' := fun z9 => [(0, .int x0), (1, .int v1_5), (2, .int z9)]) (fun z9 => rfl) (fun y22 ey22 => ?_)
          replace h := k_nm_e h y22 ey22
          refine k_goto C dX8_signsIn_25 (tgt := 5) (by decide) ?_
          exact ih5 _ _ h
        · replace h := k_if_f h c16
          refine k_iinc C dX8_signsIn_19 1 rfl (v := 1) rfl (by decide) [1, 0, 2] (L' := fun z9 => [(0, .int x0), (1, .int z9), (2, .int v2_5)]) (fun z9 => rfl) (fun y19 ey19 => ?_)
          replace h := k_nm_e h y19 ey19
          refine k_iinc C dX8_signsIn_22 2 rfl (v := -8) rfl (by decide) [1, 2, 0] (L' := fun z9 => [(0, .int x0), (1, .int y19), (2, .int z9)]) (fun z9 => rfl) (fun y22 ey22 => ?_)
          replace h := k_nm_e h y22 ey22
          refine k_goto C dX8_signsIn_25 (tgt := 5) (by decide) ?_
          exact ih5 _ _ h
  exact K5 _ _ _ h
def f_X8_add (x1 : Int32) (σ : k_St) : Option (k_St) :=
  k_loop (fun (g3 : Int32 × k_St → Option (k_St)) (z3 : Int32 × k_St) => match z3 with
    | (v2_3, s_3) =>
      k_if (v2_3 < (0 : Int32))
        (some s_3)
        (k_nm (((o_ushr x1 v2_3) &&& (255 : Int32))) fun y14 =>
        k_if (y14 = (0 : Int32))
          (k_nm (v2_3 + (-8 : Int32)) fun y51 =>
          g3 (y51, s_3))
          (k_if ((160 : Int32) ≤ (k_rd s_3 1 1))
            (k_nm (v2_3 + (-8 : Int32)) fun y51 =>
            g3 (y51, s_3))
            (k_gd (k_ix (k_rd s_3 1 1) 160 = true) <|
            k_nm (k_wr s_3 2 (k_rd s_3 1 1).toNatClampNeg y14) fun s40 =>
            k_nm (k_wr s40 1 1 ((k_rd s40 1 1) + (1 : Int32))) fun s48 =>
            k_nm (v2_3 + (-8 : Int32)) fun y51 =>
            g3 (y51, s48))))) 100000 ((24 : Int32), σ)
set_option maxHeartbeats 4000000 in
set_option maxRecDepth 100000 in
theorem e_X8_add {l : Launch} {w : k_WC} {d : Nat} (hd : 2 ≤ d) {x1 : Int32}  {σ σ' : k_St} (h : f_X8_add x1 σ = some σ') : k_EV l (k_PX w) yX8_add cX8_add 4 d [.ref (w.2.1 1), .int x1] σ σ' := by
  refine k_of (own := RX8) rfl (by decide) (Nat.le_of_ble_eq_true rfl) (fun X hX C hr => ?_)
  show k_K (k_PX w) X (k_MQ X (k_Qv (k_PX w) σ') (k_PX w).2.2.1) 0 [(0, .ref (w.2.1 1)), (1, .int x1)] [] σ
  unfold f_X8_add at h
  refine k_bipush C dX8_add_0 (v := 24) rfl ?_
  refine k_istore_n C dX8_add_2 (by decide) [1, 2, 0] (L' := [(0, .ref (w.2.1 1)), (1, .int x1), (2, .int (24 : Int32))]) rfl ?_
  obtain ⟨b3, eb3, h⟩ := k_lp_e h
  have K3 : ∀ (n : Nat) (v2_3 : Int32) (s_3 : k_St), k_loop b3 n (v2_3, s_3) = some σ' → k_K (k_PX w) X (k_MQ X (k_Qv (k_PX w) σ') (k_PX w).2.2.1) 3 [(0, .ref (w.2.1 1)), (1, .int x1), (2, .int v2_3)] [] s_3 := by
    intro n
    induction n with
    | zero => intro v2_3 s_3 h; cases h
    | succ n ih3 =>
      intro v2_3 s_3 h
      obtain ⟨g3, eg3, h⟩ := k_lp_s h
      rw [← eg3] at ih3
      rw [eb3] at h
      refine k_iload_n C dX8_add_3 2 rfl ?_
      refine k_if_lt C dX8_add_4 (tgt := 57) (by decide) (fun c4 => ?_) (fun c4 => ?_)
      · replace h := k_if_t h c4
        exact k_vret C dX8_add_57 hr (Option.some.inj h)
      · replace h := k_if_f h c4
        refine k_iload_n C dX8_add_7 1 rfl ?_
        refine k_iload_n C dX8_add_8 2 rfl ?_
        refine k_iushr C dX8_add_9 ?_
        refine k_sipush C dX8_add_10 (v := 255) rfl ?_
        refine k_iand C dX8_add_13 ?_
        refine k_topi (fun y14 ey14 => ?_)
        replace h := k_nm_e h y14 ey14
        refine k_istore_n C dX8_add_14 (by decide) [1, 2, 3, 0] (L' := [(0, .ref (w.2.1 1)), (1, .int x1), (2, .int v2_3), (3, .int y14)]) rfl ?_
        refine k_iload_n C dX8_add_15 3 rfl ?_
        refine k_if_eq C dX8_add_16 (tgt := 51) (by decide) (fun c16 => ?_) (fun c16 => ?_)
        · replace h := k_if_t h c16
          refine k_iinc C dX8_add_51 2 rfl (v := -8) rfl (by decide) [1, 2, 0, 3] (L' := fun z9 => [(0, .ref (w.2.1 1)), (1, .int x1), (2, .int z9), (3, .int y14)]) (fun z9 => rfl) (fun y51 ey51 => ?_)
          replace h := k_nm_e h y51 ey51
          refine k_goto C dX8_add_54 (tgt := 3) (by decide) ?_
          refine k_sub (L' := [(0, .ref (w.2.1 1)), (1, .int x1), (2, .int y51)]) [0, 1, 2] rfl ?_
          exact ih3 _ _ h
        · replace h := k_if_f h c16
          refine k_aload_n C dX8_add_19 0 rfl ?_
          refine k_get C dX8_add_20 (k_gX1_1 w) k_fX8_15 (Or.inl rfl) ?_
          refine k_aload_n C dX8_add_23 0 rfl ?_
          refine k_get C dX8_add_24 (k_gX1_0 w) k_fX8_9 (Or.inl rfl) ?_
          refine k_alen C dX8_add_27 (k_aX2 w) (v := 160) rfl ?_
          refine k_icmp_ge C dX8_add_28 (tgt := 51) (by decide) (fun c28 => ?_) (fun c28 => ?_)
          · replace h := k_if_t h c28
            refine k_iinc C dX8_add_51 2 rfl (v := -8) rfl (by decide) [1, 2, 0, 3] (L' := fun z9 => [(0, .ref (w.2.1 1)), (1, .int x1), (2, .int z9), (3, .int y14)]) (fun z9 => rfl) (fun y51 ey51 => ?_)
            replace h := k_nm_e h y51 ey51
            refine k_goto C dX8_add_54 (tgt := 3) (by decide) ?_
            refine k_sub (L' := [(0, .ref (w.2.1 1)), (1, .int x1), (2, .int y51)]) [0, 1, 2] rfl ?_
            exact ih3 _ _ h
          · replace h := k_if_f h c28
            refine k_aload_n C dX8_add_31 0 rfl ?_
            refine k_get C dX8_add_32 (k_gX1_0 w) k_fX8_9 (Or.inl rfl) ?_
            refine k_aload_n C dX8_add_35 0 rfl ?_
            refine k_get C dX8_add_36 (k_gX1_1 w) k_fX8_15 (Or.inl rfl) ?_
            refine k_iload_n C dX8_add_39 3 rfl ?_
            obtain ⟨q40, h⟩ := k_gd_e h
            refine k_iast C dX8_add_40 (k_aX2 w) q40 ?_
            refine k_st (fun s40 es40 => ?_)
            replace h := k_nm_e h s40 es40
            refine k_aload_n C dX8_add_41 0 rfl ?_
            refine k_dup C dX8_add_42 rfl ?_
            refine k_get C dX8_add_43 (k_gX1_1 w) k_fX8_15 (Or.inl rfl) ?_
            refine k_iconst C dX8_add_46 (v := 1) rfl ?_
            refine k_iadd C dX8_add_47 ?_
            refine k_puti C dX8_add_48 (k_pX1_1 w) k_fX8_15 (Or.inl rfl) k_xi ?_
            refine k_st (fun s48 es48 => ?_)
            replace h := k_nm_e h s48 es48
            refine k_iinc C dX8_add_51 2 rfl (v := -8) rfl (by decide) [1, 2, 0, 3] (L' := fun z9 => [(0, .ref (w.2.1 1)), (1, .int x1), (2, .int z9), (3, .int y14)]) (fun z9 => rfl) (fun y51 ey51 => ?_)
            replace h := k_nm_e h y51 ey51
            refine k_goto C dX8_add_54 (tgt := 3) (by decide) ?_
            refine k_sub (L' := [(0, .ref (w.2.1 1)), (1, .int x1), (2, .int y51)]) [0, 1, 2] rfl ?_
            exact ih3 _ _ h
  exact K3 _ _ _ h
def f_X9_isApart (x1 : Int32) (x2 : Int32) (σ : k_St) : Option (Int32) :=
  k_loop (fun (g2 : Int32 → Option (Int32)) (z2 : Int32) => match z2 with
    | v3_2 =>
      k_if ((k_rd σ 39 1) ≤ v3_2)
        (some (1 : Int32))
        (k_gd (k_ix v3_2 16 = true) <|
        k_bd (f_J6_bitCount_0f7a4 ((k_rd σ 40 v3_2.toNatClampNeg) ^^^ x1)) fun v18 =>
        k_if (x2 < v18)
          (k_nm (v3_2 + (1 : Int32)) fun y27 =>
          g2 y27)
          (some (0 : Int32)))) 100000 (0 : Int32)
set_option maxHeartbeats 4000000 in
set_option maxRecDepth 100000 in
theorem e_X9_isApart {l : Launch} {w : k_WC} {d : Nat} (hd : 3 ≤ d) {x1 : Int32} {x2 : Int32}  {σ : k_St} {r : Int32} (h : f_X9_isApart x1 x2 σ = some r) : k_EI l (k_PX w) yX9_isApart cX9_isApart 4 (some .boolean) d [.ref (w.2.1 39), .int x1, .int x2] σ r σ := by
  refine k_of (own := RX9) rfl (by decide) (Nat.le_of_ble_eq_true rfl) (fun X hX C hr => ?_)
  show k_K (k_PX w) X (k_MQ X (k_Qi (k_PX w) r σ) (k_PX w).2.2.1) 0 [(0, .ref (w.2.1 39)), (1, .int x1), (2, .int x2)] [] σ
  unfold f_X9_isApart at h
  refine k_iconst C dX9_isApart_0 (v := 0) rfl ?_
  refine k_istore_n C dX9_isApart_1 (by decide) [1, 2, 3, 0] (L' := [(0, .ref (w.2.1 39)), (1, .int x1), (2, .int x2), (3, .int (0 : Int32))]) rfl ?_
  obtain ⟨b2, eb2, h⟩ := k_lp_e h
  have K2 : ∀ (n : Nat) (v3_2 : Int32), k_loop b2 n v3_2 = some r → k_K (k_PX w) X (k_MQ X (k_Qi (k_PX w) r σ) (k_PX w).2.2.1) 2 [(0, .ref (w.2.1 39)), (1, .int x1), (2, .int x2), (3, .int v3_2)] [] σ := by
    intro n
    induction n with
    | zero => intro v3_2 h; cases h
    | succ n ih2 =>
      intro v3_2 h
      obtain ⟨g2, eg2, h⟩ := k_lp_s h
      rw [← eg2] at ih2
      rw [eb2] at h
      refine k_iload_n C dX9_isApart_2 3 rfl ?_
      refine k_aload_n C dX9_isApart_3 0 rfl ?_
      refine k_get C dX9_isApart_4 (k_gX39_1 w) k_fX9_15 (Or.inl rfl) ?_
      refine k_icmp_ge C dX9_isApart_7 (tgt := 33) (by decide) (fun c7 => ?_) (fun c7 => ?_)
      · replace h := k_if_t h c7
        refine k_iconst C dX9_isApart_33 (v := 1) rfl ?_
        exact k_zret C dX9_isApart_34 hr rfl (k_p1 h)
      · replace h := k_if_f h c7
        refine k_aload_n C dX9_isApart_10 0 rfl ?_
        refine k_get C dX9_isApart_11 (k_gX39_2 w) k_fX9_18 (Or.inl rfl) ?_
        refine k_iload_n C dX9_isApart_14 3 rfl ?_
        obtain ⟨q15, h⟩ := k_gd_e h
        refine k_iald C dX9_isApart_15 (k_aX40 w) q15 ?_
        refine k_iload_n C dX9_isApart_16 1 rfl ?_
        refine k_ixor C dX9_isApart_17 ?_
        obtain ⟨v18, h18, h⟩ := k_bd_e h
        refine k_goI (k_runS C dX9_isApart_18 (e_J6_bitCount_0f7a4 (d := 2) (Nat.le_refl _) h18) k_lX9_34 k_yJ6_bitCount_0f7a4 (by omega) rfl (Nat.le_of_ble_eq_true rfl)) ?_
        refine k_iload_n C dX9_isApart_21 2 rfl ?_
        refine k_icmp_gt C dX9_isApart_22 (tgt := 27) (by decide) (fun c22 => ?_) (fun c22 => ?_)
        · replace h := k_if_t h c22
          refine k_iinc C dX9_isApart_27 3 rfl (v := 1) rfl (by decide) [1, 2, 3, 0] (L' := fun z9 => [(0, .ref (w.2.1 39)), (1, .int x1), (2, .int x2), (3, .int z9)]) (fun z9 => rfl) (fun y27 ey27 => ?_)
          replace h := k_nm_e h y27 ey27
          refine k_goto C dX9_isApart_30 (tgt := 2) (by decide) ?_
          exact ih2 _ h
        · replace h := k_if_f h c22
          refine k_iconst C dX9_isApart_25 (v := 0) rfl ?_
          exact k_zret C dX9_isApart_26 hr rfl (k_p1 h)
  exact K2 _ _ h
def f_X9_takeWords (x1 : Int32) (x2 : Int32) (σ : k_St) : Option (k_St) :=
  k_nm (k_wr σ 39 1 (0 : Int32)) fun s2 =>
  k_loop (fun (g7 : Int32 × k_St → Option (k_St)) (z7 : Int32 × k_St) => match z7 with
    | (v3_7, s_7) =>
      k_if ((o_shl (1 : Int32) (k_rd s_7 39 0)) ≤ v3_7)
        (some s_7)
        (k_if (x1 ≤ (k_rd s_7 39 1))
          (some s_7)
          (k_if ((16 : Int32) ≤ (k_rd s_7 39 1))
            (some s_7)
            (k_bd (f_X9_isApart v3_7 x2 s_7) fun v40 =>
            k_if (v40 = (0 : Int32))
              (k_nm (v3_7 + (1 : Int32)) fun y66 =>
              g7 (y66, s_7))
              (k_gd (k_ix (k_rd s_7 39 1) 16 = true) <|
              k_nm (k_wr s_7 40 (k_rd s_7 39 1).toNatClampNeg v3_7) fun s55 =>
              k_nm (k_wr s55 39 1 ((k_rd s55 39 1) + (1 : Int32))) fun s63 =>
              k_nm (v3_7 + (1 : Int32)) fun y66 =>
              g7 (y66, s63)))))) 100000 ((0 : Int32), s2)
set_option maxHeartbeats 4000000 in
set_option maxRecDepth 100000 in
theorem e_X9_takeWords {l : Launch} {w : k_WC} {d : Nat} (hd : 4 ≤ d) {x1 : Int32} {x2 : Int32}  {σ σ' : k_St} (h : f_X9_takeWords x1 x2 σ = some σ') : k_EV l (k_PX w) yX9_takeWords cX9_takeWords 4 d [.ref (w.2.1 39), .int x1, .int x2] σ σ' := by
  refine k_of (own := RX9) rfl (by decide) (Nat.le_of_ble_eq_true rfl) (fun X hX C hr => ?_)
  show k_K (k_PX w) X (k_MQ X (k_Qv (k_PX w) σ') (k_PX w).2.2.1) 0 [(0, .ref (w.2.1 39)), (1, .int x1), (2, .int x2)] [] σ
  unfold f_X9_takeWords at h
  refine k_aload_n C dX9_takeWords_0 0 rfl ?_
  refine k_iconst C dX9_takeWords_1 (v := 0) rfl ?_
  refine k_puti C dX9_takeWords_2 (k_pX39_1 w) k_fX9_15 (Or.inl rfl) k_xi ?_
  refine k_st (fun s2 es2 => ?_)
  replace h := k_nm_e h s2 es2
  refine k_iconst C dX9_takeWords_5 (v := 0) rfl ?_
  refine k_istore_n C dX9_takeWords_6 (by decide) [1, 2, 3, 0] (L' := [(0, .ref (w.2.1 39)), (1, .int x1), (2, .int x2), (3, .int (0 : Int32))]) rfl ?_
  obtain ⟨b7, eb7, h⟩ := k_lp_e h
  have K7 : ∀ (n : Nat) (v3_7 : Int32) (s_7 : k_St), k_loop b7 n (v3_7, s_7) = some σ' → k_K (k_PX w) X (k_MQ X (k_Qv (k_PX w) σ') (k_PX w).2.2.1) 7 [(0, .ref (w.2.1 39)), (1, .int x1), (2, .int x2), (3, .int v3_7)] [] s_7 := by
    intro n
    induction n with
    | zero => intro v3_7 s_7 h; cases h
    | succ n ih7 =>
      intro v3_7 s_7 h
      obtain ⟨g7, eg7, h⟩ := k_lp_s h
      rw [← eg7] at ih7
      rw [eb7] at h
      refine k_iload_n C dX9_takeWords_7 3 rfl ?_
      refine k_iconst C dX9_takeWords_8 (v := 1) rfl ?_
      refine k_aload_n C dX9_takeWords_9 0 rfl ?_
      refine k_get C dX9_takeWords_10 (k_gX39_0 w) k_fX9_9 (Or.inl rfl) ?_
      refine k_ishl C dX9_takeWords_13 ?_
      refine k_icmp_ge C dX9_takeWords_14 (tgt := 72) (by decide) (fun c14 => ?_) (fun c14 => ?_)
      · replace h := k_if_t h c14
        exact k_vret C dX9_takeWords_72 hr (Option.some.inj h)
      · replace h := k_if_f h c14
        refine k_aload_n C dX9_takeWords_17 0 rfl ?_
        refine k_get C dX9_takeWords_18 (k_gX39_1 w) k_fX9_15 (Or.inl rfl) ?_
        refine k_iload_n C dX9_takeWords_21 1 rfl ?_
        refine k_icmp_ge C dX9_takeWords_22 (tgt := 72) (by decide) (fun c22 => ?_) (fun c22 => ?_)
        · replace h := k_if_t h c22
          exact k_vret C dX9_takeWords_72 hr (Option.some.inj h)
        · replace h := k_if_f h c22
          refine k_aload_n C dX9_takeWords_25 0 rfl ?_
          refine k_get C dX9_takeWords_26 (k_gX39_1 w) k_fX9_15 (Or.inl rfl) ?_
          refine k_aload_n C dX9_takeWords_29 0 rfl ?_
          refine k_get C dX9_takeWords_30 (k_gX39_2 w) k_fX9_18 (Or.inl rfl) ?_
          refine k_alen C dX9_takeWords_33 (k_aX40 w) (v := 16) rfl ?_
          refine k_icmp_ge C dX9_takeWords_34 (tgt := 72) (by decide) (fun c34 => ?_) (fun c34 => ?_)
          · replace h := k_if_t h c34
            exact k_vret C dX9_takeWords_72 hr (Option.some.inj h)
          · replace h := k_if_f h c34
            refine k_aload_n C dX9_takeWords_37 0 rfl ?_
            refine k_iload_n C dX9_takeWords_38 3 rfl ?_
            refine k_iload_n C dX9_takeWords_39 2 rfl ?_
            obtain ⟨v40, h40, h⟩ := k_bd_e h
            refine k_goI (k_runV C dX9_takeWords_40 (e_X9_isApart (d := 3) (Nat.le_refl _) h40) k_lX9_30 k_yX9_isApart (k_oX39 w) (by omega) rfl (Nat.le_of_ble_eq_true rfl)) ?_
            refine k_if_eq C dX9_takeWords_43 (tgt := 66) (by decide) (fun c43 => ?_) (fun c43 => ?_)
            · replace h := k_if_t h c43
              refine k_iinc C dX9_takeWords_66 3 rfl (v := 1) rfl (by decide) [1, 2, 3, 0] (L' := fun z9 => [(0, .ref (w.2.1 39)), (1, .int x1), (2, .int x2), (3, .int z9)]) (fun z9 => rfl) (fun y66 ey66 => ?_)
              replace h := k_nm_e h y66 ey66
              refine k_goto C dX9_takeWords_69 (tgt := 7) (by decide) ?_
              exact ih7 _ _ h
            · replace h := k_if_f h c43
              refine k_aload_n C dX9_takeWords_46 0 rfl ?_
              refine k_get C dX9_takeWords_47 (k_gX39_2 w) k_fX9_18 (Or.inl rfl) ?_
              refine k_aload_n C dX9_takeWords_50 0 rfl ?_
              refine k_get C dX9_takeWords_51 (k_gX39_1 w) k_fX9_15 (Or.inl rfl) ?_
              refine k_iload_n C dX9_takeWords_54 3 rfl ?_
              obtain ⟨q55, h⟩ := k_gd_e h
              refine k_iast C dX9_takeWords_55 (k_aX40 w) q55 ?_
              refine k_st (fun s55 es55 => ?_)
              replace h := k_nm_e h s55 es55
              refine k_aload_n C dX9_takeWords_56 0 rfl ?_
              refine k_dup C dX9_takeWords_57 rfl ?_
              refine k_get C dX9_takeWords_58 (k_gX39_1 w) k_fX9_15 (Or.inl rfl) ?_
              refine k_iconst C dX9_takeWords_61 (v := 1) rfl ?_
              refine k_iadd C dX9_takeWords_62 ?_
              refine k_puti C dX9_takeWords_63 (k_pX39_1 w) k_fX9_15 (Or.inl rfl) k_xi ?_
              refine k_st (fun s63 es63 => ?_)
              replace h := k_nm_e h s63 es63
              refine k_iinc C dX9_takeWords_66 3 rfl (v := 1) rfl (by decide) [1, 2, 3, 0] (L' := fun z9 => [(0, .ref (w.2.1 39)), (1, .int x1), (2, .int x2), (3, .int z9)]) (fun z9 => rfl) (fun y66 ey66 => ?_)
              replace h := k_nm_e h y66 ey66
              refine k_goto C dX9_takeWords_69 (tgt := 7) (by decide) ?_
              exact ih7 _ _ h
  exact K7 _ _ _ h
def f_X9_make (x1 : Int32) (x2 : Int32) (σ : k_St) : Option (Int32 × k_St) :=
  k_bd (f_X11_within x1 (1 : Int32) (16 : Int32)) fun v4 =>
  k_if (v4 = (0 : Int32))
    (some ((0 : Int32), σ))
    (k_bd (f_X11_within x2 (0 : Int32) (3 : Int32)) fun v13 =>
    k_if (v13 = (0 : Int32))
      (some ((0 : Int32), σ))
      (k_nm (k_wr σ 39 0 (1 : Int32)) fun s23 =>
      k_loop (fun (g26 : k_St → Option (Int32 × k_St)) (z26 : k_St) => match z26 with
        | s_26 =>
          k_if ((8 : Int32) < (k_rd s_26 39 0))
            (some ((0 : Int32), s_26))
            (k_bd (f_X9_takeWords x1 x2 s_26) fun s38 =>
            k_if ((k_rd s38 39 1) < x1)
              (k_nm (k_wr s38 39 0 ((k_rd s38 39 0) + (1 : Int32))) fun s58 =>
              g26 s58)
              (some ((1 : Int32), s38)))) 100000 s23))
set_option maxHeartbeats 4000000 in
set_option maxRecDepth 100000 in
theorem e_X9_make {l : Launch} {w : k_WC} {d : Nat} (hd : 5 ≤ d) {x1 : Int32} {x2 : Int32}  {σ σ' : k_St} {r : Int32} (h : f_X9_make x1 x2 σ = some (r, σ')) : k_EI l (k_PX w) yX9_make cX9_make 3 (some .boolean) d [.ref (w.2.1 39), .int x1, .int x2] σ r σ' := by
  refine k_of (own := RX9) rfl (by decide) (Nat.le_of_ble_eq_true rfl) (fun X hX C hr => ?_)
  show k_K (k_PX w) X (k_MQ X (k_Qi (k_PX w) r σ') (k_PX w).2.2.1) 0 [(0, .ref (w.2.1 39)), (1, .int x1), (2, .int x2)] [] σ
  unfold f_X9_make at h
  refine k_iload_n C dX9_make_0 1 rfl ?_
  refine k_iconst C dX9_make_1 (v := 1) rfl ?_
  refine k_bipush C dX9_make_2 (v := 16) rfl ?_
  obtain ⟨v4, h4, h⟩ := k_bd_e h
  refine k_goI (k_runSN C dX9_make_4 (e_X11_within (d := 2) (Nat.le_refl _) h4) k_lX9_22 k_yX11_within (by omega) rfl (Nat.le_of_ble_eq_true rfl)) ?_
  refine k_if_eq C dX9_make_7 (tgt := 19) (by decide) (fun c7 => ?_) (fun c7 => ?_)
  · replace h := k_if_t h c7
    refine k_iconst C dX9_make_19 (v := 0) rfl ?_
    exact k_zret C dX9_make_20 hr rfl (Option.some.inj h)
  · replace h := k_if_f h c7
    refine k_iload_n C dX9_make_10 2 rfl ?_
    refine k_iconst C dX9_make_11 (v := 0) rfl ?_
    refine k_iconst C dX9_make_12 (v := 3) rfl ?_
    obtain ⟨v13, h13, h⟩ := k_bd_e h
    refine k_goI (k_runSN C dX9_make_13 (e_X11_within (d := 2) (Nat.le_refl _) h13) k_lX9_22 k_yX11_within (by omega) rfl (Nat.le_of_ble_eq_true rfl)) ?_
    refine k_if_ne C dX9_make_16 (tgt := 21) (by decide) (fun c16 => ?_) (fun c16 => ?_)
    · replace h := k_if_f h c16
      refine k_aload_n C dX9_make_21 0 rfl ?_
      refine k_iconst C dX9_make_22 (v := 1) rfl ?_
      refine k_puti C dX9_make_23 (k_pX39_0 w) k_fX9_9 (Or.inl rfl) k_xi ?_
      refine k_st (fun s23 es23 => ?_)
      replace h := k_nm_e h s23 es23
      obtain ⟨b26, eb26, h⟩ := k_lp_e h
      have K26 : ∀ (n : Nat) (s_26 : k_St), k_loop b26 n s_26 = some (r, σ') → k_K (k_PX w) X (k_MQ X (k_Qi (k_PX w) r σ') (k_PX w).2.2.1) 26 [(0, .ref (w.2.1 39)), (1, .int x1), (2, .int x2)] [] s_26 := by
        intro n
        induction n with
        | zero => intro s_26 h; cases h
        | succ n ih26 =>
          intro s_26 h
          obtain ⟨g26, eg26, h⟩ := k_lp_s h
          rw [← eg26] at ih26
          rw [eb26] at h
          refine k_aload_n C dX9_make_26 0 rfl ?_
          refine k_get C dX9_make_27 (k_gX39_0 w) k_fX9_9 (Or.inl rfl) ?_
          refine k_bipush C dX9_make_30 (v := 8) rfl ?_
          refine k_icmp_gt C dX9_make_32 (tgt := 64) (by decide) (fun c32 => ?_) (fun c32 => ?_)
          · replace h := k_if_t h c32
            refine k_iconst C dX9_make_64 (v := 0) rfl ?_
            exact k_zret C dX9_make_65 hr rfl (Option.some.inj h)
          · replace h := k_if_f h c32
            refine k_aload_n C dX9_make_35 0 rfl ?_
            refine k_iload_n C dX9_make_36 1 rfl ?_
            refine k_iload_n C dX9_make_37 2 rfl ?_
            obtain ⟨s38, h38, h⟩ := k_bd_e h
            refine k_goV (k_runV C dX9_make_38 (e_X9_takeWords (d := 4) (Nat.le_refl _) h38) k_lX9_26 k_yX9_takeWords (k_oX39 w) (by omega) rfl (Nat.le_of_ble_eq_true rfl)) ?_
            refine k_aload_n C dX9_make_41 0 rfl ?_
            refine k_get C dX9_make_42 (k_gX39_1 w) k_fX9_15 (Or.inl rfl) ?_
            refine k_iload_n C dX9_make_45 1 rfl ?_
            refine k_icmp_lt C dX9_make_46 (tgt := 51) (by decide) (fun c46 => ?_) (fun c46 => ?_)
            · replace h := k_if_t h c46
              refine k_aload_n C dX9_make_51 0 rfl ?_
              refine k_dup C dX9_make_52 rfl ?_
              refine k_get C dX9_make_53 (k_gX39_0 w) k_fX9_9 (Or.inl rfl) ?_
              refine k_iconst C dX9_make_56 (v := 1) rfl ?_
              refine k_iadd C dX9_make_57 ?_
              refine k_puti C dX9_make_58 (k_pX39_0 w) k_fX9_9 (Or.inl rfl) k_xi ?_
              refine k_st (fun s58 es58 => ?_)
              replace h := k_nm_e h s58 es58
              refine k_goto C dX9_make_61 (tgt := 26) (by decide) ?_
              exact ih26 _ h
            · replace h := k_if_f h c46
              refine k_iconst C dX9_make_49 (v := 1) rfl ?_
              exact k_zret C dX9_make_50 hr rfl (Option.some.inj h)
      exact K26 _ _ h
    · replace h := k_if_t h c16
      refine k_iconst C dX9_make_19 (v := 0) rfl ?_
      exact k_zret C dX9_make_20 hr rfl (Option.some.inj h)
def f_X9_wordAt (x1 : Int32) (σ : k_St) : Option (Int32) :=
  k_bd (f_X11_within x1 (0 : Int32) ((k_rd σ 39 1) - (1 : Int32))) fun v8 =>
  k_if (v8 = (0 : Int32))
    (some (-1 : Int32))
    (k_gd (k_ix x1 16 = true) <|
    some (k_rd σ 40 x1.toNatClampNeg))
set_option maxHeartbeats 4000000 in
set_option maxRecDepth 100000 in
theorem e_X9_wordAt {l : Launch} {w : k_WC} {d : Nat} (hd : 3 ≤ d) {x1 : Int32}  {σ : k_St} {r : Int32} (h : f_X9_wordAt x1 σ = some r) : k_EI l (k_PX w) yX9_wordAt cX9_wordAt 2 (some .int) d [.ref (w.2.1 39), .int x1] σ r σ := by
  refine k_of (own := RX9) rfl (by decide) (Nat.le_of_ble_eq_true rfl) (fun X hX C hr => ?_)
  show k_K (k_PX w) X (k_MQ X (k_Qi (k_PX w) r σ) (k_PX w).2.2.1) 0 [(0, .ref (w.2.1 39)), (1, .int x1)] [] σ
  unfold f_X9_wordAt at h
  refine k_iload_n C dX9_wordAt_0 1 rfl ?_
  refine k_iconst C dX9_wordAt_1 (v := 0) rfl ?_
  refine k_aload_n C dX9_wordAt_2 0 rfl ?_
  refine k_get C dX9_wordAt_3 (k_gX39_1 w) k_fX9_15 (Or.inl rfl) ?_
  refine k_iconst C dX9_wordAt_6 (v := 1) rfl ?_
  refine k_isub C dX9_wordAt_7 ?_
  obtain ⟨v8, h8, h⟩ := k_bd_e h
  refine k_goI (k_runSN C dX9_wordAt_8 (e_X11_within (d := 2) (Nat.le_refl _) h8) k_lX9_22 k_yX11_within (by omega) rfl (Nat.le_of_ble_eq_true rfl)) ?_
  refine k_if_eq C dX9_wordAt_11 (tgt := 23) (by decide) (fun c11 => ?_) (fun c11 => ?_)
  · replace h := k_if_t h c11
    refine k_iconst C dX9_wordAt_23 (v := -1) rfl ?_
    exact k_iret C dX9_wordAt_24 hr (k_p1 h)
  · replace h := k_if_f h c11
    refine k_aload_n C dX9_wordAt_14 0 rfl ?_
    refine k_get C dX9_wordAt_15 (k_gX39_2 w) k_fX9_18 (Or.inl rfl) ?_
    refine k_iload_n C dX9_wordAt_18 1 rfl ?_
    obtain ⟨q19, h⟩ := k_gd_e h
    refine k_iald C dX9_wordAt_19 (k_aX40 w) q19 ?_
    refine k_goto C dX9_wordAt_20 (tgt := 24) (by decide) ?_
    exact k_iret C dX9_wordAt_24 hr (k_p1 h)
def f_X9_meaningOf (x1 : Int32) (σ : k_St) : Option (Int32) :=
  k_bd (f_X11_within x1 (0 : Int32) ((o_shl (1 : Int32) (k_rd σ 39 0)) - (1 : Int32))) fun v10 =>
  k_if (v10 = (0 : Int32))
    (some (-1 : Int32))
    (k_loop (fun (g26 : Int32 × Int32 × Int32 → Option (Int32)) (z26 : Int32 × Int32 × Int32) => match z26 with
      | (v2_26, v3_26, v4_26) =>
        k_if ((k_rd σ 39 1) ≤ v4_26)
          (some v3_26)
          (k_gd (k_ix v4_26 16 = true) <|
          k_bd (f_J6_bitCount_0f7a4 ((k_rd σ 40 v4_26.toNatClampNeg) ^^^ x1)) fun v44 =>
          k_if (v2_26 ≤ v44)
            (k_if (v44 = v2_26)
              (k_nm (v4_26 + (1 : Int32)) fun y72 =>
              g26 (v2_26, (-1 : Int32), y72))
              (k_nm (v4_26 + (1 : Int32)) fun y72 =>
              g26 (v2_26, v3_26, y72)))
            (k_nm (v4_26 + (1 : Int32)) fun y72 =>
            g26 (v44, v4_26, y72)))) 100000 ((9 : Int32), (-1 : Int32), (0 : Int32)))
set_option maxHeartbeats 4000000 in
set_option maxRecDepth 100000 in
theorem e_X9_meaningOf {l : Launch} {w : k_WC} {d : Nat} (hd : 3 ≤ d) {x1 : Int32}  {σ : k_St} {r : Int32} (h : f_X9_meaningOf x1 σ = some r) : k_EI l (k_PX w) yX9_meaningOf cX9_meaningOf 6 (some .int) d [.ref (w.2.1 39), .int x1] σ r σ := by
  refine k_of (own := RX9) rfl (by decide) (Nat.le_of_ble_eq_true rfl) (fun X hX C hr => ?_)
  show k_K (k_PX w) X (k_MQ X (k_Qi (k_PX w) r σ) (k_PX w).2.2.1) 0 [(0, .ref (w.2.1 39)), (1, .int x1)] [] σ
  unfold f_X9_meaningOf at h
  refine k_iload_n C dX9_meaningOf_0 1 rfl ?_
  refine k_iconst C dX9_meaningOf_1 (v := 0) rfl ?_
  refine k_iconst C dX9_meaningOf_2 (v := 1) rfl ?_
  refine k_aload_n C dX9_meaningOf_3 0 rfl ?_
  refine k_get C dX9_meaningOf_4 (k_gX39_0 w) k_fX9_9 (Or.inl rfl) ?_
  refine k_ishl C dX9_meaningOf_7 ?_
  refine k_iconst C dX9_meaningOf_8 (v := 1) rfl ?_
  refine k_isub C dX9_meaningOf_9 ?_
  obtain ⟨v10, h10, h⟩ := k_bd_e h
  refine k_goI (k_runSN C dX9_meaningOf_10 (e_X11_within (d := 2) (Nat.le_refl _) h10) k_lX9_22 k_yX11_within (by omega) rfl (Nat.le_of_ble_eq_true rfl)) ?_
  refine k_if_ne C dX9_meaningOf_13 (tgt := 18) (by decide) (fun c13 => ?_) (fun c13 => ?_)
  · replace h := k_if_f h c13
    refine k_bipush C dX9_meaningOf_18 (v := 9) rfl ?_
    refine k_istore_n C dX9_meaningOf_20 (by decide) [1, 2, 0] (L' := [(0, .ref (w.2.1 39)), (1, .int x1), (2, .int (9 : Int32))]) rfl ?_
    refine k_iconst C dX9_meaningOf_21 (v := -1) rfl ?_
    refine k_istore_n C dX9_meaningOf_22 (by decide) [1, 2, 3, 0] (L' := [(0, .ref (w.2.1 39)), (1, .int x1), (2, .int (9 : Int32)), (3, .int (-1 : Int32))]) rfl ?_
    refine k_iconst C dX9_meaningOf_23 (v := 0) rfl ?_
    refine k_istore C dX9_meaningOf_24 (by decide) [1, 2, 3, 4, 0] (L' := [(0, .ref (w.2.1 39)), (1, .int x1), (2, .int (9 : Int32)), (3, .int (-1 : Int32)), (4, .int (0 : Int32))]) rfl ?_
    obtain ⟨b26, eb26, h⟩ := k_lp_e h
    have K26 : ∀ (n : Nat) (v2_26 : Int32) (v3_26 : Int32) (v4_26 : Int32), k_loop b26 n (v2_26, v3_26, v4_26) = some r → k_K (k_PX w) X (k_MQ X (k_Qi (k_PX w) r σ) (k_PX w).2.2.1) 26 [(0, .ref (w.2.1 39)), (1, .int x1), (2, .int v2_26), (3, .int v3_26), (4, .int v4_26)] [] σ := by
      intro n
      induction n with
      | zero => intro v2_26 v3_26 v4_26 h; cases h
      | succ n ih26 =>
        intro v2_26 v3_26 v4_26 h
        obtain ⟨g26, eg26, h⟩ := k_lp_s h
        rw [← eg26] at ih26
        rw [eb26] at h
        refine k_iload C dX9_meaningOf_26 4 rfl ?_
        refine k_aload_n C dX9_meaningOf_28 0 rfl ?_
        refine k_get C dX9_meaningOf_29 (k_gX39_1 w) k_fX9_15 (Or.inl rfl) ?_
        refine k_icmp_ge C dX9_meaningOf_32 (tgt := 78) (by decide) (fun c32 => ?_) (fun c32 => ?_)
        · replace h := k_if_t h c32
          refine k_iload_n C dX9_meaningOf_78 3 rfl ?_
          exact k_iret C dX9_meaningOf_79 hr (k_p1 h)
        · replace h := k_if_f h c32
          refine k_aload_n C dX9_meaningOf_35 0 rfl ?_
          refine k_get C dX9_meaningOf_36 (k_gX39_2 w) k_fX9_18 (Or.inl rfl) ?_
          refine k_iload C dX9_meaningOf_39 4 rfl ?_
          obtain ⟨q41, h⟩ := k_gd_e h
          refine k_iald C dX9_meaningOf_41 (k_aX40 w) q41 ?_
          refine k_iload_n C dX9_meaningOf_42 1 rfl ?_
          refine k_ixor C dX9_meaningOf_43 ?_
          obtain ⟨v44, h44, h⟩ := k_bd_e h
          refine k_goI (k_runS C dX9_meaningOf_44 (e_J6_bitCount_0f7a4 (d := 2) (Nat.le_refl _) h44) k_lX9_34 k_yJ6_bitCount_0f7a4 (by omega) rfl (Nat.le_of_ble_eq_true rfl)) ?_
          refine k_istore C dX9_meaningOf_47 (by decide) [1, 2, 3, 4, 5, 0] (L' := [(0, .ref (w.2.1 39)), (1, .int x1), (2, .int v2_26), (3, .int v3_26), (4, .int v4_26), (5, .int v44)]) rfl ?_
          refine k_iload C dX9_meaningOf_49 5 rfl ?_
          refine k_iload_n C dX9_meaningOf_51 2 rfl ?_
          refine k_icmp_ge C dX9_meaningOf_52 (tgt := 64) (by decide) (fun c52 => ?_) (fun c52 => ?_)
          · replace h := k_if_t h c52
            refine k_iload C dX9_meaningOf_64 5 rfl ?_
            refine k_iload_n C dX9_meaningOf_66 2 rfl ?_
            refine k_icmp_ne C dX9_meaningOf_67 (tgt := 72) (by decide) (fun c67 => ?_) (fun c67 => ?_)
            · replace h := k_if_f h c67
              refine k_iinc C dX9_meaningOf_72 4 rfl (v := 1) rfl (by decide) [1, 2, 3, 4, 0, 5] (L' := fun z9 => [(0, .ref (w.2.1 39)), (1, .int x1), (2, .int v2_26), (3, .int v3_26), (4, .int z9), (5, .int v44)]) (fun z9 => rfl) (fun y72 ey72 => ?_)
              replace h := k_nm_e h y72 ey72
              refine k_goto C dX9_meaningOf_75 (tgt := 26) (by decide) ?_
              refine k_sub (L' := [(0, .ref (w.2.1 39)), (1, .int x1), (2, .int v2_26), (3, .int v3_26), (4, .int y72)]) [0, 1, 2, 3, 4] rfl ?_
              exact ih26 _ _ _ h
            · replace h := k_if_t h c67
              refine k_iconst C dX9_meaningOf_70 (v := -1) rfl ?_
              refine k_istore_n C dX9_meaningOf_71 (by decide) [1, 2, 3, 0, 4, 5] (L' := [(0, .ref (w.2.1 39)), (1, .int x1), (2, .int v2_26), (3, .int (-1 : Int32)), (4, .int v4_26), (5, .int v44)]) rfl ?_
              refine k_iinc C dX9_meaningOf_72 4 rfl (v := 1) rfl (by decide) [1, 2, 3, 4, 0, 5] (L' := fun z9 => [(0, .ref (w.2.1 39)), (1, .int x1), (2, .int v2_26), (3, .int (-1 : Int32)), (4, .int z9), (5, .int v44)]) (fun z9 => rfl) (fun y72 ey72 => ?_)
              replace h := k_nm_e h y72 ey72
              refine k_goto C dX9_meaningOf_75 (tgt := 26) (by decide) ?_
              refine k_sub (L' := [(0, .ref (w.2.1 39)), (1, .int x1), (2, .int v2_26), (3, .int (-1 : Int32)), (4, .int y72)]) [0, 1, 2, 3, 4] rfl ?_
              exact ih26 _ _ _ h
          · replace h := k_if_f h c52
            refine k_iload C dX9_meaningOf_55 5 rfl ?_
            refine k_istore_n C dX9_meaningOf_57 (by decide) [1, 2, 0, 3, 4, 5] (L' := [(0, .ref (w.2.1 39)), (1, .int x1), (2, .int v44), (3, .int v3_26), (4, .int v4_26), (5, .int v44)]) rfl ?_
            refine k_iload C dX9_meaningOf_58 4 rfl ?_
            refine k_istore_n C dX9_meaningOf_60 (by decide) [1, 2, 3, 0, 4, 5] (L' := [(0, .ref (w.2.1 39)), (1, .int x1), (2, .int v44), (3, .int v4_26), (4, .int v4_26), (5, .int v44)]) rfl ?_
            refine k_goto C dX9_meaningOf_61 (tgt := 72) (by decide) ?_
            refine k_iinc C dX9_meaningOf_72 4 rfl (v := 1) rfl (by decide) [1, 2, 3, 4, 0, 5] (L' := fun z9 => [(0, .ref (w.2.1 39)), (1, .int x1), (2, .int v44), (3, .int v4_26), (4, .int z9), (5, .int v44)]) (fun z9 => rfl) (fun y72 ey72 => ?_)
            replace h := k_nm_e h y72 ey72
            refine k_goto C dX9_meaningOf_75 (tgt := 26) (by decide) ?_
            refine k_sub (L' := [(0, .ref (w.2.1 39)), (1, .int x1), (2, .int v44), (3, .int v4_26), (4, .int y72)]) [0, 1, 2, 3, 4] rfl ?_
            exact ih26 _ _ _ h
    exact K26 _ _ _ _ h
  · replace h := k_if_t h c13
    refine k_iconst C dX9_meaningOf_16 (v := -1) rfl ?_
    exact k_iret C dX9_meaningOf_17 hr (k_p1 h)
def f_X9_leastApart  (σ : k_St) : Option (Int32) :=
  k_loop (fun (g5 : Int32 × Int32 → Option (Int32)) (z5 : Int32 × Int32) => match z5 with
    | (v1_5, v2_5) =>
      k_if ((k_rd σ 39 1) ≤ v2_5)
        (k_if ((2 : Int32) ≤ (k_rd σ 39 1))
          (some v1_5)
          (some (-1 : Int32)))
        (k_loop (fun (g15 : Int32 × Int32 → Option (Int32)) (z15 : Int32 × Int32) => match z15 with
          | (v1_15, v3_15) =>
            k_if (v2_5 ≤ v3_15)
              (k_nm (v2_5 + (1 : Int32)) fun y47 =>
              g5 (v1_15, y47))
              (k_gd (k_ix v2_5 16 = true) <|
              k_gd (k_ix v3_15 16 = true) <|
              k_bd (f_J6_bitCount_0f7a4 ((k_rd σ 40 v2_5.toNatClampNeg) ^^^ (k_rd σ 40 v3_15.toNatClampNeg))) fun v34 =>
              k_nm ((o_min v1_15 v34)) fun y40 =>
              k_nm (v3_15 + (1 : Int32)) fun y41 =>
              g15 (y40, y41))) 100000 (v1_5, (0 : Int32)))) 100000 ((9 : Int32), (1 : Int32))
set_option maxHeartbeats 4000000 in
set_option maxRecDepth 100000 in
theorem e_X9_leastApart {l : Launch} {w : k_WC} {d : Nat} (hd : 3 ≤ d)   {σ : k_St} {r : Int32} (h : f_X9_leastApart σ = some r) : k_EI l (k_PX w) yX9_leastApart cX9_leastApart 4 (some .int) d [.ref (w.2.1 39)] σ r σ := by
  refine k_of (own := RX9) rfl (by decide) (Nat.le_of_ble_eq_true rfl) (fun X hX C hr => ?_)
  show k_K (k_PX w) X (k_MQ X (k_Qi (k_PX w) r σ) (k_PX w).2.2.1) 0 [(0, .ref (w.2.1 39))] [] σ
  unfold f_X9_leastApart at h
  refine k_bipush C dX9_leastApart_0 (v := 9) rfl ?_
  refine k_istore_n C dX9_leastApart_2 (by decide) [1, 0] (L' := [(0, .ref (w.2.1 39)), (1, .int (9 : Int32))]) rfl ?_
  refine k_iconst C dX9_leastApart_3 (v := 1) rfl ?_
  refine k_istore_n C dX9_leastApart_4 (by decide) [1, 2, 0] (L' := [(0, .ref (w.2.1 39)), (1, .int (9 : Int32)), (2, .int (1 : Int32))]) rfl ?_
  obtain ⟨b5, eb5, h⟩ := k_lp_e h
  have K5 : ∀ (n : Nat) (v1_5 : Int32) (v2_5 : Int32), k_loop b5 n (v1_5, v2_5) = some r → k_K (k_PX w) X (k_MQ X (k_Qi (k_PX w) r σ) (k_PX w).2.2.1) 5 [(0, .ref (w.2.1 39)), (1, .int v1_5), (2, .int v2_5)] [] σ := by
    intro n
    induction n with
    | zero => intro v1_5 v2_5 h; cases h
    | succ n ih5 =>
      intro v1_5 v2_5 h
      obtain ⟨g5, eg5, h⟩ := k_lp_s h
      rw [← eg5] at ih5
      rw [eb5] at h
      refine k_iload_n C dX9_leastApart_5 2 rfl ?_
      refine k_aload_n C dX9_leastApart_6 0 rfl ?_
      refine k_get C dX9_leastApart_7 (k_gX39_1 w) k_fX9_15 (Or.inl rfl) ?_
      refine k_icmp_ge C dX9_leastApart_10 (tgt := 53) (by decide) (fun c10 => ?_) (fun c10 => ?_)
      · replace h := k_if_t h c10
        refine k_aload_n C dX9_leastApart_53 0 rfl ?_
        refine k_get C dX9_leastApart_54 (k_gX39_1 w) k_fX9_15 (Or.inl rfl) ?_
        refine k_iconst C dX9_leastApart_57 (v := 2) rfl ?_
        refine k_icmp_ge C dX9_leastApart_58 (tgt := 65) (by decide) (fun c58 => ?_) (fun c58 => ?_)
        · replace h := k_if_t h c58
          refine k_iload_n C dX9_leastApart_65 1 rfl ?_
          exact k_iret C dX9_leastApart_66 hr (k_p1 h)
        · replace h := k_if_f h c58
          refine k_iconst C dX9_leastApart_61 (v := -1) rfl ?_
          refine k_goto C dX9_leastApart_62 (tgt := 66) (by decide) ?_
          exact k_iret C dX9_leastApart_66 hr (k_p1 h)
      · replace h := k_if_f h c10
        refine k_iconst C dX9_leastApart_13 (v := 0) rfl ?_
        refine k_istore_n C dX9_leastApart_14 (by decide) [1, 2, 3, 0] (L' := [(0, .ref (w.2.1 39)), (1, .int v1_5), (2, .int v2_5), (3, .int (0 : Int32))]) rfl ?_
        obtain ⟨b15, eb15, h⟩ := k_lp_e h
        have K15 : ∀ (n : Nat) (v1_15 : Int32) (v3_15 : Int32), k_loop b15 n (v1_15, v3_15) = some r → k_K (k_PX w) X (k_MQ X (k_Qi (k_PX w) r σ) (k_PX w).2.2.1) 15 [(0, .ref (w.2.1 39)), (1, .int v1_15), (2, .int v2_5), (3, .int v3_15)] [] σ := by
          intro n
          induction n with
          | zero => intro v1_15 v3_15 h; cases h
          | succ n ih15 =>
            intro v1_15 v3_15 h
            obtain ⟨g15, eg15, h⟩ := k_lp_s h
            rw [← eg15] at ih15
            rw [eb15] at h
            refine k_iload_n C dX9_leastApart_15 3 rfl ?_
            refine k_iload_n C dX9_leastApart_16 2 rfl ?_
            refine k_icmp_ge C dX9_leastApart_17 (tgt := 47) (by decide) (fun c17 => ?_) (fun c17 => ?_)
            · replace h := k_if_t h c17
              refine k_iinc C dX9_leastApart_47 2 rfl (v := 1) rfl (by decide) [1, 2, 0, 3] (L' := fun z9 => [(0, .ref (w.2.1 39)), (1, .int v1_15), (2, .int z9), (3, .int v3_15)]) (fun z9 => rfl) (fun y47 ey47 => ?_)
              replace h := k_nm_e h y47 ey47
              refine k_goto C dX9_leastApart_50 (tgt := 5) (by decide) ?_
              refine k_sub (L' := [(0, .ref (w.2.1 39)), (1, .int v1_15), (2, .int y47)]) [0, 1, 2] rfl ?_
              exact ih5 _ _ h
            · replace h := k_if_f h c17
              refine k_iload_n C dX9_leastApart_20 1 rfl ?_
              refine k_aload_n C dX9_leastApart_21 0 rfl ?_
              refine k_get C dX9_leastApart_22 (k_gX39_2 w) k_fX9_18 (Or.inl rfl) ?_
              refine k_iload_n C dX9_leastApart_25 2 rfl ?_
              obtain ⟨q26, h⟩ := k_gd_e h
              refine k_iald C dX9_leastApart_26 (k_aX40 w) q26 ?_
              refine k_aload_n C dX9_leastApart_27 0 rfl ?_
              refine k_get C dX9_leastApart_28 (k_gX39_2 w) k_fX9_18 (Or.inl rfl) ?_
              refine k_iload_n C dX9_leastApart_31 3 rfl ?_
              obtain ⟨q32, h⟩ := k_gd_e h
              refine k_iald C dX9_leastApart_32 (k_aX40 w) q32 ?_
              refine k_ixor C dX9_leastApart_33 ?_
              obtain ⟨v34, h34, h⟩ := k_bd_e h
              refine k_goI (k_runS C dX9_leastApart_34 (e_J6_bitCount_0f7a4 (d := 2) (Nat.le_refl _) h34) k_lX9_34 k_yJ6_bitCount_0f7a4 (by omega) rfl (Nat.le_of_ble_eq_true rfl)) ?_
              refine k_mmin C dX9_leastApart_37 k_lX9_40 k_ym_min (by omega) (Nat.le_of_ble_eq_true rfl) ?_
              refine k_topi (fun y40 ey40 => ?_)
              replace h := k_nm_e h y40 ey40
              refine k_istore_n C dX9_leastApart_40 (by decide) [1, 0, 2, 3] (L' := [(0, .ref (w.2.1 39)), (1, .int y40), (2, .int v2_5), (3, .int v3_15)]) rfl ?_
              refine k_iinc C dX9_leastApart_41 3 rfl (v := 1) rfl (by decide) [1, 2, 3, 0] (L' := fun z9 => [(0, .ref (w.2.1 39)), (1, .int y40), (2, .int v2_5), (3, .int z9)]) (fun z9 => rfl) (fun y41 ey41 => ?_)
              replace h := k_nm_e h y41 ey41
              refine k_goto C dX9_leastApart_44 (tgt := 15) (by decide) ?_
              exact ih15 _ _ h
        exact K15 _ _ _ h
  exact K5 _ _ _ h
