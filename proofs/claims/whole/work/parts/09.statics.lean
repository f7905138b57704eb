def f_X11_within (x0 : Int32) (x1 : Int32) (x2 : Int32) : Option (Int32) :=
  k_if (x0 < x1)
    (some (0 : Int32))
    (k_if (x2 < x0)
      (some (0 : Int32))
      (some (1 : Int32)))
set_option maxHeartbeats 4000000 in
set_option maxRecDepth 100000 in
theorem e_X11_within {l : Launch} {w : k_WC} {d : Nat} (hd : 2 ≤ d) {x0 : Int32} {x1 : Int32} {x2 : Int32}  {σ : k_St} {r : Int32} (h : f_X11_within x0 x1 x2 = some r) : k_EI l (k_PX w) yX11_within cX11_within 3 (some .boolean) d [.int x0, .int x1, .int x2] σ r σ := by
  refine k_of (own := RX11) rfl (by decide) (Nat.le_of_ble_eq_true rfl) (fun X hX C hr => ?_)
  show k_K (k_PX w) X (k_MQ X (k_Qi (k_PX w) r σ) (k_PX w).2.2.1) 0 [(0, .int x0), (1, .int x1), (2, .int x2)] [] σ
  unfold f_X11_within at h
  refine k_iload_n C dX11_within_0 0 rfl ?_
  refine k_iload_n C dX11_within_1 1 rfl ?_
  refine k_icmp_lt C dX11_within_2 (tgt := 14) (by decide) (fun c2 => ?_) (fun c2 => ?_)
  · replace h := k_if_t h c2
    refine k_iconst C dX11_within_14 (v := 0) rfl ?_
    exact k_zret C dX11_within_15 hr rfl (k_p1 h)
  · replace h := k_if_f h c2
    refine k_iload_n C dX11_within_5 0 rfl ?_
    refine k_iload_n C dX11_within_6 2 rfl ?_
    refine k_icmp_gt C dX11_within_7 (tgt := 14) (by decide) (fun c7 => ?_) (fun c7 => ?_)
    · replace h := k_if_t h c7
      refine k_iconst C dX11_within_14 (v := 0) rfl ?_
      exact k_zret C dX11_within_15 hr rfl (k_p1 h)
    · replace h := k_if_f h c7
      refine k_iconst C dX11_within_10 (v := 1) rfl ?_
      refine k_goto C dX11_within_11 (tgt := 15) (by decide) ?_
      exact k_zret C dX11_within_15 hr rfl (k_p1 h)
def f_X11_isPart (x0 : Int32) : Option (Int32) :=
  k_bd (f_X11_within x0 (0 : Int32) (1 : Int32)) fun v3 =>
  k_gd (o_isB v3 = true) <|
  some v3
set_option maxHeartbeats 4000000 in
set_option maxRecDepth 100000 in
theorem e_X11_isPart {l : Launch} {w : k_WC} {d : Nat} (hd : 3 ≤ d) {x0 : Int32}  {σ : k_St} {r : Int32} (h : f_X11_isPart x0 = some r) : k_EI l (k_PX w) yX11_isPart cX11_isPart 1 (some .boolean) d [.int x0] σ r σ := by
  refine k_of (own := RX11) rfl (by decide) (Nat.le_of_ble_eq_true rfl) (fun X hX C hr => ?_)
  show k_K (k_PX w) X (k_MQ X (k_Qi (k_PX w) r σ) (k_PX w).2.2.1) 0 [(0, .int x0)] [] σ
  unfold f_X11_isPart at h
  refine k_iload_n C dX11_isPart_0 0 rfl ?_
  refine k_iconst C dX11_isPart_1 (v := 0) rfl ?_
  refine k_iconst C dX11_isPart_2 (v := 1) rfl ?_
  obtain ⟨v3, h3, h⟩ := k_bd_e h
  refine k_goI (k_runS C dX11_isPart_3 (e_X11_within (d := 2) (Nat.le_refl _) h3) k_lX11_118 k_yX11_within (by omega) rfl (Nat.le_of_ble_eq_true rfl)) ?_
  obtain ⟨gz, h⟩ := k_gd_e h
  exact k_zret C dX11_isPart_6 hr (k_nz gz) (k_p1 h)
def f_X11_isShelf (x0 : Int32) : Option (Int32) :=
  k_bd (f_X11_within x0 (0 : Int32) (3 : Int32)) fun v3 =>
  k_gd (o_isB v3 = true) <|
  some v3
set_option maxHeartbeats 4000000 in
set_option maxRecDepth 100000 in
theorem e_X11_isShelf {l : Launch} {w : k_WC} {d : Nat} (hd : 3 ≤ d) {x0 : Int32}  {σ : k_St} {r : Int32} (h : f_X11_isShelf x0 = some r) : k_EI l (k_PX w) yX11_isShelf cX11_isShelf 1 (some .boolean) d [.int x0] σ r σ := by
  refine k_of (own := RX11) rfl (by decide) (Nat.le_of_ble_eq_true rfl) (fun X hX C hr => ?_)
  show k_K (k_PX w) X (k_MQ X (k_Qi (k_PX w) r σ) (k_PX w).2.2.1) 0 [(0, .int x0)] [] σ
  unfold f_X11_isShelf at h
  refine k_iload_n C dX11_isShelf_0 0 rfl ?_
  refine k_iconst C dX11_isShelf_1 (v := 0) rfl ?_
  refine k_iconst C dX11_isShelf_2 (v := 3) rfl ?_
  obtain ⟨v3, h3, h⟩ := k_bd_e h
  refine k_goI (k_runS C dX11_isShelf_3 (e_X11_within (d := 2) (Nat.le_refl _) h3) k_lX11_118 k_yX11_within (by omega) rfl (Nat.le_of_ble_eq_true rfl)) ?_
  obtain ⟨gz, h⟩ := k_gd_e h
  exact k_zret C dX11_isShelf_6 hr (k_nz gz) (k_p1 h)
def f_X11_commonOf (x0 : Int64) (x2 : Int64) : Option (Int64) :=
  k_loop (fun (g9 : Int64 × Int64 × Int32 → Option (Int64)) (z9 : Int64 × Int64 × Int32) => match z9 with
    | (v4_9, v6_9, v8_9) =>
      k_if ((200 : Int32) ≤ v8_9)
        (some v4_9)
        (k_if ((lg_cmp v6_9 (0 : Int64)) = (0 : Int32))
          (some v4_9)
          (k_gd (¬ v6_9 = 0) <|
          k_nm ((o_lrem v4_9 v6_9)) fun y29 =>
          k_nm (v8_9 + (1 : Int32)) fun y39 =>
          g9 (v6_9, y29, y39)))) 100000 (x0, x2, (0 : Int32))
set_option maxHeartbeats 4000000 in
set_option maxRecDepth 100000 in
theorem e_X11_commonOf {l : Launch} {w : k_WC} {d : Nat} (hd : 2 ≤ d) {x0 : Int64} {x2 : Int64}  {σ : k_St} {r : Int64} (h : f_X11_commonOf x0 x2 = some r) : k_EL l (k_PX w) yX11_commonOf cX11_commonOf 11 d [.long x0, .long x2] σ r σ := by
  refine k_of (own := RX11) rfl (by decide) (Nat.le_of_ble_eq_true rfl) (fun X hX C hr => ?_)
  show k_K (k_PX w) X (k_MQ X (k_Ql (k_PX w) r σ) (k_PX w).2.2.1) 0 [(0, .long x0), (2, .long x2)] [] σ
  unfold f_X11_commonOf at h
  refine k_lload_n C dX11_commonOf_0 0 rfl ?_
  refine k_lstore C dX11_commonOf_1 (by decide) [1, 2, 0] (L' := [(0, .long x0), (2, .long x2), (4, .long x0)]) rfl ?_
  refine k_lload_n C dX11_commonOf_3 1 rfl ?_
  refine k_lstore C dX11_commonOf_4 (by decide) [1, 2, 3, 0] (L' := [(0, .long x0), (2, .long x2), (4, .long x0), (6, .long x2)]) rfl ?_
  refine k_iconst C dX11_commonOf_6 (v := 0) rfl ?_
  refine k_istore C dX11_commonOf_7 (by decide) [1, 2, 3, 4, 0] (L' := [(0, .long x0), (2, .long x2), (4, .long x0), (6, .long x2), (8, .int (0 : Int32))]) rfl ?_
  obtain ⟨b9, eb9, h⟩ := k_lp_e h
  have K9 : ∀ (n : Nat) (v4_9 : Int64) (v6_9 : Int64) (v8_9 : Int32), k_loop b9 n (v4_9, v6_9, v8_9) = some r → k_K (k_PX w) X (k_MQ X (k_Ql (k_PX w) r σ) (k_PX w).2.2.1) 9 [(4, .long v4_9), (6, .long v6_9), (8, .int v8_9)] [] σ := by
    intro n
    induction n with
    | zero => intro v4_9 v6_9 v8_9 h; cases h
    | succ n ih9 =>
      intro v4_9 v6_9 v8_9 h
      obtain ⟨g9, eg9, h⟩ := k_lp_s h
      rw [← eg9] at ih9
      rw [eb9] at h
      refine k_iload C dX11_commonOf_9 2 rfl ?_
      refine k_sipush C dX11_commonOf_11 (v := 200) rfl ?_
      refine k_icmp_ge C dX11_commonOf_14 (tgt := 45) (by decide) (fun c14 => ?_) (fun c14 => ?_)
      · replace h := k_if_t h c14
        refine k_lload C dX11_commonOf_45 0 rfl ?_
        exact k_lret C dX11_commonOf_47 hr (k_p1 h)
      · replace h := k_if_f h c14
        refine k_lload C dX11_commonOf_17 1 rfl ?_
        refine k_lconst C dX11_commonOf_19 (v := 0) rfl ?_
        refine k_lcmp C dX11_commonOf_20 ?_
        refine k_if_eq C dX11_commonOf_21 (tgt := 45) (by decide) (fun c21 => ?_) (fun c21 => ?_)
        · replace h := k_if_t h c21
          refine k_lload C dX11_commonOf_45 0 rfl ?_
          exact k_lret C dX11_commonOf_47 hr (k_p1 h)
        · replace h := k_if_f h c21
          refine k_lload C dX11_commonOf_24 0 rfl ?_
          refine k_lload C dX11_commonOf_26 1 rfl ?_
          obtain ⟨q28, h⟩ := k_gd_e h
          refine k_lrem C dX11_commonOf_28 q28 ?_
          refine k_topl (fun y29 ey29 => ?_)
          replace h := k_nm_e h y29 ey29
          refine k_lstore C dX11_commonOf_29 (by decide) [1, 2, 3, 0] (L' := [(4, .long v4_9), (6, .long v6_9), (8, .int v8_9), (9, .long y29)]) rfl ?_
          refine k_lload C dX11_commonOf_31 1 rfl ?_
          refine k_lstore C dX11_commonOf_33 (by decide) [0, 1, 2, 3] (L' := [(4, .long v6_9), (6, .long v6_9), (8, .int v8_9), (9, .long y29)]) rfl ?_
          refine k_lload C dX11_commonOf_35 3 rfl ?_
          refine k_lstore C dX11_commonOf_37 (by decide) [1, 0, 2, 3] (L' := [(4, .long v6_9), (6, .long y29), (8, .int v8_9), (9, .long y29)]) rfl ?_
          refine k_iinc C dX11_commonOf_39 2 rfl (v := 1) rfl (by decide) [1, 2, 0, 3] (L' := fun z9 => [(4, .long v6_9), (6, .long y29), (8, .int z9), (9, .long y29)]) (fun z9 => rfl) (fun y39 ey39 => ?_)
          replace h := k_nm_e h y39 ey39
          refine k_goto C dX11_commonOf_42 (tgt := 9) (by decide) ?_
          refine k_sub (L' := [(4, .long v6_9), (6, .long y29), (8, .int y39)]) [0, 1, 2] rfl ?_
          exact ih9 _ _ _ h
  refine k_sub (L' := [(4, .long x0), (6, .long x2), (8, .int (0 : Int32))]) [2, 3, 4] rfl ?_
  exact K9 _ _ _ _ h
def f_X11_plain (x0 : Int64) (x2 : Int64) (x4 : Int32) : Option (Int64) :=
  k_jn (fun (_ : Unit) =>
    k_if (x4 = (0 : Int32))
      (some (0 : Int64))
      (some (1 : Int64))) fun j12 =>
  k_if ((lg_cmp x0 (0 : Int64)) = (0 : Int32))
    (j12 ())
    (k_if ((lg_cmp x2 (0 : Int64)) = (0 : Int32))
      (j12 ())
      (k_bd (f_X11_commonOf x0 x2) fun v25 =>
      k_if ((lg_cmp v25 (0 : Int64)) = (0 : Int32))
        (some (-1 : Int64))
        (k_if (x4 = (0 : Int32))
          (k_gd (¬ v25 = 0) <|
          some (x0 / v25))
          (k_gd (¬ v25 = 0) <|
          some (x2 / v25)))))
set_option maxHeartbeats 4000000 in
set_option maxRecDepth 100000 in
theorem e_X11_plain {l : Launch} {w : k_WC} {d : Nat} (hd : 3 ≤ d) {x0 : Int64} {x2 : Int64} {x4 : Int32}  {σ : k_St} {r : Int64} (h : f_X11_plain x0 x2 x4 = some r) : k_EL l (k_PX w) yX11_plain cX11_plain 7 d [.long x0, .long x2, .int x4] σ r σ := by
  refine k_of (own := RX11) rfl (by decide) (Nat.le_of_ble_eq_true rfl) (fun X hX C hr => ?_)
  show k_K (k_PX w) X (k_MQ X (k_Ql (k_PX w) r σ) (k_PX w).2.2.1) 0 [(0, .long x0), (2, .long x2), (4, .int x4)] [] σ
  unfold f_X11_plain at h
  refine k_lload_n C dX11_plain_0 0 rfl ?_
  refine k_lconst C dX11_plain_1 (v := 0) rfl ?_
  refine k_lcmp C dX11_plain_2 ?_
  obtain ⟨j12, ej12, h⟩ := k_jn_e h
  have Jj12 : j12 () = some r → k_K (k_PX w) X (k_MQ X (k_Ql (k_PX w) r σ) (k_PX w).2.2.1) 12 [(4, .int x4)] [] σ := by
    intro  h
    rw [ej12] at h
    refine k_iload C dX11_plain_12 0 rfl ?_
    refine k_if_ne C dX11_plain_14 (tgt := 21) (by decide) (fun c14 => ?_) (fun c14 => ?_)
    · replace h := k_if_f h c14
      refine k_lconst C dX11_plain_21 (v := 1) rfl ?_
      exact k_lret C dX11_plain_22 hr (k_p1 h)
    · replace h := k_if_t h c14
      refine k_lconst C dX11_plain_17 (v := 0) rfl ?_
      refine k_goto C dX11_plain_18 (tgt := 22) (by decide) ?_
      exact k_lret C dX11_plain_22 hr (k_p1 h)
  refine k_if_eq C dX11_plain_3 (tgt := 12) (by decide) (fun c3 => ?_) (fun c3 => ?_)
  · replace h := k_if_t h c3
    refine k_sub (L' := [(4, .int x4)]) [2] rfl ?_
    exact Jj12 h
  · replace h := k_if_f h c3
    refine k_lload_n C dX11_plain_6 1 rfl ?_
    refine k_lconst C dX11_plain_7 (v := 0) rfl ?_
    refine k_lcmp C dX11_plain_8 ?_
    refine k_if_ne C dX11_plain_9 (tgt := 23) (by decide) (fun c9 => ?_) (fun c9 => ?_)
    · replace h := k_if_f h c9
      refine k_lload_n C dX11_plain_23 0 rfl ?_
      refine k_lload_n C dX11_plain_24 1 rfl ?_
      obtain ⟨v25, h25, h⟩ := k_bd_e h
      refine k_goL (k_runS C dX11_plain_25 (e_X11_commonOf (d := 2) (Nat.le_refl _) h25) k_lX11_422 k_yX11_commonOf (by omega) rfl (Nat.le_of_ble_eq_true rfl)) ?_
      refine k_lstore C dX11_plain_28 (by decide) [1, 2, 3, 0] (L' := [(0, .long x0), (2, .long x2), (4, .int x4), (5, .long v25)]) rfl ?_
      refine k_lload C dX11_plain_30 3 rfl ?_
      refine k_lconst C dX11_plain_32 (v := 0) rfl ?_
      refine k_lcmp C dX11_plain_33 ?_
      refine k_if_ne C dX11_plain_34 (tgt := 41) (by decide) (fun c34 => ?_) (fun c34 => ?_)
      · replace h := k_if_f h c34
        refine k_iload C dX11_plain_41 2 rfl ?_
        refine k_if_ne C dX11_plain_43 (tgt := 53) (by decide) (fun c43 => ?_) (fun c43 => ?_)
        · replace h := k_if_f h c43
          refine k_lload_n C dX11_plain_53 1 rfl ?_
          refine k_lload C dX11_plain_54 3 rfl ?_
          obtain ⟨q56, h⟩ := k_gd_e h
          refine k_ldiv C dX11_plain_56 q56 ?_
          exact k_lret C dX11_plain_57 hr (k_p1 h)
        · replace h := k_if_t h c43
          refine k_lload_n C dX11_plain_46 0 rfl ?_
          refine k_lload C dX11_plain_47 3 rfl ?_
          obtain ⟨q49, h⟩ := k_gd_e h
          refine k_ldiv C dX11_plain_49 q49 ?_
          refine k_goto C dX11_plain_50 (tgt := 57) (by decide) ?_
          exact k_lret C dX11_plain_57 hr (k_p1 h)
      · replace h := k_if_t h c34
        refine k_ldc2 C dX11_plain_37 k_cX11_260 ?_
        exact k_lret C dX11_plain_40 hr (k_p1 h)
    · replace h := k_if_t h c9
      refine k_sub (L' := [(4, .int x4)]) [2] rfl ?_
      exact Jj12 h
def f_X11_signOf (x0 : Int32) (x1 : Int32) : Option (Int32) :=
  some ((o_ushr x0 ((6 : Int32) - ((2 : Int32) * x1))) &&& (3 : Int32))
set_option maxHeartbeats 4000000 in
set_option maxRecDepth 100000 in
theorem e_X11_signOf {l : Launch} {w : k_WC} {d : Nat} (hd : 2 ≤ d) {x0 : Int32} {x1 : Int32}  {σ : k_St} {r : Int32} (h : f_X11_signOf x0 x1 = some r) : k_EI l (k_PX w) yX11_signOf cX11_signOf 2 (some .int) d [.int x0, .int x1] σ r σ := by
  refine k_of (own := RX11) rfl (by decide) (Nat.le_of_ble_eq_true rfl) (fun X hX C hr => ?_)
  show k_K (k_PX w) X (k_MQ X (k_Qi (k_PX w) r σ) (k_PX w).2.2.1) 0 [(0, .int x0), (1, .int x1)] [] σ
  unfold f_X11_signOf at h
  refine k_iload_n C dX11_signOf_0 0 rfl ?_
  refine k_bipush C dX11_signOf_1 (v := 6) rfl ?_
  refine k_iconst C dX11_signOf_3 (v := 2) rfl ?_
  refine k_iload_n C dX11_signOf_4 1 rfl ?_
  refine k_imul C dX11_signOf_5 ?_
  refine k_isub C dX11_signOf_6 ?_
  refine k_iushr C dX11_signOf_7 ?_
  refine k_iconst C dX11_signOf_8 (v := 3) rfl ?_
  refine k_iand C dX11_signOf_9 ?_
  exact k_iret C dX11_signOf_10 hr (k_p1 h)
def f_X11_withSign (x0 : Int32) (x1 : Int32) (x2 : Int32) : Option (Int32) :=
  k_nm (((6 : Int32) - ((2 : Int32) * x1))) fun y6 =>
  some ((x0 &&& ((o_shl (3 : Int32) y6) ^^^ (-1 : Int32))) ||| (o_shl (x2 &&& (3 : Int32)) y6))
set_option maxHeartbeats 4000000 in
set_option maxRecDepth 100000 in
theorem e_X11_withSign {l : Launch} {w : k_WC} {d : Nat} (hd : 2 ≤ d) {x0 : Int32} {x1 : Int32} {x2 : Int32}  {σ : k_St} {r : Int32} (h : f_X11_withSign x0 x1 x2 = some r) : k_EI l (k_PX w) yX11_withSign cX11_withSign 4 (some .int) d [.int x0, .int x1, .int x2] σ r σ := by
  refine k_of (own := RX11) rfl (by decide) (Nat.le_of_ble_eq_true rfl) (fun X hX C hr => ?_)
  show k_K (k_PX w) X (k_MQ X (k_Qi (k_PX w) r σ) (k_PX w).2.2.1) 0 [(0, .int x0), (1, .int x1), (2, .int x2)] [] σ
  unfold f_X11_withSign at h
  refine k_bipush C dX11_withSign_0 (v := 6) rfl ?_
  refine k_iconst C dX11_withSign_2 (v := 2) rfl ?_
  refine k_iload_n C dX11_withSign_3 1 rfl ?_
  refine k_imul C dX11_withSign_4 ?_
  refine k_isub C dX11_withSign_5 ?_
  refine k_topi (fun y6 ey6 => ?_)
  replace h := k_nm_e h y6 ey6
  refine k_istore_n C dX11_withSign_6 (by decide) [1, 2, 3, 0] (L' := [(0, .int x0), (1, .int x1), (2, .int x2), (3, .int y6)]) rfl ?_
  refine k_iload_n C dX11_withSign_7 0 rfl ?_
  refine k_iconst C dX11_withSign_8 (v := 3) rfl ?_
  refine k_iload_n C dX11_withSign_9 3 rfl ?_
  refine k_ishl C dX11_withSign_10 ?_
  refine k_iconst C dX11_withSign_11 (v := -1) rfl ?_
  refine k_ixor C dX11_withSign_12 ?_
  refine k_iand C dX11_withSign_13 ?_
  refine k_iload_n C dX11_withSign_14 2 rfl ?_
  refine k_iconst C dX11_withSign_15 (v := 3) rfl ?_
  refine k_iand C dX11_withSign_16 ?_
  refine k_iload_n C dX11_withSign_17 3 rfl ?_
  refine k_ishl C dX11_withSign_18 ?_
  refine k_ior C dX11_withSign_19 ?_
  exact k_iret C dX11_withSign_20 hr (k_p1 h)
def f_X11_signsBelow (x0 : Int32) (x1 : Int32) : Option (Int32) :=
  k_loop (fun (g2 : Int32 → Option (Int32)) (z2 : Int32) => match z2 with
    | v2_2 =>
      k_if ((4 : Int32) ≤ v2_2)
        (some (1 : Int32))
        (k_bd (f_X11_signOf x0 v2_2) fun v9 =>
        k_if (v9 < x1)
          (k_nm (v2_2 + (1 : Int32)) fun y18 =>
          g2 y18)
          (some (0 : Int32)))) 100000 (0 : Int32)
set_option maxHeartbeats 4000000 in
set_option maxRecDepth 100000 in
theorem e_X11_signsBelow {l : Launch} {w : k_WC} {d : Nat} (hd : 3 ≤ d) {x0 : Int32} {x1 : Int32}  {σ : k_St} {r : Int32} (h : f_X11_signsBelow x0 x1 = some r) : k_EI l (k_PX w) yX11_signsBelow cX11_signsBelow 3 (some .boolean) d [.int x0, .int x1] σ r σ := by
  refine k_of (own := RX11) rfl (by decide) (Nat.le_of_ble_eq_true rfl) (fun X hX C hr => ?_)
  show k_K (k_PX w) X (k_MQ X (k_Qi (k_PX w) r σ) (k_PX w).2.2.1) 0 [(0, .int x0), (1, .int x1)] [] σ
  unfold f_X11_signsBelow at h
  refine k_iconst C dX11_signsBelow_0 (v := 0) rfl ?_
  refine k_istore_n C dX11_signsBelow_1 (by decide) [1, 2, 0] (L' := [(0, .int x0), (1, .int x1), (2, .int (0 : Int32))]) rfl ?_
  obtain ⟨b2, eb2, h⟩ := k_lp_e h
  have K2 : ∀ (n : Nat) (v2_2 : Int32), k_loop b2 n v2_2 = some r → k_K (k_PX w) X (k_MQ X (k_Qi (k_PX w) r σ) (k_PX w).2.2.1) 2 [(0, .int x0), (1, .int x1), (2, .int v2_2)] [] σ := by
    intro n
    induction n with
    | zero => intro v2_2 h; cases h
    | succ n ih2 =>
      intro v2_2 h
      obtain ⟨g2, eg2, h⟩ := k_lp_s h
      rw [← eg2] at ih2
      rw [eb2] at h
      refine k_iload_n C dX11_signsBelow_2 2 rfl ?_
      refine k_iconst C dX11_signsBelow_3 (v := 4) rfl ?_
      refine k_icmp_ge C dX11_signsBelow_4 (tgt := 24) (by decide) (fun c4 => ?_) (fun c4 => ?_)
      · replace h := k_if_t h c4
        refine k_iconst C dX11_signsBelow_24 (v := 1) rfl ?_
        exact k_zret C dX11_signsBelow_25 hr rfl (k_p1 h)
      · replace h := k_if_f h c4
        refine k_iload_n C dX11_signsBelow_7 0 rfl ?_
        refine k_iload_n C dX11_signsBelow_8 2 rfl ?_
        obtain ⟨v9, h9, h⟩ := k_bd_e h
        refine k_goI (k_runS C dX11_signsBelow_9 (e_X11_signOf (d := 2) (Nat.le_refl _) h9) k_lX11_339 k_yX11_signOf (by omega) rfl (Nat.le_of_ble_eq_true rfl)) ?_
        refine k_iload_n C dX11_signsBelow_12 1 rfl ?_
        refine k_icmp_lt C dX11_signsBelow_13 (tgt := 18) (by decide) (fun c13 => ?_) (fun c13 => ?_)
        · replace h := k_if_t h c13
          refine k_iinc C dX11_signsBelow_18 2 rfl (v := 1) rfl (by decide) [1, 2, 0] (L' := fun z9 => [(0, .int x0), (1, .int x1), (2, .int z9)]) (fun z9 => rfl) (fun y18 ey18 => ?_)
          replace h := k_nm_e h y18 ey18
          refine k_goto C dX11_signsBelow_21 (tgt := 2) (by decide) ?_
          exact ih2 _ h
        · replace h := k_if_f h c13
          refine k_iconst C dX11_signsBelow_16 (v := 0) rfl ?_
          exact k_zret C dX11_signsBelow_17 hr rfl (k_p1 h)
  exact K2 _ _ h
def f_X11_digitsOf (x0 : Int32) : Option (Int32) :=
  k_loop (fun (g4 : Int32 × Int32 → Option (Int32)) (z4 : Int32 × Int32) => match z4 with
    | (v1_4, v2_4) =>
      k_if ((4 : Int32) ≤ v2_4)
        (some v1_4)
        (k_bd (f_X11_signOf x0 v2_4) fun v15 =>
        k_nm ((((10 : Int32) * v1_4) + v15)) fun y19 =>
        k_nm (v2_4 + (1 : Int32)) fun y20 =>
        g4 (y19, y20))) 100000 ((0 : Int32), (0 : Int32))
set_option maxHeartbeats 4000000 in
set_option maxRecDepth 100000 in
theorem e_X11_digitsOf {l : Launch} {w : k_WC} {d : Nat} (hd : 3 ≤ d) {x0 : Int32}  {σ : k_St} {r : Int32} (h : f_X11_digitsOf x0 = some r) : k_EI l (k_PX w) yX11_digitsOf cX11_digitsOf 3 (some .int) d [.int x0] σ r σ := by
  refine k_of (own := RX11) rfl (by decide) (Nat.le_of_ble_eq_true rfl) (fun X hX C hr => ?_)
  show k_K (k_PX w) X (k_MQ X (k_Qi (k_PX w) r σ) (k_PX w).2.2.1) 0 [(0, .int x0)] [] σ
  unfold f_X11_digitsOf at h
  refine k_iconst C dX11_digitsOf_0 (v := 0) rfl ?_
  refine k_istore_n C dX11_digitsOf_1 (by decide) [1, 0] (L' := [(0, .int x0), (1, .int (0 : Int32))]) rfl ?_
  refine k_iconst C dX11_digitsOf_2 (v := 0) rfl ?_
  refine k_istore_n C dX11_digitsOf_3 (by decide) [1, 2, 0] (L' := [(0, .int x0), (1, .int (0 : Int32)), (2, .int (0 : Int32))]) rfl ?_
  obtain ⟨b4, eb4, h⟩ := k_lp_e h
  have K4 : ∀ (n : Nat) (v1_4 : Int32) (v2_4 : Int32), k_loop b4 n (v1_4, v2_4) = some r → k_K (k_PX w) X (k_MQ X (k_Qi (k_PX w) r σ) (k_PX w).2.2.1) 4 [(0, .int x0), (1, .int v1_4), (2, .int v2_4)] [] σ := by
    intro n
    induction n with
    | zero => intro v1_4 v2_4 h; cases h
    | succ n ih4 =>
      intro v1_4 v2_4 h
      obtain ⟨g4, eg4, h⟩ := k_lp_s h
      rw [← eg4] at ih4
      rw [eb4] at h
      refine k_iload_n C dX11_digitsOf_4 2 rfl ?_
      refine k_iconst C dX11_digitsOf_5 (v := 4) rfl ?_
      refine k_icmp_ge C dX11_digitsOf_6 (tgt := 26) (by decide) (fun c6 => ?_) (fun c6 => ?_)
      · replace h := k_if_t h c6
        refine k_iload_n C dX11_digitsOf_26 1 rfl ?_
        exact k_iret C dX11_digitsOf_27 hr (k_p1 h)
      · replace h := k_if_f h c6
        refine k_bipush C dX11_digitsOf_9 (v := 10) rfl ?_
        refine k_iload_n C dX11_digitsOf_11 1 rfl ?_
        refine k_imul C dX11_digitsOf_12 ?_
        refine k_iload_n C dX11_digitsOf_13 0 rfl ?_
        refine k_iload_n C dX11_digitsOf_14 2 rfl ?_
        obtain ⟨v15, h15, h⟩ := k_bd_e h
        refine k_goI (k_runS C dX11_digitsOf_15 (e_X11_signOf (d := 2) (Nat.le_refl _) h15) k_lX11_339 k_yX11_signOf (by omega) rfl (Nat.le_of_ble_eq_true rfl)) ?_
        refine k_iadd C dX11_digitsOf_18 ?_
        refine k_topi (fun y19 ey19 => ?_)
        replace h := k_nm_e h y19 ey19
        refine k_istore_n C dX11_digitsOf_19 (by decide) [1, 0, 2] (L' := [(0, .int x0), (1, .int y19), (2, .int v2_4)]) rfl ?_
        refine k_iinc C dX11_digitsOf_20 2 rfl (v := 1) rfl (by decide) [1, 2, 0] (L' := fun z9 => [(0, .int x0), (1, .int y19), (2, .int z9)]) (fun z9 => rfl) (fun y20 ey20 => ?_)
        replace h := k_nm_e h y20 ey20
        refine k_goto C dX11_digitsOf_23 (tgt := 4) (by decide) ?_
        exact ih4 _ _ h
  exact K4 _ _ _ h
def f_X11_digitOf (x0 : Int32) (x1 : Int32) : Option (Int32) :=
  k_loop (fun (g4 : Int32 × Int32 → Option (Int32)) (z4 : Int32 × Int32) => match z4 with
    | (v2_4, v3_4) =>
      k_if ((3 : Int32) ≤ v3_4)
        (some (o_rem v2_4 (10 : Int32)))
        (k_nm ((v2_4 / (10 : Int32))) fun y13 =>
        k_nm (v3_4 + (1 : Int32)) fun y14 =>
        g4 (y13, y14))) 100000 (x0, x1)
set_option maxHeartbeats 4000000 in
set_option maxRecDepth 100000 in
theorem e_X11_digitOf {l : Launch} {w : k_WC} {d : Nat} (hd : 2 ≤ d) {x0 : Int32} {x1 : Int32}  {σ : k_St} {r : Int32} (h : f_X11_digitOf x0 x1 = some r) : k_EI l (k_PX w) yX11_digitOf cX11_digitOf 4 (some .int) d [.int x0, .int x1] σ r σ := by
  refine k_of (own := RX11) rfl (by decide) (Nat.le_of_ble_eq_true rfl) (fun X hX C hr => ?_)
  show k_K (k_PX w) X (k_MQ X (k_Qi (k_PX w) r σ) (k_PX w).2.2.1) 0 [(0, .int x0), (1, .int x1)] [] σ
  unfold f_X11_digitOf at h
  refine k_iload_n C dX11_digitOf_0 0 rfl ?_
  refine k_istore_n C dX11_digitOf_1 (by decide) [1, 2, 0] (L' := [(0, .int x0), (1, .int x1), (2, .int x0)]) rfl ?_
  refine k_iload_n C dX11_digitOf_2 1 rfl ?_
  refine k_istore_n C dX11_digitOf_3 (by decide) [1, 2, 3, 0] (L' := [(0, .int x0), (1, .int x1), (2, .int x0), (3, .int x1)]) rfl ?_
  obtain ⟨b4, eb4, h⟩ := k_lp_e h
  have K4 : ∀ (n : Nat) (v2_4 : Int32) (v3_4 : Int32), k_loop b4 n (v2_4, v3_4) = some r → k_K (k_PX w) X (k_MQ X (k_Qi (k_PX w) r σ) (k_PX w).2.2.1) 4 [(2, .int v2_4), (3, .int v3_4)] [] σ := by
    intro n
    induction n with
    | zero => intro v2_4 v3_4 h; cases h
    | succ n ih4 =>
      intro v2_4 v3_4 h
      obtain ⟨g4, eg4, h⟩ := k_lp_s h
      rw [← eg4] at ih4
      rw [eb4] at h
      refine k_iload_n C dX11_digitOf_4 1 rfl ?_
      refine k_iconst C dX11_digitOf_5 (v := 3) rfl ?_
      refine k_icmp_ge C dX11_digitOf_6 (tgt := 20) (by decide) (fun c6 => ?_) (fun c6 => ?_)
      · replace h := k_if_t h c6
        refine k_iload_n C dX11_digitOf_20 0 rfl ?_
        refine k_bipush C dX11_digitOf_21 (v := 10) rfl ?_
        refine k_irem C dX11_digitOf_23 (by decide) ?_
        exact k_iret C dX11_digitOf_24 hr (k_p1 h)
      · replace h := k_if_f h c6
        refine k_iload_n C dX11_digitOf_9 0 rfl ?_
        refine k_bipush C dX11_digitOf_10 (v := 10) rfl ?_
        refine k_idiv C dX11_digitOf_12 (by decide) ?_
        refine k_topi (fun y13 ey13 => ?_)
        replace h := k_nm_e h y13 ey13
        refine k_istore_n C dX11_digitOf_13 (by decide) [0, 1] (L' := [(2, .int y13), (3, .int v3_4)]) rfl ?_
        refine k_iinc C dX11_digitOf_14 1 rfl (v := 1) rfl (by decide) [1, 0] (L' := fun z9 => [(2, .int y13), (3, .int z9)]) (fun z9 => rfl) (fun y14 ey14 => ?_)
        replace h := k_nm_e h y14 ey14
        refine k_goto C dX11_digitOf_17 (tgt := 4) (by decide) ?_
        exact ih4 _ _ h
  refine k_sub (L' := [(2, .int x0), (3, .int x1)]) [2, 3] rfl ?_
  exact K4 _ _ _ h
def f_X11_tugsOf (x0 : Int32) (x1 : Int32) : Option (Int32) :=
  k_bd (f_X11_within x0 (0 : Int32) (9999 : Int32)) fun v5 =>
  k_if (v5 = (0 : Int32))
    (some (-1 : Int32))
    (k_loop (fun (g17 : Int32 × Int32 → Option (Int32)) (z17 : Int32 × Int32) => match z17 with
      | (v2_17, v3_17) =>
        k_if ((4 : Int32) ≤ v3_17)
          (some v2_17)
          (k_bd (f_X11_digitOf x0 v3_17) fun v24 =>
          k_if (v24 < x1)
            (k_bd (f_X11_withSign v2_17 v3_17 v24) fun v41 =>
            k_nm (v3_17 + (1 : Int32)) fun y45 =>
            g17 (v41, y45))
            (some (-1 : Int32)))) 100000 ((0 : Int32), (0 : Int32)))
set_option maxHeartbeats 4000000 in
set_option maxRecDepth 100000 in
theorem e_X11_tugsOf {l : Launch} {w : k_WC} {d : Nat} (hd : 3 ≤ d) {x0 : Int32} {x1 : Int32}  {σ : k_St} {r : Int32} (h : f_X11_tugsOf x0 x1 = some r) : k_EI l (k_PX w) yX11_tugsOf cX11_tugsOf 5 (some .int) d [.int x0, .int x1] σ r σ := by
  refine k_of (own := RX11) rfl (by decide) (Nat.le_of_ble_eq_true rfl) (fun X hX C hr => ?_)
  show k_K (k_PX w) X (k_MQ X (k_Qi (k_PX w) r σ) (k_PX w).2.2.1) 0 [(0, .int x0), (1, .int x1)] [] σ
  unfold f_X11_tugsOf at h
  refine k_iload_n C dX11_tugsOf_0 0 rfl ?_
  refine k_iconst C dX11_tugsOf_1 (v := 0) rfl ?_
  refine k_sipush C dX11_tugsOf_2 (v := 9999) rfl ?_
  obtain ⟨v5, h5, h⟩ := k_bd_e h
  refine k_goI (k_runS C dX11_tugsOf_5 (e_X11_within (d := 2) (Nat.le_refl _) h5) k_lX11_118 k_yX11_within (by omega) rfl (Nat.le_of_ble_eq_true rfl)) ?_
  refine k_if_ne C dX11_tugsOf_8 (tgt := 13) (by decide) (fun c8 => ?_) (fun c8 => ?_)
  · replace h := k_if_f h c8
    refine k_iconst C dX11_tugsOf_13 (v := 0) rfl ?_
    refine k_istore_n C dX11_tugsOf_14 (by decide) [1, 2, 0] (L' := [(0, .int x0), (1, .int x1), (2, .int (0 : Int32))]) rfl ?_
    refine k_iconst C dX11_tugsOf_15 (v := 0) rfl ?_
    refine k_istore_n C dX11_tugsOf_16 (by decide) [1, 2, 3, 0] (L' := [(0, .int x0), (1, .int x1), (2, .int (0 : Int32)), (3, .int (0 : Int32))]) rfl ?_
    obtain ⟨b17, eb17, h⟩ := k_lp_e h
    have K17 : ∀ (n : Nat) (v2_17 : Int32) (v3_17 : Int32), k_loop b17 n (v2_17, v3_17) = some r → k_K (k_PX w) X (k_MQ X (k_Qi (k_PX w) r σ) (k_PX w).2.2.1) 17 [(0, .int x0), (1, .int x1), (2, .int v2_17), (3, .int v3_17)] [] σ := by
      intro n
      induction n with
      | zero => intro v2_17 v3_17 h; cases h
      | succ n ih17 =>
        intro v2_17 v3_17 h
        obtain ⟨g17, eg17, h⟩ := k_lp_s h
        rw [← eg17] at ih17
        rw [eb17] at h
        refine k_iload_n C dX11_tugsOf_17 3 rfl ?_
        refine k_iconst C dX11_tugsOf_18 (v := 4) rfl ?_
        refine k_icmp_ge C dX11_tugsOf_19 (tgt := 51) (by decide) (fun c19 => ?_) (fun c19 => ?_)
        · replace h := k_if_t h c19
          refine k_iload_n C dX11_tugsOf_51 2 rfl ?_
          exact k_iret C dX11_tugsOf_52 hr (k_p1 h)
        · replace h := k_if_f h c19
          refine k_iload_n C dX11_tugsOf_22 0 rfl ?_
          refine k_iload_n C dX11_tugsOf_23 3 rfl ?_
          obtain ⟨v24, h24, h⟩ := k_bd_e h
          refine k_goI (k_runS C dX11_tugsOf_24 (e_X11_digitOf (d := 2) (Nat.le_refl _) h24) k_lX11_425 k_yX11_digitOf (by omega) rfl (Nat.le_of_ble_eq_true rfl)) ?_
          refine k_istore C dX11_tugsOf_27 (by decide) [1, 2, 3, 4, 0] (L' := [(0, .int x0), (1, .int x1), (2, .int v2_17), (3, .int v3_17), (4, .int v24)]) rfl ?_
          refine k_iload C dX11_tugsOf_29 4 rfl ?_
          refine k_iload_n C dX11_tugsOf_31 1 rfl ?_
          refine k_icmp_lt C dX11_tugsOf_32 (tgt := 37) (by decide) (fun c32 => ?_) (fun c32 => ?_)
          · replace h := k_if_t h c32
            refine k_iload_n C dX11_tugsOf_37 2 rfl ?_
            refine k_iload_n C dX11_tugsOf_38 3 rfl ?_
            refine k_iload C dX11_tugsOf_39 4 rfl ?_
            obtain ⟨v41, h41, h⟩ := k_bd_e h
            refine k_goI (k_runS C dX11_tugsOf_41 (e_X11_withSign (d := 2) (Nat.le_refl _) h41) k_lX11_364 k_yX11_withSign (by omega) rfl (Nat.le_of_ble_eq_true rfl)) ?_
            refine k_istore_n C dX11_tugsOf_44 (by decide) [1, 2, 0, 3, 4] (L' := [(0, .int x0), (1, .int x1), (2, .int v41), (3, .int v3_17), (4, .int v24)]) rfl ?_
            refine k_iinc C dX11_tugsOf_45 3 rfl (v := 1) rfl (by decide) [1, 2, 3, 0, 4] (L' := fun z9 => [(0, .int x0), (1, .int x1), (2, .int v41), (3, .int z9), (4, .int v24)]) (fun z9 => rfl) (fun y45 ey45 => ?_)
            replace h := k_nm_e h y45 ey45
            refine k_goto C dX11_tugsOf_48 (tgt := 17) (by decide) ?_
            refine k_sub (L' := [(0, .int x0), (1, .int x1), (2, .int v41), (3, .int y45)]) [0, 1, 2, 3] rfl ?_
            exact ih17 _ _ h
          · replace h := k_if_f h c32
            refine k_iconst C dX11_tugsOf_35 (v := -1) rfl ?_
            exact k_iret C dX11_tugsOf_36 hr (k_p1 h)
    exact K17 _ _ _ h
  · replace h := k_if_t h c8
    refine k_iconst C dX11_tugsOf_11 (v := -1) rfl ?_
    exact k_iret C dX11_tugsOf_12 hr (k_p1 h)
def f_X11_placeOf (x0 : Int64) (x2 : Int32) (x3 : Int32) : Option (Int32) :=
  some ((o_lushr x0 ((3 : Int32) * ((x2 * (4 : Int32)) + x3))).toInt32 &&& (7 : Int32))
set_option maxHeartbeats 4000000 in
set_option maxRecDepth 100000 in
theorem e_X11_placeOf {l : Launch} {w : k_WC} {d : Nat} (hd : 2 ≤ d) {x0 : Int64} {x2 : Int32} {x3 : Int32}  {σ : k_St} {r : Int32} (h : f_X11_placeOf x0 x2 x3 = some r) : k_EI l (k_PX w) yX11_placeOf cX11_placeOf 4 (some .int) d [.long x0, .int x2, .int x3] σ r σ := by
  refine k_of (own := RX11) rfl (by decide) (Nat.le_of_ble_eq_true rfl) (fun X hX C hr => ?_)
  show k_K (k_PX w) X (k_MQ X (k_Qi (k_PX w) r σ) (k_PX w).2.2.1) 0 [(0, .long x0), (2, .int x2), (3, .int x3)] [] σ
  unfold f_X11_placeOf at h
  refine k_lload_n C dX11_placeOf_0 0 rfl ?_
  refine k_iconst C dX11_placeOf_1 (v := 3) rfl ?_
  refine k_iload_n C dX11_placeOf_2 1 rfl ?_
  refine k_iconst C dX11_placeOf_3 (v := 4) rfl ?_
  refine k_imul C dX11_placeOf_4 ?_
  refine k_iload_n C dX11_placeOf_5 2 rfl ?_
  refine k_iadd C dX11_placeOf_6 ?_
  refine k_imul C dX11_placeOf_7 ?_
  refine k_lushr C dX11_placeOf_8 ?_
  refine k_l2i C dX11_placeOf_9 ?_
  refine k_bipush C dX11_placeOf_10 (v := 7) rfl ?_
  refine k_iand C dX11_placeOf_12 ?_
  exact k_iret C dX11_placeOf_13 hr (k_p1 h)
def f_X11_withPlace (x0 : Int64) (x2 : Int32) (x3 : Int32) (x4 : Int32) : Option (Int64) :=
  k_nm (((3 : Int32) * ((x2 * (4 : Int32)) + x3))) fun y7 =>
  some ((x0 &&& ((o_lshl (7 : Int64) y7) ^^^ (-1 : Int64))) ||| (o_lshl (x4 &&& (7 : Int32)).toInt64 y7))
set_option maxHeartbeats 4000000 in
set_option maxRecDepth 100000 in
theorem e_X11_withPlace {l : Launch} {w : k_WC} {d : Nat} (hd : 2 ≤ d) {x0 : Int64} {x2 : Int32} {x3 : Int32} {x4 : Int32}  {σ : k_St} {r : Int64} (h : f_X11_withPlace x0 x2 x3 x4 = some r) : k_EL l (k_PX w) yX11_withPlace cX11_withPlace 6 d [.long x0, .int x2, .int x3, .int x4] σ r σ := by
  refine k_of (own := RX11) rfl (by decide) (Nat.le_of_ble_eq_true rfl) (fun X hX C hr => ?_)
  show k_K (k_PX w) X (k_MQ X (k_Ql (k_PX w) r σ) (k_PX w).2.2.1) 0 [(0, .long x0), (2, .int x2), (3, .int x3), (4, .int x4)] [] σ
  unfold f_X11_withPlace at h
  refine k_iconst C dX11_withPlace_0 (v := 3) rfl ?_
  refine k_iload_n C dX11_withPlace_1 1 rfl ?_
  refine k_iconst C dX11_withPlace_2 (v := 4) rfl ?_
  refine k_imul C dX11_withPlace_3 ?_
  refine k_iload_n C dX11_withPlace_4 2 rfl ?_
  refine k_iadd C dX11_withPlace_5 ?_
  refine k_imul C dX11_withPlace_6 ?_
  refine k_topi (fun y7 ey7 => ?_)
  replace h := k_nm_e h y7 ey7
  refine k_istore C dX11_withPlace_7 (by decide) [1, 2, 3, 4, 0] (L' := [(0, .long x0), (2, .int x2), (3, .int x3), (4, .int x4), (5, .int y7)]) rfl ?_
  refine k_lload_n C dX11_withPlace_9 0 rfl ?_
  refine k_ldc2 C dX11_withPlace_10 k_cX11_428 ?_
  refine k_iload C dX11_withPlace_13 4 rfl ?_
  refine k_lshl C dX11_withPlace_15 ?_
  refine k_ldc2 C dX11_withPlace_16 k_cX11_260 ?_
  refine k_lxor C dX11_withPlace_19 ?_
  refine k_land C dX11_withPlace_20 ?_
  refine k_iload C dX11_withPlace_21 3 rfl ?_
  refine k_bipush C dX11_withPlace_23 (v := 7) rfl ?_
  refine k_iand C dX11_withPlace_25 ?_
  refine k_i2l C dX11_withPlace_26 ?_
  refine k_iload C dX11_withPlace_27 4 rfl ?_
  refine k_lshl C dX11_withPlace_29 ?_
  refine k_lor C dX11_withPlace_30 ?_
  exact k_lret C dX11_withPlace_31 hr (k_p1 h)
