abbrev k_WC : Type := va_G × (Nat → Nat) × ClassId × ClassId × ClassId × (Nat → Nat)
def sc_len : List Nat := [4, 2, 5]
def sc_byt : List (List Int32) := [[119, 115, 108, 102], [107, 116], [102, 112, 115, 108, 119]]
def sc_n (i : Nat) : Nat := sc_len.getD i 0
def sc_v (i j : Nat) : Int32 := (sc_byt.getD i []).getD j 0
def su_n (k : Nat) : Nat := ([4, 4, 2, 2] : List Nat).getD k 0
def su_v (k j : Nat) : Int32 := (([[0, 0, 0, 0], [9, 3, 3, 99], [1, 0], [4, 99]] : List (List Int32)).getD k []).getD j 0
def k_FX (w : k_WC) (U : State) (H : Heap) : Prop := vk_S 3 sc_len sc_byt w.2.2.2.2.2 (fun i => w.2.2.2.2.2 (i + 3)) (fun a => ∃ c, c < 50 ∧ a = w.2.1 c) U H ∧ vk_R RX2 92 "wslf" (w.2.2.2.2.2 0) U ∧ vk_R RX2 66 "kt" (w.2.2.2.2.2 1) U ∧ vk_R RX10 153 "fpslw" (w.2.2.2.2.2 2) U ∧ (∀ k, k < 4 → va_T .int (w.2.2.2.2.2 (k + 6)) (su_n k) (fun j => .int (su_v k j)) (fun a => ∃ c, c < 50 ∧ a = w.2.1 c) U H) ∧ va_Z RX2 "PLACE_LEAST" "[I" (.ref (w.2.2.2.2.2 6)) (fun a => ∃ c, c < 50 ∧ a = w.2.1 c) U H ∧ va_Z RX2 "PLACE_MOST" "[I" (.ref (w.2.2.2.2.2 7)) (fun a => ∃ c, c < 50 ∧ a = w.2.1 c) U H ∧ va_Z RX2 "LINE_LEAST" "[I" (.ref (w.2.2.2.2.2 8)) (fun a => ∃ c, c < 50 ∧ a = w.2.1 c) U H ∧ va_Z RX2 "LINE_MOST" "[I" (.ref (w.2.2.2.2.2 9)) (fun a => ∃ c, c < 50 ∧ a = w.2.1 c) U H ∧ va_Z "java/lang/String" "COMPACT_STRINGS" "Z" (.int 1) (fun a => ∃ c, c < 50 ∧ a = w.2.1 c) U H
theorem k_inT {ws : List Cond} (is : List Nat) (h : ws = is.filterMap (fun i => lw_tbl[i]?)) (hg : ws.all goodWord = true) : ∀ w ∈ ws, w ∈ k_TT := fun w hw => by
  have h1 := List.all_eq_true.mp hg w hw
  rw [h] at hw
  obtain ⟨i, -, hi⟩ := List.mem_filterMap.mp hw
  exact k_tt (List.mem_of_getElem? hi) h1
def k_wX (w : k_WC) (σ : k_St) : va_W := [(w.2.1 0, .inr (10, [.ref (w.2.1 1), .ref (w.2.1 3), .ref (w.2.1 7), .ref (w.2.1 12), .ref (w.2.1 16), .ref (w.2.1 23), .ref (w.2.1 30), .ref (w.2.1 33), .ref (w.2.1 39), .ref (w.2.1 41), .ref (w.2.1 42), .ref (w.2.1 48), .ref (w.2.1 49), .int (σ.1 0 13), .int (σ.1 0 14), .int (σ.1 0 15), .int (σ.1 0 16)])), (w.2.1 1, .inr (7, [.ref (w.2.1 2), .int (σ.1 1 1)])), (w.2.1 2, .inl (w.2.2.1, 160, .inl (σ.1 2))), (w.2.1 3, .inr (2, [.ref (w.2.1 4), .int (σ.1 3 1), .int (σ.1 3 2), .int (σ.1 3 3), .ref (w.2.1 5), .ref (w.2.1 6), .int (σ.1 3 6), .int (σ.1 3 7)])), (w.2.1 4, .inl (w.2.2.1, 160, .inl (σ.1 4))), (w.2.1 5, .inl (w.2.2.1, 24, .inl (σ.1 5))), (w.2.1 6, .inl (w.2.2.1, 2, .inl (σ.1 6))), (w.2.1 7, .inr (9, [.ref (w.2.1 8), .int (σ.1 7 1), .int (σ.1 7 2), .int (σ.1 7 3), .int (σ.1 7 4), .int (σ.1 7 5), .ref (w.2.1 9), .ref (w.2.1 10), .ref (w.2.1 11), .int (σ.1 7 9), .int (σ.1 7 10)])), (w.2.1 8, .inl (w.2.2.1, 160, .inl (σ.1 8))), (w.2.1 9, .inl (w.2.2.1, 640, .inl (σ.1 9))), (w.2.1 10, .inl (w.2.2.1, 4, .inl (σ.1 10))), (w.2.1 11, .inl (w.2.2.1, 5, .inl (σ.1 11))), (w.2.1 12, .inr (1, [.int (σ.1 12 0), .int (σ.1 12 1), .int (σ.1 12 2), .ref (w.2.1 13), .ref (w.2.1 14), .ref (w.2.1 15)])), (w.2.1 13, .inl (w.2.2.1, 24, .inl (σ.1 13))), (w.2.1 14, .inl (w.2.2.1, 6, .inl (σ.1 14))), (w.2.1 15, .inl (w.2.2.1, 6, .inl (σ.1 15))), (w.2.1 16, .inr (5, [.int (σ.1 16 0), .long (σ.2 16 1), .long (σ.2 16 2), .int (σ.1 16 3), .int (σ.1 16 4), .int (σ.1 16 5), .int (σ.1 16 6), .ref (w.2.1 17), .ref (w.2.1 18), .ref (w.2.1 19), .ref (w.2.1 20), .ref (w.2.1 21), .ref (w.2.1 22)])), (w.2.1 17, .inl (w.2.2.1, 40, .inl (σ.1 17))), (w.2.1 18, .inl (w.2.2.1, 40, .inl (σ.1 18))), (w.2.1 19, .inl (w.2.2.1, 40, .inl (σ.1 19))), (w.2.1 20, .inl (w.2.2.1, 40, .inl (σ.1 20))), (w.2.1 21, .inl (w.2.2.2.1, 40, .inr (.inl (σ.2 21)))), (w.2.1 22, .inl (w.2.2.2.1, 40, .inr (.inl (σ.2 22)))), (w.2.1 23, .inr (5, [.int (σ.1 23 0), .long (σ.2 23 1), .long (σ.2 23 2), .int (σ.1 23 3), .int (σ.1 23 4), .int (σ.1 23 5), .int (σ.1 23 6), .ref (w.2.1 24), .ref (w.2.1 25), .ref (w.2.1 26), .ref (w.2.1 27), .ref (w.2.1 28), .ref (w.2.1 29)])), (w.2.1 24, .inl (w.2.2.1, 40, .inl (σ.1 24))), (w.2.1 25, .inl (w.2.2.1, 40, .inl (σ.1 25))), (w.2.1 26, .inl (w.2.2.1, 40, .inl (σ.1 26))), (w.2.1 27, .inl (w.2.2.1, 40, .inl (σ.1 27))), (w.2.1 28, .inl (w.2.2.2.1, 40, .inr (.inl (σ.2 28)))), (w.2.1 29, .inl (w.2.2.2.1, 40, .inr (.inl (σ.2 29)))), (w.2.1 30, .inr (0, [.ref (w.2.1 12), .ref (w.2.1 16), .ref (w.2.1 31), .ref (w.2.1 32)])), (w.2.1 31, .inl (w.2.2.1, 16, .inl (σ.1 31))), (w.2.1 32, .inl (w.2.2.1, 16, .inl (σ.1 32))), (w.2.1 33, .inr (3, [.long (σ.2 33 0), .int (σ.1 33 1), .long (σ.2 33 2), .ref (w.2.1 12), .ref (w.2.1 16), .ref (w.2.1 34), .ref (w.2.1 35), .ref (w.2.1 36), .ref (w.2.1 37), .ref (w.2.1 38), .int (σ.1 33 10), .int (σ.1 33 11)])), (w.2.1 34, .inl (w.2.2.2.1, 64, .inr (.inl (σ.2 34)))), (w.2.1 35, .inl (w.2.2.2.1, 160, .inr (.inl (σ.2 35)))), (w.2.1 36, .inl (w.2.2.1, 6, .inl (σ.1 36))), (w.2.1 37, .inl (w.2.2.1, 6, .inl (σ.1 37))), (w.2.1 38, .inl (w.2.2.2.1, 6, .inr (.inl (σ.2 38)))), (w.2.1 39, .inr (8, [.int (σ.1 39 0), .int (σ.1 39 1), .ref (w.2.1 40)])), (w.2.1 40, .inl (w.2.2.1, 16, .inl (σ.1 40))), (w.2.1 41, .inr (6, [.int (σ.1 41 0), .int (σ.1 41 1), .int (σ.1 41 2)])), (w.2.1 42, .inr (4, [.ref (w.2.1 43), .ref (w.2.1 44), .ref (w.2.1 12), .ref (w.2.1 30), .ref (w.2.1 41), .ref (w.2.1 45), .ref (w.2.1 46), .ref (w.2.1 47)])), (w.2.1 43, .inl (w.2.2.1, 4, .inl (σ.1 43))), (w.2.1 44, .inl (w.2.2.2.1, 4, .inr (.inl (σ.2 44)))), (w.2.1 45, .inl (w.2.2.2.1, 16, .inr (.inl (σ.2 45)))), (w.2.1 46, .inl (w.2.2.2.1, 16, .inr (.inl (σ.2 46)))), (w.2.1 47, .inl (w.2.2.2.1, 16, .inr (.inl (σ.2 47)))), (w.2.1 48, .inl (w.2.2.1, 20, .inl (σ.1 48))), (w.2.1 49, .inl (w.2.2.1, 20, .inl (σ.1 49)))]
def k_PX (w : k_WC) : k_WP := (w.1, k_wX w, (fun a => ∃ c, c < 50 ∧ a = w.2.1 c), [(w.2.2.1, .int), (w.2.2.2.1, .long), (w.2.2.2.2.1, .boolean)], k_FX w)
def k_nX (c : Nat) : Nat := match c with
  | 2 => 160
  | 4 => 160
  | 5 => 24
  | 6 => 2
  | 8 => 160
  | 9 => 640
  | 10 => 4
  | 11 => 5
  | 13 => 24
  | 14 => 6
  | 15 => 6
  | 17 => 40
  | 18 => 40
  | 19 => 40
  | 20 => 40
  | 21 => 40
  | 22 => 40
  | 24 => 40
  | 25 => 40
  | 26 => 40
  | 27 => 40
  | 28 => 40
  | 29 => 40
  | 31 => 16
  | 32 => 16
  | 34 => 64
  | 35 => 160
  | 36 => 6
  | 37 => 6
  | 38 => 6
  | 40 => 16
  | 43 => 4
  | 44 => 4
  | 45 => 16
  | 46 => 16
  | 47 => 16
  | 48 => 20
  | 49 => 20
  | _ => 0
def k_wM (w : k_WC) (σ : k_St) : va_W := [(w.2.1 0, .inr (11, [.int (σ.1 0 0), .ref (w.2.1 1), .int (σ.1 0 2), .int (σ.1 0 3), .int (σ.1 0 4), .int (σ.1 0 5), .ref (w.2.1 2), .ref (w.2.1 3), .ref (w.2.1 4), .ref (w.2.1 5), .ref (w.2.1 6), .ref (w.2.1 7), .ref (w.2.1 8), .int (σ.1 0 13), .int (σ.1 0 14), .ref (w.2.1 9), .ref (w.2.1 10), .ref (w.2.1 11), .ref (w.2.1 12), .int (σ.1 0 19), .ref (w.2.1 13), .int (σ.1 0 21), .int (σ.1 0 22), .int (σ.1 0 23), .ref (w.2.1 14), .ref (w.2.1 15), .int (σ.1 0 26), .int (σ.1 0 27), .int (σ.1 0 28), .int (σ.1 0 29), .int (σ.1 0 30), .ref (w.2.1 16), .ref (w.2.1 17), .ref (w.2.1 18), .int (σ.1 0 34), .int (σ.1 0 35), .ref (w.2.1 19), .ref (w.2.1 20), .ref (w.2.1 21), .ref (w.2.1 22), .ref (w.2.1 23), .ref (w.2.1 24), .ref (w.2.1 25), .ref (w.2.1 26), .ref (w.2.1 27), .ref (w.2.1 28), .ref (w.2.1 29), .ref (w.2.1 30), .ref (w.2.1 31), .ref (w.2.1 32), .ref (w.2.1 33), .ref (w.2.1 34), .int (σ.1 0 52), .ref (w.2.1 35), .ref (w.2.1 36), .ref (w.2.1 37), .ref (w.2.1 38), .ref (w.2.1 39), .ref (w.2.1 40), .int (σ.1 0 59), .long (σ.2 0 60), .ref (w.2.1 41), .ref (w.2.1 42), .ref (w.2.1 43), .ref (w.2.1 44), .ref (w.2.1 45), .ref (w.2.1 46), .int (σ.1 0 67), .int (σ.1 0 68), .int (σ.1 0 69), .int (σ.1 0 70), .int (σ.1 0 71), .long (σ.2 0 72)])), (w.2.1 1, .inl (w.2.2.1, 160, .inl (σ.1 1))), (w.2.1 2, .inl (w.2.2.1, 1700, .inl (σ.1 2))), (w.2.1 3, .inl (w.2.2.1, 1700, .inl (σ.1 3))), (w.2.1 4, .inl (w.2.2.1, 5, .inl (σ.1 4))), (w.2.1 5, .inl (w.2.2.1, 5, .inl (σ.1 5))), (w.2.1 6, .inl (w.2.2.1, 450, .inl (σ.1 6))), (w.2.1 7, .inl (w.2.2.1, 450, .inl (σ.1 7))), (w.2.1 8, .inl (w.2.2.1, 450, .inl (σ.1 8))), (w.2.1 9, .inl (w.2.2.1, 5, .inl (σ.1 9))), (w.2.1 10, .inl (w.2.2.1, 80, .inl (σ.1 10))), (w.2.1 11, .inl (w.2.2.1, 24, .inl (σ.1 11))), (w.2.1 12, .inl (w.2.2.1, 2, .inl (σ.1 12))), (w.2.1 13, .inl (w.2.2.1, 24, .inl (σ.1 13))), (w.2.1 14, .inl (w.2.2.1, 4, .inl (σ.1 14))), (w.2.1 15, .inl (w.2.2.1, 16, .inl (σ.1 15))), (w.2.1 16, .inl (w.2.2.1, 4, .inl (σ.1 16))), (w.2.1 17, .inl (w.2.2.1, 96, .inl (σ.1 17))), (w.2.1 18, .inl (w.2.2.1, 16, .inl (σ.1 18))), (w.2.1 19, .inl (w.2.2.1, 16, .inl (σ.1 19))), (w.2.1 20, .inl (w.2.2.1, 4, .inl (σ.1 20))), (w.2.1 21, .inl (w.2.2.1, 256, .inl (σ.1 21))), (w.2.1 22, .inl (w.2.2.1, 4, .inl (σ.1 22))), (w.2.1 23, .inl (w.2.2.1, 64, .inl (σ.1 23))), (w.2.1 24, .inl (w.2.2.2.2.1, 4, .inl (σ.1 24))), (w.2.1 25, .inl (w.2.2.1, 4, .inl (σ.1 25))), (w.2.1 26, .inl (w.2.2.1, 96, .inl (σ.1 26))), (w.2.1 27, .inl (w.2.2.2.1, 192, .inr (.inl (σ.2 27)))), (w.2.1 28, .inl (w.2.2.1, 4, .inl (σ.1 28))), (w.2.1 29, .inl (w.2.2.1, 4, .inl (σ.1 29))), (w.2.1 30, .inl (w.2.2.1, 4, .inl (σ.1 30))), (w.2.1 31, .inl (w.2.2.1, 4, .inl (σ.1 31))), (w.2.1 32, .inl (w.2.2.1, 4, .inl (σ.1 32))), (w.2.1 33, .inl (w.2.2.1, 20, .inl (σ.1 33))), (w.2.1 34, .inl (w.2.2.1, 20, .inl (σ.1 34))), (w.2.1 35, .inl (w.2.2.1, 40, .inl (σ.1 35))), (w.2.1 36, .inl (w.2.2.1, 40, .inl (σ.1 36))), (w.2.1 37, .inl (w.2.2.1, 40, .inl (σ.1 37))), (w.2.1 38, .inl (w.2.2.2.1, 40, .inr (.inl (σ.2 38)))), (w.2.1 39, .inl (w.2.2.1, 640, .inl (σ.1 39))), (w.2.1 40, .inl (w.2.2.1, 40, .inl (σ.1 40))), (w.2.1 41, .inl (w.2.2.1, 4, .inl (σ.1 41))), (w.2.1 42, .inl (w.2.2.1, 16, .inl (σ.1 42))), (w.2.1 43, .inl (w.2.2.1, 120, .inl (σ.1 43))), (w.2.1 44, .inl (w.2.2.1, 640, .inl (σ.1 44))), (w.2.1 45, .inl (w.2.2.2.1, 40, .inr (.inl (σ.2 45)))), (w.2.1 46, .inl (w.2.2.1, 40, .inl (σ.1 46)))]
def k_PM (w : k_WC) : k_WP := (w.1, k_wM w, (fun a => ∃ c, c < 47 ∧ a = w.2.1 c), [(w.2.2.1, .int), (w.2.2.2.1, .long), (w.2.2.2.2.1, .boolean)], fun _ _ => True)
def k_nM (c : Nat) : Nat := match c with
  | 1 => 160
  | 2 => 1700
  | 3 => 1700
  | 4 => 5
  | 5 => 5
  | 6 => 450
  | 7 => 450
  | 8 => 450
  | 9 => 5
  | 10 => 80
  | 11 => 24
  | 12 => 2
  | 13 => 24
  | 14 => 4
  | 15 => 16
  | 16 => 4
  | 17 => 96
  | 18 => 16
  | 19 => 16
  | 20 => 4
  | 21 => 256
  | 22 => 4
  | 23 => 64
  | 24 => 4
  | 25 => 4
  | 26 => 96
  | 27 => 192
  | 28 => 4
  | 29 => 4
  | 30 => 4
  | 31 => 4
  | 32 => 4
  | 33 => 20
  | 34 => 20
  | 35 => 40
  | 36 => 40
  | 37 => 40
  | 38 => 40
  | 39 => 640
  | 40 => 40
  | 41 => 4
  | 42 => 16
  | 43 => 120
  | 44 => 640
  | 45 => 40
  | 46 => 40
  | _ => 0
set_option maxRecDepth 100000 in
theorem k_inX0 : ∀ w ∈ u_ws RX0 TX0 4, w ∈ k_TT := k_inT [328, 330, 332, 334] (by decide +kernel) (by decide +kernel)
set_option maxRecDepth 100000 in
theorem k_inX1 : ∀ w ∈ u_ws RX1 TX1 6, w ∈ k_TT := k_inT [245, 247, 249, 251, 253, 255] (by decide +kernel) (by decide +kernel)
set_option maxRecDepth 100000 in
theorem k_inX2 : ∀ w ∈ u_ws RX2 TX2 8, w ∈ k_TT := k_inT [182, 184, 186, 188, 174, 176, 178, 180] (by decide +kernel) (by decide +kernel)
set_option maxRecDepth 100000 in
theorem k_inX4 : ∀ w ∈ u_ws RX4 TX4 12, w ∈ k_TT := k_inT [358, 360, 362, 364, 366, 368, 370, 372, 374, 376, 378, 380] (by decide +kernel) (by decide +kernel)
set_option maxRecDepth 100000 in
theorem k_inX5 : ∀ w ∈ u_ws RX5 TX5 8, w ∈ k_TT := k_inT [439, 441, 443, 445, 447, 449, 451, 453] (by decide +kernel) (by decide +kernel)
set_option maxRecDepth 100000 in
theorem k_inX6 : ∀ w ∈ u_ws RX6 TX6 13, w ∈ k_TT := k_inT [290, 292, 294, 296, 298, 300, 302, 304, 306, 308, 310, 312, 314] (by decide +kernel) (by decide +kernel)
set_option maxRecDepth 100000 in
theorem k_inX7 : ∀ w ∈ u_ws RX7 TX7 3, w ∈ k_TT := k_inT [409, 411, 413] (by decide +kernel) (by decide +kernel)
set_option maxRecDepth 100000 in
theorem k_inX8 : ∀ w ∈ u_ws RX8 TX8 2, w ∈ k_TT := k_inT [151, 153] (by decide +kernel) (by decide +kernel)
set_option maxRecDepth 100000 in
theorem k_inX9 : ∀ w ∈ u_ws RX9 TX9 3, w ∈ k_TT := k_inT [393, 395, 397] (by decide +kernel) (by decide +kernel)
set_option maxRecDepth 100000 in
theorem k_inX10 : ∀ w ∈ u_ws RX10 TX10 11, w ∈ k_TT := k_inT [220, 221, 222, 223, 206, 208, 210, 212, 214, 216, 218] (by decide +kernel) (by decide +kernel)
set_option maxRecDepth 100000 in
theorem k_inX11 : ∀ w ∈ u_ws RX11 TX11 17, w ∈ k_TT := k_inT [473, 475, 477, 479, 481, 483, 485, 487, 489, 491, 493, 495, 497, 499, 501, 503, 505] (by decide +kernel) (by decide +kernel)
set_option maxRecDepth 100000 in
theorem k_inX12 : ∀ w ∈ u_ws RX12 TX12 73, w ∈ k_TT := k_inT [1582, 1584, 1586, 1588, 1590, 1592, 1594, 1596, 1598, 1600, 1602, 1604, 1606, 1608, 1610, 1612, 1614, 1616, 1618, 1620, 1622, 1624, 1626, 1628, 1630, 1632, 1634, 1636, 1638, 1640, 1642, 1644, 1646, 1648, 1650, 1652, 1654, 1656, 1658, 1660, 1662, 1664, 1666, 1668, 1670, 1672, 1674, 1676, 1678, 1680, 1682, 1684, 1686, 1688, 1690, 1692, 1694, 1696, 1698, 1700, 1702, 1704, 1706, 1708, 1710, 1712, 1714, 1716, 1718, 1720, 1722, 1724, 1726] (by decide +kernel) (by decide +kernel)
theorem k_oX0 (w : k_WC) : k_OB (k_PX w) 0 (w.2.1 0) RX11 := ⟨10, TX11, 17, rfl, fun ρ => ⟨_, rfl⟩⟩
theorem k_gX0_0 (w : k_WC) : k_OG (k_PX w) 0 (w.2.1 0) 0 RX11 TX11 17 (fun _ => .ref (w.2.1 1)) := ⟨k_inX11, by decide, 10, rfl, fun ρ => ⟨_, rfl, rfl⟩⟩
theorem k_gX0_1 (w : k_WC) : k_OG (k_PX w) 0 (w.2.1 0) 1 RX11 TX11 17 (fun _ => .ref (w.2.1 3)) := ⟨k_inX11, by decide, 10, rfl, fun ρ => ⟨_, rfl, rfl⟩⟩
theorem k_gX0_2 (w : k_WC) : k_OG (k_PX w) 0 (w.2.1 0) 2 RX11 TX11 17 (fun _ => .ref (w.2.1 7)) := ⟨k_inX11, by decide, 10, rfl, fun ρ => ⟨_, rfl, rfl⟩⟩
theorem k_gX0_3 (w : k_WC) : k_OG (k_PX w) 0 (w.2.1 0) 3 RX11 TX11 17 (fun _ => .ref (w.2.1 12)) := ⟨k_inX11, by decide, 10, rfl, fun ρ => ⟨_, rfl, rfl⟩⟩
theorem k_gX0_4 (w : k_WC) : k_OG (k_PX w) 0 (w.2.1 0) 4 RX11 TX11 17 (fun _ => .ref (w.2.1 16)) := ⟨k_inX11, by decide, 10, rfl, fun ρ => ⟨_, rfl, rfl⟩⟩
theorem k_gX0_5 (w : k_WC) : k_OG (k_PX w) 0 (w.2.1 0) 5 RX11 TX11 17 (fun _ => .ref (w.2.1 23)) := ⟨k_inX11, by decide, 10, rfl, fun ρ => ⟨_, rfl, rfl⟩⟩
theorem k_gX0_6 (w : k_WC) : k_OG (k_PX w) 0 (w.2.1 0) 6 RX11 TX11 17 (fun _ => .ref (w.2.1 30)) := ⟨k_inX11, by decide, 10, rfl, fun ρ => ⟨_, rfl, rfl⟩⟩
theorem k_gX0_7 (w : k_WC) : k_OG (k_PX w) 0 (w.2.1 0) 7 RX11 TX11 17 (fun _ => .ref (w.2.1 33)) := ⟨k_inX11, by decide, 10, rfl, fun ρ => ⟨_, rfl, rfl⟩⟩
theorem k_gX0_8 (w : k_WC) : k_OG (k_PX w) 0 (w.2.1 0) 8 RX11 TX11 17 (fun _ => .ref (w.2.1 39)) := ⟨k_inX11, by decide, 10, rfl, fun ρ => ⟨_, rfl, rfl⟩⟩
theorem k_gX0_9 (w : k_WC) : k_OG (k_PX w) 0 (w.2.1 0) 9 RX11 TX11 17 (fun _ => .ref (w.2.1 41)) := ⟨k_inX11, by decide, 10, rfl, fun ρ => ⟨_, rfl, rfl⟩⟩
theorem k_gX0_10 (w : k_WC) : k_OG (k_PX w) 0 (w.2.1 0) 10 RX11 TX11 17 (fun _ => .ref (w.2.1 42)) := ⟨k_inX11, by decide, 10, rfl, fun ρ => ⟨_, rfl, rfl⟩⟩
theorem k_gX0_11 (w : k_WC) : k_OG (k_PX w) 0 (w.2.1 0) 11 RX11 TX11 17 (fun _ => .ref (w.2.1 48)) := ⟨k_inX11, by decide, 10, rfl, fun ρ => ⟨_, rfl, rfl⟩⟩
theorem k_gX0_12 (w : k_WC) : k_OG (k_PX w) 0 (w.2.1 0) 12 RX11 TX11 17 (fun _ => .ref (w.2.1 49)) := ⟨k_inX11, by decide, 10, rfl, fun ρ => ⟨_, rfl, rfl⟩⟩
theorem k_gX0_13 (w : k_WC) : k_OG (k_PX w) 0 (w.2.1 0) 13 RX11 TX11 17 (fun σ => .int (k_rd σ 0 13)) := ⟨k_inX11, by decide, 10, rfl, fun ρ => ⟨_, rfl, rfl⟩⟩
theorem k_pX0_13 (w : k_WC) : k_OP (k_PX w) 0 (w.2.1 0) 13 RX11 TX11 17 .int := ⟨k_inX11, by decide, rfl, by decide +kernel, nmX11, ⟨tyX11, tyX11_ok⟩, 10, rfl, fun ρ => ⟨_, rfl, by simp, fun x _ => rfl, fun x h => by cases h⟩⟩
theorem k_gX0_14 (w : k_WC) : k_OG (k_PX w) 0 (w.2.1 0) 14 RX11 TX11 17 (fun σ => .int (k_rd σ 0 14)) := ⟨k_inX11, by decide, 10, rfl, fun ρ => ⟨_, rfl, rfl⟩⟩
theorem k_pX0_14 (w : k_WC) : k_OP (k_PX w) 0 (w.2.1 0) 14 RX11 TX11 17 .boolean := ⟨k_inX11, by decide, rfl, by decide +kernel, nmX11, ⟨tyX11, tyX11_ok⟩, 10, rfl, fun ρ => ⟨_, rfl, by simp, fun x _ => rfl, fun x h => by cases h⟩⟩
theorem k_gX0_15 (w : k_WC) : k_OG (k_PX w) 0 (w.2.1 0) 15 RX11 TX11 17 (fun σ => .int (k_rd σ 0 15)) := ⟨k_inX11, by decide, 10, rfl, fun ρ => ⟨_, rfl, rfl⟩⟩
theorem k_pX0_15 (w : k_WC) : k_OP (k_PX w) 0 (w.2.1 0) 15 RX11 TX11 17 .boolean := ⟨k_inX11, by decide, rfl, by decide +kernel, nmX11, ⟨tyX11, tyX11_ok⟩, 10, rfl, fun ρ => ⟨_, rfl, by simp, fun x _ => rfl, fun x h => by cases h⟩⟩
theorem k_gX0_16 (w : k_WC) : k_OG (k_PX w) 0 (w.2.1 0) 16 RX11 TX11 17 (fun σ => .int (k_rd σ 0 16)) := ⟨k_inX11, by decide, 10, rfl, fun ρ => ⟨_, rfl, rfl⟩⟩
theorem k_pX0_16 (w : k_WC) : k_OP (k_PX w) 0 (w.2.1 0) 16 RX11 TX11 17 .boolean := ⟨k_inX11, by decide, rfl, by decide +kernel, nmX11, ⟨tyX11, tyX11_ok⟩, 10, rfl, fun ρ => ⟨_, rfl, by simp, fun x _ => rfl, fun x h => by cases h⟩⟩
theorem k_oX1 (w : k_WC) : k_OB (k_PX w) 1 (w.2.1 1) RX8 := ⟨7, TX8, 2, rfl, fun ρ => ⟨_, rfl⟩⟩
theorem k_gX1_0 (w : k_WC) : k_OG (k_PX w) 1 (w.2.1 1) 0 RX8 TX8 2 (fun _ => .ref (w.2.1 2)) := ⟨k_inX8, by decide, 7, rfl, fun ρ => ⟨_, rfl, rfl⟩⟩
theorem k_gX1_1 (w : k_WC) : k_OG (k_PX w) 1 (w.2.1 1) 1 RX8 TX8 2 (fun σ => .int (k_rd σ 1 1)) := ⟨k_inX8, by decide, 7, rfl, fun ρ => ⟨_, rfl, rfl⟩⟩
theorem k_pX1_1 (w : k_WC) : k_OP (k_PX w) 1 (w.2.1 1) 1 RX8 TX8 2 .int := ⟨k_inX8, by decide, rfl, by decide +kernel, nmX8, ⟨tyX8, tyX8_ok⟩, 7, rfl, fun ρ => ⟨_, rfl, by simp, fun x _ => rfl, fun x h => by cases h⟩⟩
theorem k_aX2 (w : k_WC) : k_AI (k_PX w) .int 2 (w.2.1 2) 160 := ⟨0, _, rfl, fun ρ => ⟨rfl, fun f => rfl⟩⟩
theorem k_oX3 (w : k_WC) : k_OB (k_PX w) 3 (w.2.1 3) RX2 := ⟨2, TX2, 8, rfl, fun ρ => ⟨_, rfl⟩⟩
theorem k_gX3_0 (w : k_WC) : k_OG (k_PX w) 3 (w.2.1 3) 0 RX2 TX2 8 (fun _ => .ref (w.2.1 4)) := ⟨k_inX2, by decide, 2, rfl, fun ρ => ⟨_, rfl, rfl⟩⟩
theorem k_gX3_1 (w : k_WC) : k_OG (k_PX w) 3 (w.2.1 3) 1 RX2 TX2 8 (fun σ => .int (k_rd σ 3 1)) := ⟨k_inX2, by decide, 2, rfl, fun ρ => ⟨_, rfl, rfl⟩⟩
theorem k_pX3_1 (w : k_WC) : k_OP (k_PX w) 3 (w.2.1 3) 1 RX2 TX2 8 .int := ⟨k_inX2, by decide, rfl, by decide +kernel, nmX2, ⟨tyX2, tyX2_ok⟩, 2, rfl, fun ρ => ⟨_, rfl, by simp, fun x _ => rfl, fun x h => by cases h⟩⟩
theorem k_gX3_2 (w : k_WC) : k_OG (k_PX w) 3 (w.2.1 3) 2 RX2 TX2 8 (fun σ => .int (k_rd σ 3 2)) := ⟨k_inX2, by decide, 2, rfl, fun ρ => ⟨_, rfl, rfl⟩⟩
theorem k_pX3_2 (w : k_WC) : k_OP (k_PX w) 3 (w.2.1 3) 2 RX2 TX2 8 .int := ⟨k_inX2, by decide, rfl, by decide +kernel, nmX2, ⟨tyX2, tyX2_ok⟩, 2, rfl, fun ρ => ⟨_, rfl, by simp, fun x _ => rfl, fun x h => by cases h⟩⟩
theorem k_gX3_3 (w : k_WC) : k_OG (k_PX w) 3 (w.2.1 3) 3 RX2 TX2 8 (fun σ => .int (k_rd σ 3 3)) := ⟨k_inX2, by decide, 2, rfl, fun ρ => ⟨_, rfl, rfl⟩⟩
theorem k_pX3_3 (w : k_WC) : k_OP (k_PX w) 3 (w.2.1 3) 3 RX2 TX2 8 .int := ⟨k_inX2, by decide, rfl, by decide +kernel, nmX2, ⟨tyX2, tyX2_ok⟩, 2, rfl, fun ρ => ⟨_, rfl, by simp, fun x _ => rfl, fun x h => by cases h⟩⟩
theorem k_gX3_4 (w : k_WC) : k_OG (k_PX w) 3 (w.2.1 3) 4 RX2 TX2 8 (fun _ => .ref (w.2.1 5)) := ⟨k_inX2, by decide, 2, rfl, fun ρ => ⟨_, rfl, rfl⟩⟩
theorem k_gX3_5 (w : k_WC) : k_OG (k_PX w) 3 (w.2.1 3) 5 RX2 TX2 8 (fun _ => .ref (w.2.1 6)) := ⟨k_inX2, by decide, 2, rfl, fun ρ => ⟨_, rfl, rfl⟩⟩
theorem k_gX3_6 (w : k_WC) : k_OG (k_PX w) 3 (w.2.1 3) 6 RX2 TX2 8 (fun σ => .int (k_rd σ 3 6)) := ⟨k_inX2, by decide, 2, rfl, fun ρ => ⟨_, rfl, rfl⟩⟩
theorem k_pX3_6 (w : k_WC) : k_OP (k_PX w) 3 (w.2.1 3) 6 RX2 TX2 8 .int := ⟨k_inX2, by decide, rfl, by decide +kernel, nmX2, ⟨tyX2, tyX2_ok⟩, 2, rfl, fun ρ => ⟨_, rfl, by simp, fun x _ => rfl, fun x h => by cases h⟩⟩
theorem k_gX3_7 (w : k_WC) : k_OG (k_PX w) 3 (w.2.1 3) 7 RX2 TX2 8 (fun σ => .int (k_rd σ 3 7)) := ⟨k_inX2, by decide, 2, rfl, fun ρ => ⟨_, rfl, rfl⟩⟩
theorem k_pX3_7 (w : k_WC) : k_OP (k_PX w) 3 (w.2.1 3) 7 RX2 TX2 8 .boolean := ⟨k_inX2, by decide, rfl, by decide +kernel, nmX2, ⟨tyX2, tyX2_ok⟩, 2, rfl, fun ρ => ⟨_, rfl, by simp, fun x _ => rfl, fun x h => by cases h⟩⟩
theorem k_aX4 (w : k_WC) : k_AI (k_PX w) .int 4 (w.2.1 4) 160 := ⟨0, _, rfl, fun ρ => ⟨rfl, fun f => rfl⟩⟩
theorem k_aX5 (w : k_WC) : k_AI (k_PX w) .int 5 (w.2.1 5) 24 := ⟨0, _, rfl, fun ρ => ⟨rfl, fun f => rfl⟩⟩
theorem k_aX6 (w : k_WC) : k_AI (k_PX w) .int 6 (w.2.1 6) 2 := ⟨0, _, rfl, fun ρ => ⟨rfl, fun f => rfl⟩⟩
theorem k_oX7 (w : k_WC) : k_OB (k_PX w) 7 (w.2.1 7) RX10 := ⟨9, TX10, 11, rfl, fun ρ => ⟨_, rfl⟩⟩
theorem k_gX7_0 (w : k_WC) : k_OG (k_PX w) 7 (w.2.1 7) 0 RX10 TX10 11 (fun _ => .ref (w.2.1 8)) := ⟨k_inX10, by decide, 9, rfl, fun ρ => ⟨_, rfl, rfl⟩⟩
theorem k_gX7_1 (w : k_WC) : k_OG (k_PX w) 7 (w.2.1 7) 1 RX10 TX10 11 (fun σ => .int (k_rd σ 7 1)) := ⟨k_inX10, by decide, 9, rfl, fun ρ => ⟨_, rfl, rfl⟩⟩
theorem k_pX7_1 (w : k_WC) : k_OP (k_PX w) 7 (w.2.1 7) 1 RX10 TX10 11 .int := ⟨k_inX10, by decide, rfl, by decide +kernel, nmX10, ⟨tyX10, tyX10_ok⟩, 9, rfl, fun ρ => ⟨_, rfl, by simp, fun x _ => rfl, fun x h => by cases h⟩⟩
theorem k_gX7_2 (w : k_WC) : k_OG (k_PX w) 7 (w.2.1 7) 2 RX10 TX10 11 (fun σ => .int (k_rd σ 7 2)) := ⟨k_inX10, by decide, 9, rfl, fun ρ => ⟨_, rfl, rfl⟩⟩
theorem k_pX7_2 (w : k_WC) : k_OP (k_PX w) 7 (w.2.1 7) 2 RX10 TX10 11 .int := ⟨k_inX10, by decide, rfl, by decide +kernel, nmX10, ⟨tyX10, tyX10_ok⟩, 9, rfl, fun ρ => ⟨_, rfl, by simp, fun x _ => rfl, fun x h => by cases h⟩⟩
theorem k_gX7_3 (w : k_WC) : k_OG (k_PX w) 7 (w.2.1 7) 3 RX10 TX10 11 (fun σ => .int (k_rd σ 7 3)) := ⟨k_inX10, by decide, 9, rfl, fun ρ => ⟨_, rfl, rfl⟩⟩
theorem k_pX7_3 (w : k_WC) : k_OP (k_PX w) 7 (w.2.1 7) 3 RX10 TX10 11 .int := ⟨k_inX10, by decide, rfl, by decide +kernel, nmX10, ⟨tyX10, tyX10_ok⟩, 9, rfl, fun ρ => ⟨_, rfl, by simp, fun x _ => rfl, fun x h => by cases h⟩⟩
theorem k_gX7_4 (w : k_WC) : k_OG (k_PX w) 7 (w.2.1 7) 4 RX10 TX10 11 (fun σ => .int (k_rd σ 7 4)) := ⟨k_inX10, by decide, 9, rfl, fun ρ => ⟨_, rfl, rfl⟩⟩
theorem k_pX7_4 (w : k_WC) : k_OP (k_PX w) 7 (w.2.1 7) 4 RX10 TX10 11 .int := ⟨k_inX10, by decide, rfl, by decide +kernel, nmX10, ⟨tyX10, tyX10_ok⟩, 9, rfl, fun ρ => ⟨_, rfl, by simp, fun x _ => rfl, fun x h => by cases h⟩⟩
theorem k_gX7_5 (w : k_WC) : k_OG (k_PX w) 7 (w.2.1 7) 5 RX10 TX10 11 (fun σ => .int (k_rd σ 7 5)) := ⟨k_inX10, by decide, 9, rfl, fun ρ => ⟨_, rfl, rfl⟩⟩
theorem k_pX7_5 (w : k_WC) : k_OP (k_PX w) 7 (w.2.1 7) 5 RX10 TX10 11 .int := ⟨k_inX10, by decide, rfl, by decide +kernel, nmX10, ⟨tyX10, tyX10_ok⟩, 9, rfl, fun ρ => ⟨_, rfl, by simp, fun x _ => rfl, fun x h => by cases h⟩⟩
theorem k_gX7_6 (w : k_WC) : k_OG (k_PX w) 7 (w.2.1 7) 6 RX10 TX10 11 (fun _ => .ref (w.2.1 9)) := ⟨k_inX10, by decide, 9, rfl, fun ρ => ⟨_, rfl, rfl⟩⟩
theorem k_gX7_7 (w : k_WC) : k_OG (k_PX w) 7 (w.2.1 7) 7 RX10 TX10 11 (fun _ => .ref (w.2.1 10)) := ⟨k_inX10, by decide, 9, rfl, fun ρ => ⟨_, rfl, rfl⟩⟩
theorem k_gX7_8 (w : k_WC) : k_OG (k_PX w) 7 (w.2.1 7) 8 RX10 TX10 11 (fun _ => .ref (w.2.1 11)) := ⟨k_inX10, by decide, 9, rfl, fun ρ => ⟨_, rfl, rfl⟩⟩
theorem k_gX7_9 (w : k_WC) : k_OG (k_PX w) 7 (w.2.1 7) 9 RX10 TX10 11 (fun σ => .int (k_rd σ 7 9)) := ⟨k_inX10, by decide, 9, rfl, fun ρ => ⟨_, rfl, rfl⟩⟩
theorem k_pX7_9 (w : k_WC) : k_OP (k_PX w) 7 (w.2.1 7) 9 RX10 TX10 11 .boolean := ⟨k_inX10, by decide, rfl, by decide +kernel, nmX10, ⟨tyX10, tyX10_ok⟩, 9, rfl, fun ρ => ⟨_, rfl, by simp, fun x _ => rfl, fun x h => by cases h⟩⟩
theorem k_gX7_10 (w : k_WC) : k_OG (k_PX w) 7 (w.2.1 7) 10 RX10 TX10 11 (fun σ => .int (k_rd σ 7 10)) := ⟨k_inX10, by decide, 9, rfl, fun ρ => ⟨_, rfl, rfl⟩⟩
theorem k_pX7_10 (w : k_WC) : k_OP (k_PX w) 7 (w.2.1 7) 10 RX10 TX10 11 .int := ⟨k_inX10, by decide, rfl, by decide +kernel, nmX10, ⟨tyX10, tyX10_ok⟩, 9, rfl, fun ρ => ⟨_, rfl, by simp, fun x _ => rfl, fun x h => by cases h⟩⟩
theorem k_aX8 (w : k_WC) : k_AI (k_PX w) .int 8 (w.2.1 8) 160 := ⟨0, _, rfl, fun ρ => ⟨rfl, fun f => rfl⟩⟩
theorem k_aX9 (w : k_WC) : k_AI (k_PX w) .int 9 (w.2.1 9) 640 := ⟨0, _, rfl, fun ρ => ⟨rfl, fun f => rfl⟩⟩
theorem k_aX10 (w : k_WC) : k_AI (k_PX w) .int 10 (w.2.1 10) 4 := ⟨0, _, rfl, fun ρ => ⟨rfl, fun f => rfl⟩⟩
theorem k_aX11 (w : k_WC) : k_AI (k_PX w) .int 11 (w.2.1 11) 5 := ⟨0, _, rfl, fun ρ => ⟨rfl, fun f => rfl⟩⟩
theorem k_oX12 (w : k_WC) : k_OB (k_PX w) 12 (w.2.1 12) RX1 := ⟨1, TX1, 6, rfl, fun ρ => ⟨_, rfl⟩⟩
theorem k_gX12_0 (w : k_WC) : k_OG (k_PX w) 12 (w.2.1 12) 0 RX1 TX1 6 (fun σ => .int (k_rd σ 12 0)) := ⟨k_inX1, by decide, 1, rfl, fun ρ => ⟨_, rfl, rfl⟩⟩
theorem k_pX12_0 (w : k_WC) : k_OP (k_PX w) 12 (w.2.1 12) 0 RX1 TX1 6 .int := ⟨k_inX1, by decide, rfl, by decide +kernel, nmX1, ⟨tyX1, tyX1_ok⟩, 1, rfl, fun ρ => ⟨_, rfl, by simp, fun x _ => rfl, fun x h => by cases h⟩⟩
theorem k_gX12_1 (w : k_WC) : k_OG (k_PX w) 12 (w.2.1 12) 1 RX1 TX1 6 (fun σ => .int (k_rd σ 12 1)) := ⟨k_inX1, by decide, 1, rfl, fun ρ => ⟨_, rfl, rfl⟩⟩
theorem k_pX12_1 (w : k_WC) : k_OP (k_PX w) 12 (w.2.1 12) 1 RX1 TX1 6 .int := ⟨k_inX1, by decide, rfl, by decide +kernel, nmX1, ⟨tyX1, tyX1_ok⟩, 1, rfl, fun ρ => ⟨_, rfl, by simp, fun x _ => rfl, fun x h => by cases h⟩⟩
theorem k_gX12_2 (w : k_WC) : k_OG (k_PX w) 12 (w.2.1 12) 2 RX1 TX1 6 (fun σ => .int (k_rd σ 12 2)) := ⟨k_inX1, by decide, 1, rfl, fun ρ => ⟨_, rfl, rfl⟩⟩
theorem k_pX12_2 (w : k_WC) : k_OP (k_PX w) 12 (w.2.1 12) 2 RX1 TX1 6 .int := ⟨k_inX1, by decide, rfl, by decide +kernel, nmX1, ⟨tyX1, tyX1_ok⟩, 1, rfl, fun ρ => ⟨_, rfl, by simp, fun x _ => rfl, fun x h => by cases h⟩⟩
theorem k_gX12_3 (w : k_WC) : k_OG (k_PX w) 12 (w.2.1 12) 3 RX1 TX1 6 (fun _ => .ref (w.2.1 13)) := ⟨k_inX1, by decide, 1, rfl, fun ρ => ⟨_, rfl, rfl⟩⟩
theorem k_gX12_4 (w : k_WC) : k_OG (k_PX w) 12 (w.2.1 12) 4 RX1 TX1 6 (fun _ => .ref (w.2.1 14)) := ⟨k_inX1, by decide, 1, rfl, fun ρ => ⟨_, rfl, rfl⟩⟩
theorem k_gX12_5 (w : k_WC) : k_OG (k_PX w) 12 (w.2.1 12) 5 RX1 TX1 6 (fun _ => .ref (w.2.1 15)) := ⟨k_inX1, by decide, 1, rfl, fun ρ => ⟨_, rfl, rfl⟩⟩
theorem k_aX13 (w : k_WC) : k_AI (k_PX w) .int 13 (w.2.1 13) 24 := ⟨0, _, rfl, fun ρ => ⟨rfl, fun f => rfl⟩⟩
theorem k_aX14 (w : k_WC) : k_AI (k_PX w) .int 14 (w.2.1 14) 6 := ⟨0, _, rfl, fun ρ => ⟨rfl, fun f => rfl⟩⟩
theorem k_aX15 (w : k_WC) : k_AI (k_PX w) .int 15 (w.2.1 15) 6 := ⟨0, _, rfl, fun ρ => ⟨rfl, fun f => rfl⟩⟩
theorem k_oX16 (w : k_WC) : k_OB (k_PX w) 16 (w.2.1 16) RX6 := ⟨5, TX6, 13, rfl, fun ρ => ⟨_, rfl⟩⟩
theorem k_gX16_0 (w : k_WC) : k_OG (k_PX w) 16 (w.2.1 16) 0 RX6 TX6 13 (fun σ => .int (k_rd σ 16 0)) := ⟨k_inX6, by decide, 5, rfl, fun ρ => ⟨_, rfl, rfl⟩⟩
theorem k_pX16_0 (w : k_WC) : k_OP (k_PX w) 16 (w.2.1 16) 0 RX6 TX6 13 .int := ⟨k_inX6, by decide, rfl, by decide +kernel, nmX6, ⟨tyX6, tyX6_ok⟩, 5, rfl, fun ρ => ⟨_, rfl, by simp, fun x _ => rfl, fun x h => by cases h⟩⟩
theorem k_gX16_1 (w : k_WC) : k_OG (k_PX w) 16 (w.2.1 16) 1 RX6 TX6 13 (fun σ => .long (k_rl σ 16 1)) := ⟨k_inX6, by decide, 5, rfl, fun ρ => ⟨_, rfl, rfl⟩⟩
theorem k_pX16_1 (w : k_WC) : k_OP (k_PX w) 16 (w.2.1 16) 1 RX6 TX6 13 .long := ⟨k_inX6, by decide, rfl, by decide +kernel, nmX6, ⟨tyX6, tyX6_ok⟩, 5, rfl, fun ρ => ⟨_, rfl, by simp, fun x h => absurd rfl h, fun x _ => rfl⟩⟩
theorem k_gX16_2 (w : k_WC) : k_OG (k_PX w) 16 (w.2.1 16) 2 RX6 TX6 13 (fun σ => .long (k_rl σ 16 2)) := ⟨k_inX6, by decide, 5, rfl, fun ρ => ⟨_, rfl, rfl⟩⟩
theorem k_pX16_2 (w : k_WC) : k_OP (k_PX w) 16 (w.2.1 16) 2 RX6 TX6 13 .long := ⟨k_inX6, by decide, rfl, by decide +kernel, nmX6, ⟨tyX6, tyX6_ok⟩, 5, rfl, fun ρ => ⟨_, rfl, by simp, fun x h => absurd rfl h, fun x _ => rfl⟩⟩
theorem k_gX16_3 (w : k_WC) : k_OG (k_PX w) 16 (w.2.1 16) 3 RX6 TX6 13 (fun σ => .int (k_rd σ 16 3)) := ⟨k_inX6, by decide, 5, rfl, fun ρ => ⟨_, rfl, rfl⟩⟩
theorem k_pX16_3 (w : k_WC) : k_OP (k_PX w) 16 (w.2.1 16) 3 RX6 TX6 13 .boolean := ⟨k_inX6, by decide, rfl, by decide +kernel, nmX6, ⟨tyX6, tyX6_ok⟩, 5, rfl, fun ρ => ⟨_, rfl, by simp, fun x _ => rfl, fun x h => by cases h⟩⟩
theorem k_gX16_4 (w : k_WC) : k_OG (k_PX w) 16 (w.2.1 16) 4 RX6 TX6 13 (fun σ => .int (k_rd σ 16 4)) := ⟨k_inX6, by decide, 5, rfl, fun ρ => ⟨_, rfl, rfl⟩⟩
theorem k_pX16_4 (w : k_WC) : k_OP (k_PX w) 16 (w.2.1 16) 4 RX6 TX6 13 .boolean := ⟨k_inX6, by decide, rfl, by decide +kernel, nmX6, ⟨tyX6, tyX6_ok⟩, 5, rfl, fun ρ => ⟨_, rfl, by simp, fun x _ => rfl, fun x h => by cases h⟩⟩
theorem k_gX16_5 (w : k_WC) : k_OG (k_PX w) 16 (w.2.1 16) 5 RX6 TX6 13 (fun σ => .int (k_rd σ 16 5)) := ⟨k_inX6, by decide, 5, rfl, fun ρ => ⟨_, rfl, rfl⟩⟩
theorem k_pX16_5 (w : k_WC) : k_OP (k_PX w) 16 (w.2.1 16) 5 RX6 TX6 13 .int := ⟨k_inX6, by decide, rfl, by decide +kernel, nmX6, ⟨tyX6, tyX6_ok⟩, 5, rfl, fun ρ => ⟨_, rfl, by simp, fun x _ => rfl, fun x h => by cases h⟩⟩
theorem k_gX16_6 (w : k_WC) : k_OG (k_PX w) 16 (w.2.1 16) 6 RX6 TX6 13 (fun σ => .int (k_rd σ 16 6)) := ⟨k_inX6, by decide, 5, rfl, fun ρ => ⟨_, rfl, rfl⟩⟩
theorem k_pX16_6 (w : k_WC) : k_OP (k_PX w) 16 (w.2.1 16) 6 RX6 TX6 13 .int := ⟨k_inX6, by decide, rfl, by decide +kernel, nmX6, ⟨tyX6, tyX6_ok⟩, 5, rfl, fun ρ => ⟨_, rfl, by simp, fun x _ => rfl, fun x h => by cases h⟩⟩
theorem k_gX16_7 (w : k_WC) : k_OG (k_PX w) 16 (w.2.1 16) 7 RX6 TX6 13 (fun _ => .ref (w.2.1 17)) := ⟨k_inX6, by decide, 5, rfl, fun ρ => ⟨_, rfl, rfl⟩⟩
theorem k_gX16_8 (w : k_WC) : k_OG (k_PX w) 16 (w.2.1 16) 8 RX6 TX6 13 (fun _ => .ref (w.2.1 18)) := ⟨k_inX6, by decide, 5, rfl, fun ρ => ⟨_, rfl, rfl⟩⟩
theorem k_gX16_9 (w : k_WC) : k_OG (k_PX w) 16 (w.2.1 16) 9 RX6 TX6 13 (fun _ => .ref (w.2.1 19)) := ⟨k_inX6, by decide, 5, rfl, fun ρ => ⟨_, rfl, rfl⟩⟩
theorem k_gX16_10 (w : k_WC) : k_OG (k_PX w) 16 (w.2.1 16) 10 RX6 TX6 13 (fun _ => .ref (w.2.1 20)) := ⟨k_inX6, by decide, 5, rfl, fun ρ => ⟨_, rfl, rfl⟩⟩
theorem k_gX16_11 (w : k_WC) : k_OG (k_PX w) 16 (w.2.1 16) 11 RX6 TX6 13 (fun _ => .ref (w.2.1 21)) := ⟨k_inX6, by decide, 5, rfl, fun ρ => ⟨_, rfl, rfl⟩⟩
theorem k_gX16_12 (w : k_WC) : k_OG (k_PX w) 16 (w.2.1 16) 12 RX6 TX6 13 (fun _ => .ref (w.2.1 22)) := ⟨k_inX6, by decide, 5, rfl, fun ρ => ⟨_, rfl, rfl⟩⟩
theorem k_aX17 (w : k_WC) : k_AI (k_PX w) .int 17 (w.2.1 17) 40 := ⟨0, _, rfl, fun ρ => ⟨rfl, fun f => rfl⟩⟩
theorem k_aX18 (w : k_WC) : k_AI (k_PX w) .int 18 (w.2.1 18) 40 := ⟨0, _, rfl, fun ρ => ⟨rfl, fun f => rfl⟩⟩
theorem k_aX19 (w : k_WC) : k_AI (k_PX w) .int 19 (w.2.1 19) 40 := ⟨0, _, rfl, fun ρ => ⟨rfl, fun f => rfl⟩⟩
theorem k_aX20 (w : k_WC) : k_AI (k_PX w) .int 20 (w.2.1 20) 40 := ⟨0, _, rfl, fun ρ => ⟨rfl, fun f => rfl⟩⟩
theorem k_aX21 (w : k_WC) : k_AL (k_PX w) 21 (w.2.1 21) 40 := ⟨1, _, rfl, fun ρ => ⟨rfl, fun f => rfl⟩⟩
theorem k_aX22 (w : k_WC) : k_AL (k_PX w) 22 (w.2.1 22) 40 := ⟨1, _, rfl, fun ρ => ⟨rfl, fun f => rfl⟩⟩
theorem k_oX23 (w : k_WC) : k_OB (k_PX w) 23 (w.2.1 23) RX6 := ⟨5, TX6, 13, rfl, fun ρ => ⟨_, rfl⟩⟩
theorem k_gX23_0 (w : k_WC) : k_OG (k_PX w) 23 (w.2.1 23) 0 RX6 TX6 13 (fun σ => .int (k_rd σ 23 0)) := ⟨k_inX6, by decide, 5, rfl, fun ρ => ⟨_, rfl, rfl⟩⟩
theorem k_pX23_0 (w : k_WC) : k_OP (k_PX w) 23 (w.2.1 23) 0 RX6 TX6 13 .int := ⟨k_inX6, by decide, rfl, by decide +kernel, nmX6, ⟨tyX6, tyX6_ok⟩, 5, rfl, fun ρ => ⟨_, rfl, by simp, fun x _ => rfl, fun x h => by cases h⟩⟩
theorem k_gX23_1 (w : k_WC) : k_OG (k_PX w) 23 (w.2.1 23) 1 RX6 TX6 13 (fun σ => .long (k_rl σ 23 1)) := ⟨k_inX6, by decide, 5, rfl, fun ρ => ⟨_, rfl, rfl⟩⟩
theorem k_pX23_1 (w : k_WC) : k_OP (k_PX w) 23 (w.2.1 23) 1 RX6 TX6 13 .long := ⟨k_inX6, by decide, rfl, by decide +kernel, nmX6, ⟨tyX6, tyX6_ok⟩, 5, rfl, fun ρ => ⟨_, rfl, by simp, fun x h => absurd rfl h, fun x _ => rfl⟩⟩
theorem k_gX23_2 (w : k_WC) : k_OG (k_PX w) 23 (w.2.1 23) 2 RX6 TX6 13 (fun σ => .long (k_rl σ 23 2)) := ⟨k_inX6, by decide, 5, rfl, fun ρ => ⟨_, rfl, rfl⟩⟩
theorem k_pX23_2 (w : k_WC) : k_OP (k_PX w) 23 (w.2.1 23) 2 RX6 TX6 13 .long := ⟨k_inX6, by decide, rfl, by decide +kernel, nmX6, ⟨tyX6, tyX6_ok⟩, 5, rfl, fun ρ => ⟨_, rfl, by simp, fun x h => absurd rfl h, fun x _ => rfl⟩⟩
theorem k_gX23_3 (w : k_WC) : k_OG (k_PX w) 23 (w.2.1 23) 3 RX6 TX6 13 (fun σ => .int (k_rd σ 23 3)) := ⟨k_inX6, by decide, 5, rfl, fun ρ => ⟨_, rfl, rfl⟩⟩
theorem k_pX23_3 (w : k_WC) : k_OP (k_PX w) 23 (w.2.1 23) 3 RX6 TX6 13 .boolean := ⟨k_inX6, by decide, rfl, by decide +kernel, nmX6, ⟨tyX6, tyX6_ok⟩, 5, rfl, fun ρ => ⟨_, rfl, by simp, fun x _ => rfl, fun x h => by cases h⟩⟩
theorem k_gX23_4 (w : k_WC) : k_OG (k_PX w) 23 (w.2.1 23) 4 RX6 TX6 13 (fun σ => .int (k_rd σ 23 4)) := ⟨k_inX6, by decide, 5, rfl, fun ρ => ⟨_, rfl, rfl⟩⟩
theorem k_pX23_4 (w : k_WC) : k_OP (k_PX w) 23 (w.2.1 23) 4 RX6 TX6 13 .boolean := ⟨k_inX6, by decide, rfl, by decide +kernel, nmX6, ⟨tyX6, tyX6_ok⟩, 5, rfl, fun ρ => ⟨_, rfl, by simp, fun x _ => rfl, fun x h => by cases h⟩⟩
theorem k_gX23_5 (w : k_WC) : k_OG (k_PX w) 23 (w.2.1 23) 5 RX6 TX6 13 (fun σ => .int (k_rd σ 23 5)) := ⟨k_inX6, by decide, 5, rfl, fun ρ => ⟨_, rfl, rfl⟩⟩
theorem k_pX23_5 (w : k_WC) : k_OP (k_PX w) 23 (w.2.1 23) 5 RX6 TX6 13 .int := ⟨k_inX6, by decide, rfl, by decide +kernel, nmX6, ⟨tyX6, tyX6_ok⟩, 5, rfl, fun ρ => ⟨_, rfl, by simp, fun x _ => rfl, fun x h => by cases h⟩⟩
theorem k_gX23_6 (w : k_WC) : k_OG (k_PX w) 23 (w.2.1 23) 6 RX6 TX6 13 (fun σ => .int (k_rd σ 23 6)) := ⟨k_inX6, by decide, 5, rfl, fun ρ => ⟨_, rfl, rfl⟩⟩
theorem k_pX23_6 (w : k_WC) : k_OP (k_PX w) 23 (w.2.1 23) 6 RX6 TX6 13 .int := ⟨k_inX6, by decide, rfl, by decide +kernel, nmX6, ⟨tyX6, tyX6_ok⟩, 5, rfl, fun ρ => ⟨_, rfl, by simp, fun x _ => rfl, fun x h => by cases h⟩⟩
theorem k_gX23_7 (w : k_WC) : k_OG (k_PX w) 23 (w.2.1 23) 7 RX6 TX6 13 (fun _ => .ref (w.2.1 24)) := ⟨k_inX6, by decide, 5, rfl, fun ρ => ⟨_, rfl, rfl⟩⟩
theorem k_gX23_8 (w : k_WC) : k_OG (k_PX w) 23 (w.2.1 23) 8 RX6 TX6 13 (fun _ => .ref (w.2.1 25)) := ⟨k_inX6, by decide, 5, rfl, fun ρ => ⟨_, rfl, rfl⟩⟩
theorem k_gX23_9 (w : k_WC) : k_OG (k_PX w) 23 (w.2.1 23) 9 RX6 TX6 13 (fun _ => .ref (w.2.1 26)) := ⟨k_inX6, by decide, 5, rfl, fun ρ => ⟨_, rfl, rfl⟩⟩
theorem k_gX23_10 (w : k_WC) : k_OG (k_PX w) 23 (w.2.1 23) 10 RX6 TX6 13 (fun _ => .ref (w.2.1 27)) := ⟨k_inX6, by decide, 5, rfl, fun ρ => ⟨_, rfl, rfl⟩⟩
theorem k_gX23_11 (w : k_WC) : k_OG (k_PX w) 23 (w.2.1 23) 11 RX6 TX6 13 (fun _ => .ref (w.2.1 28)) := ⟨k_inX6, by decide, 5, rfl, fun ρ => ⟨_, rfl, rfl⟩⟩
theorem k_gX23_12 (w : k_WC) : k_OG (k_PX w) 23 (w.2.1 23) 12 RX6 TX6 13 (fun _ => .ref (w.2.1 29)) := ⟨k_inX6, by decide, 5, rfl, fun ρ => ⟨_, rfl, rfl⟩⟩
theorem k_aX24 (w : k_WC) : k_AI (k_PX w) .int 24 (w.2.1 24) 40 := ⟨0, _, rfl, fun ρ => ⟨rfl, fun f => rfl⟩⟩
theorem k_aX25 (w : k_WC) : k_AI (k_PX w) .int 25 (w.2.1 25) 40 := ⟨0, _, rfl, fun ρ => ⟨rfl, fun f => rfl⟩⟩
theorem k_aX26 (w : k_WC) : k_AI (k_PX w) .int 26 (w.2.1 26) 40 := ⟨0, _, rfl, fun ρ => ⟨rfl, fun f => rfl⟩⟩
theorem k_aX27 (w : k_WC) : k_AI (k_PX w) .int 27 (w.2.1 27) 40 := ⟨0, _, rfl, fun ρ => ⟨rfl, fun f => rfl⟩⟩
theorem k_aX28 (w : k_WC) : k_AL (k_PX w) 28 (w.2.1 28) 40 := ⟨1, _, rfl, fun ρ => ⟨rfl, fun f => rfl⟩⟩
theorem k_aX29 (w : k_WC) : k_AL (k_PX w) 29 (w.2.1 29) 40 := ⟨1, _, rfl, fun ρ => ⟨rfl, fun f => rfl⟩⟩
theorem k_oX30 (w : k_WC) : k_OB (k_PX w) 30 (w.2.1 30) RX0 := ⟨0, TX0, 4, rfl, fun ρ => ⟨_, rfl⟩⟩
theorem k_gX30_0 (w : k_WC) : k_OG (k_PX w) 30 (w.2.1 30) 0 RX0 TX0 4 (fun _ => .ref (w.2.1 12)) := ⟨k_inX0, by decide, 0, rfl, fun ρ => ⟨_, rfl, rfl⟩⟩
theorem k_gX30_1 (w : k_WC) : k_OG (k_PX w) 30 (w.2.1 30) 1 RX0 TX0 4 (fun _ => .ref (w.2.1 16)) := ⟨k_inX0, by decide, 0, rfl, fun ρ => ⟨_, rfl, rfl⟩⟩
theorem k_gX30_2 (w : k_WC) : k_OG (k_PX w) 30 (w.2.1 30) 2 RX0 TX0 4 (fun _ => .ref (w.2.1 31)) := ⟨k_inX0, by decide, 0, rfl, fun ρ => ⟨_, rfl, rfl⟩⟩
theorem k_gX30_3 (w : k_WC) : k_OG (k_PX w) 30 (w.2.1 30) 3 RX0 TX0 4 (fun _ => .ref (w.2.1 32)) := ⟨k_inX0, by decide, 0, rfl, fun ρ => ⟨_, rfl, rfl⟩⟩
theorem k_aX31 (w : k_WC) : k_AI (k_PX w) .int 31 (w.2.1 31) 16 := ⟨0, _, rfl, fun ρ => ⟨rfl, fun f => rfl⟩⟩
theorem k_aX32 (w : k_WC) : k_AI (k_PX w) .int 32 (w.2.1 32) 16 := ⟨0, _, rfl, fun ρ => ⟨rfl, fun f => rfl⟩⟩
theorem k_oX33 (w : k_WC) : k_OB (k_PX w) 33 (w.2.1 33) RX4 := ⟨3, TX4, 12, rfl, fun ρ => ⟨_, rfl⟩⟩
theorem k_gX33_0 (w : k_WC) : k_OG (k_PX w) 33 (w.2.1 33) 0 RX4 TX4 12 (fun σ => .long (k_rl σ 33 0)) := ⟨k_inX4, by decide, 3, rfl, fun ρ => ⟨_, rfl, rfl⟩⟩
theorem k_pX33_0 (w : k_WC) : k_OP (k_PX w) 33 (w.2.1 33) 0 RX4 TX4 12 .long := ⟨k_inX4, by decide, rfl, by decide +kernel, nmX4, ⟨tyX4, tyX4_ok⟩, 3, rfl, fun ρ => ⟨_, rfl, by simp, fun x h => absurd rfl h, fun x _ => rfl⟩⟩
theorem k_gX33_1 (w : k_WC) : k_OG (k_PX w) 33 (w.2.1 33) 1 RX4 TX4 12 (fun σ => .int (k_rd σ 33 1)) := ⟨k_inX4, by decide, 3, rfl, fun ρ => ⟨_, rfl, rfl⟩⟩
theorem k_pX33_1 (w : k_WC) : k_OP (k_PX w) 33 (w.2.1 33) 1 RX4 TX4 12 .int := ⟨k_inX4, by decide, rfl, by decide +kernel, nmX4, ⟨tyX4, tyX4_ok⟩, 3, rfl, fun ρ => ⟨_, rfl, by simp, fun x _ => rfl, fun x h => by cases h⟩⟩
theorem k_gX33_2 (w : k_WC) : k_OG (k_PX w) 33 (w.2.1 33) 2 RX4 TX4 12 (fun σ => .long (k_rl σ 33 2)) := ⟨k_inX4, by decide, 3, rfl, fun ρ => ⟨_, rfl, rfl⟩⟩
theorem k_pX33_2 (w : k_WC) : k_OP (k_PX w) 33 (w.2.1 33) 2 RX4 TX4 12 .long := ⟨k_inX4, by decide, rfl, by decide +kernel, nmX4, ⟨tyX4, tyX4_ok⟩, 3, rfl, fun ρ => ⟨_, rfl, by simp, fun x h => absurd rfl h, fun x _ => rfl⟩⟩
theorem k_gX33_3 (w : k_WC) : k_OG (k_PX w) 33 (w.2.1 33) 3 RX4 TX4 12 (fun _ => .ref (w.2.1 12)) := ⟨k_inX4, by decide, 3, rfl, fun ρ => ⟨_, rfl, rfl⟩⟩
theorem k_gX33_4 (w : k_WC) : k_OG (k_PX w) 33 (w.2.1 33) 4 RX4 TX4 12 (fun _ => .ref (w.2.1 16)) := ⟨k_inX4, by decide, 3, rfl, fun ρ => ⟨_, rfl, rfl⟩⟩
theorem k_gX33_5 (w : k_WC) : k_OG (k_PX w) 33 (w.2.1 33) 5 RX4 TX4 12 (fun _ => .ref (w.2.1 34)) := ⟨k_inX4, by decide, 3, rfl, fun ρ => ⟨_, rfl, rfl⟩⟩
theorem k_gX33_6 (w : k_WC) : k_OG (k_PX w) 33 (w.2.1 33) 6 RX4 TX4 12 (fun _ => .ref (w.2.1 35)) := ⟨k_inX4, by decide, 3, rfl, fun ρ => ⟨_, rfl, rfl⟩⟩
theorem k_gX33_7 (w : k_WC) : k_OG (k_PX w) 33 (w.2.1 33) 7 RX4 TX4 12 (fun _ => .ref (w.2.1 36)) := ⟨k_inX4, by decide, 3, rfl, fun ρ => ⟨_, rfl, rfl⟩⟩
theorem k_gX33_8 (w : k_WC) : k_OG (k_PX w) 33 (w.2.1 33) 8 RX4 TX4 12 (fun _ => .ref (w.2.1 37)) := ⟨k_inX4, by decide, 3, rfl, fun ρ => ⟨_, rfl, rfl⟩⟩
theorem k_gX33_9 (w : k_WC) : k_OG (k_PX w) 33 (w.2.1 33) 9 RX4 TX4 12 (fun _ => .ref (w.2.1 38)) := ⟨k_inX4, by decide, 3, rfl, fun ρ => ⟨_, rfl, rfl⟩⟩
theorem k_gX33_10 (w : k_WC) : k_OG (k_PX w) 33 (w.2.1 33) 10 RX4 TX4 12 (fun σ => .int (k_rd σ 33 10)) := ⟨k_inX4, by decide, 3, rfl, fun ρ => ⟨_, rfl, rfl⟩⟩
theorem k_pX33_10 (w : k_WC) : k_OP (k_PX w) 33 (w.2.1 33) 10 RX4 TX4 12 .int := ⟨k_inX4, by decide, rfl, by decide +kernel, nmX4, ⟨tyX4, tyX4_ok⟩, 3, rfl, fun ρ => ⟨_, rfl, by simp, fun x _ => rfl, fun x h => by cases h⟩⟩
theorem k_gX33_11 (w : k_WC) : k_OG (k_PX w) 33 (w.2.1 33) 11 RX4 TX4 12 (fun σ => .int (k_rd σ 33 11)) := ⟨k_inX4, by decide, 3, rfl, fun ρ => ⟨_, rfl, rfl⟩⟩
theorem k_pX33_11 (w : k_WC) : k_OP (k_PX w) 33 (w.2.1 33) 11 RX4 TX4 12 .int := ⟨k_inX4, by decide, rfl, by decide +kernel, nmX4, ⟨tyX4, tyX4_ok⟩, 3, rfl, fun ρ => ⟨_, rfl, by simp, fun x _ => rfl, fun x h => by cases h⟩⟩
theorem k_aX34 (w : k_WC) : k_AL (k_PX w) 34 (w.2.1 34) 64 := ⟨1, _, rfl, fun ρ => ⟨rfl, fun f => rfl⟩⟩
theorem k_aX35 (w : k_WC) : k_AL (k_PX w) 35 (w.2.1 35) 160 := ⟨1, _, rfl, fun ρ => ⟨rfl, fun f => rfl⟩⟩
theorem k_aX36 (w : k_WC) : k_AI (k_PX w) .int 36 (w.2.1 36) 6 := ⟨0, _, rfl, fun ρ => ⟨rfl, fun f => rfl⟩⟩
theorem k_aX37 (w : k_WC) : k_AI (k_PX w) .int 37 (w.2.1 37) 6 := ⟨0, _, rfl, fun ρ => ⟨rfl, fun f => rfl⟩⟩
theorem k_aX38 (w : k_WC) : k_AL (k_PX w) 38 (w.2.1 38) 6 := ⟨1, _, rfl, fun ρ => ⟨rfl, fun f => rfl⟩⟩
theorem k_oX39 (w : k_WC) : k_OB (k_PX w) 39 (w.2.1 39) RX9 := ⟨8, TX9, 3, rfl, fun ρ => ⟨_, rfl⟩⟩
theorem k_gX39_0 (w : k_WC) : k_OG (k_PX w) 39 (w.2.1 39) 0 RX9 TX9 3 (fun σ => .int (k_rd σ 39 0)) := ⟨k_inX9, by decide, 8, rfl, fun ρ => ⟨_, rfl, rfl⟩⟩
theorem k_pX39_0 (w : k_WC) : k_OP (k_PX w) 39 (w.2.1 39) 0 RX9 TX9 3 .int := ⟨k_inX9, by decide, rfl, by decide +kernel, nmX9, ⟨tyX9, tyX9_ok⟩, 8, rfl, fun ρ => ⟨_, rfl, by simp, fun x _ => rfl, fun x h => by cases h⟩⟩
theorem k_gX39_1 (w : k_WC) : k_OG (k_PX w) 39 (w.2.1 39) 1 RX9 TX9 3 (fun σ => .int (k_rd σ 39 1)) := ⟨k_inX9, by decide, 8, rfl, fun ρ => ⟨_, rfl, rfl⟩⟩
theorem k_pX39_1 (w : k_WC) : k_OP (k_PX w) 39 (w.2.1 39) 1 RX9 TX9 3 .int := ⟨k_inX9, by decide, rfl, by decide +kernel, nmX9, ⟨tyX9, tyX9_ok⟩, 8, rfl, fun ρ => ⟨_, rfl, by simp, fun x _ => rfl, fun x h => by cases h⟩⟩
theorem k_gX39_2 (w : k_WC) : k_OG (k_PX w) 39 (w.2.1 39) 2 RX9 TX9 3 (fun _ => .ref (w.2.1 40)) := ⟨k_inX9, by decide, 8, rfl, fun ρ => ⟨_, rfl, rfl⟩⟩
theorem k_aX40 (w : k_WC) : k_AI (k_PX w) .int 40 (w.2.1 40) 16 := ⟨0, _, rfl, fun ρ => ⟨rfl, fun f => rfl⟩⟩
theorem k_oX41 (w : k_WC) : k_OB (k_PX w) 41 (w.2.1 41) RX7 := ⟨6, TX7, 3, rfl, fun ρ => ⟨_, rfl⟩⟩
theorem k_gX41_0 (w : k_WC) : k_OG (k_PX w) 41 (w.2.1 41) 0 RX7 TX7 3 (fun σ => .int (k_rd σ 41 0)) := ⟨k_inX7, by decide, 6, rfl, fun ρ => ⟨_, rfl, rfl⟩⟩
theorem k_pX41_0 (w : k_WC) : k_OP (k_PX w) 41 (w.2.1 41) 0 RX7 TX7 3 .int := ⟨k_inX7, by decide, rfl, by decide +kernel, nmX7, ⟨tyX7, tyX7_ok⟩, 6, rfl, fun ρ => ⟨_, rfl, by simp, fun x _ => rfl, fun x h => by cases h⟩⟩
theorem k_gX41_1 (w : k_WC) : k_OG (k_PX w) 41 (w.2.1 41) 1 RX7 TX7 3 (fun σ => .int (k_rd σ 41 1)) := ⟨k_inX7, by decide, 6, rfl, fun ρ => ⟨_, rfl, rfl⟩⟩
theorem k_pX41_1 (w : k_WC) : k_OP (k_PX w) 41 (w.2.1 41) 1 RX7 TX7 3 .int := ⟨k_inX7, by decide, rfl, by decide +kernel, nmX7, ⟨tyX7, tyX7_ok⟩, 6, rfl, fun ρ => ⟨_, rfl, by simp, fun x _ => rfl, fun x h => by cases h⟩⟩
theorem k_gX41_2 (w : k_WC) : k_OG (k_PX w) 41 (w.2.1 41) 2 RX7 TX7 3 (fun σ => .int (k_rd σ 41 2)) := ⟨k_inX7, by decide, 6, rfl, fun ρ => ⟨_, rfl, rfl⟩⟩
theorem k_pX41_2 (w : k_WC) : k_OP (k_PX w) 41 (w.2.1 41) 2 RX7 TX7 3 .int := ⟨k_inX7, by decide, rfl, by decide +kernel, nmX7, ⟨tyX7, tyX7_ok⟩, 6, rfl, fun ρ => ⟨_, rfl, by simp, fun x _ => rfl, fun x h => by cases h⟩⟩
theorem k_oX42 (w : k_WC) : k_OB (k_PX w) 42 (w.2.1 42) RX5 := ⟨4, TX5, 8, rfl, fun ρ => ⟨_, rfl⟩⟩
theorem k_gX42_0 (w : k_WC) : k_OG (k_PX w) 42 (w.2.1 42) 0 RX5 TX5 8 (fun _ => .ref (w.2.1 43)) := ⟨k_inX5, by decide, 4, rfl, fun ρ => ⟨_, rfl, rfl⟩⟩
theorem k_gX42_1 (w : k_WC) : k_OG (k_PX w) 42 (w.2.1 42) 1 RX5 TX5 8 (fun _ => .ref (w.2.1 44)) := ⟨k_inX5, by decide, 4, rfl, fun ρ => ⟨_, rfl, rfl⟩⟩
theorem k_gX42_2 (w : k_WC) : k_OG (k_PX w) 42 (w.2.1 42) 2 RX5 TX5 8 (fun _ => .ref (w.2.1 12)) := ⟨k_inX5, by decide, 4, rfl, fun ρ => ⟨_, rfl, rfl⟩⟩
theorem k_gX42_3 (w : k_WC) : k_OG (k_PX w) 42 (w.2.1 42) 3 RX5 TX5 8 (fun _ => .ref (w.2.1 30)) := ⟨k_inX5, by decide, 4, rfl, fun ρ => ⟨_, rfl, rfl⟩⟩
theorem k_gX42_4 (w : k_WC) : k_OG (k_PX w) 42 (w.2.1 42) 4 RX5 TX5 8 (fun _ => .ref (w.2.1 41)) := ⟨k_inX5, by decide, 4, rfl, fun ρ => ⟨_, rfl, rfl⟩⟩
theorem k_gX42_5 (w : k_WC) : k_OG (k_PX w) 42 (w.2.1 42) 5 RX5 TX5 8 (fun _ => .ref (w.2.1 45)) := ⟨k_inX5, by decide, 4, rfl, fun ρ => ⟨_, rfl, rfl⟩⟩
theorem k_gX42_6 (w : k_WC) : k_OG (k_PX w) 42 (w.2.1 42) 6 RX5 TX5 8 (fun _ => .ref (w.2.1 46)) := ⟨k_inX5, by decide, 4, rfl, fun ρ => ⟨_, rfl, rfl⟩⟩
theorem k_gX42_7 (w : k_WC) : k_OG (k_PX w) 42 (w.2.1 42) 7 RX5 TX5 8 (fun _ => .ref (w.2.1 47)) := ⟨k_inX5, by decide, 4, rfl, fun ρ => ⟨_, rfl, rfl⟩⟩
theorem k_aX43 (w : k_WC) : k_AI (k_PX w) .int 43 (w.2.1 43) 4 := ⟨0, _, rfl, fun ρ => ⟨rfl, fun f => rfl⟩⟩
theorem k_aX44 (w : k_WC) : k_AL (k_PX w) 44 (w.2.1 44) 4 := ⟨1, _, rfl, fun ρ => ⟨rfl, fun f => rfl⟩⟩
theorem k_aX45 (w : k_WC) : k_AL (k_PX w) 45 (w.2.1 45) 16 := ⟨1, _, rfl, fun ρ => ⟨rfl, fun f => rfl⟩⟩
theorem k_aX46 (w : k_WC) : k_AL (k_PX w) 46 (w.2.1 46) 16 := ⟨1, _, rfl, fun ρ => ⟨rfl, fun f => rfl⟩⟩
theorem k_aX47 (w : k_WC) : k_AL (k_PX w) 47 (w.2.1 47) 16 := ⟨1, _, rfl, fun ρ => ⟨rfl, fun f => rfl⟩⟩
theorem k_aX48 (w : k_WC) : k_AI (k_PX w) .int 48 (w.2.1 48) 20 := ⟨0, _, rfl, fun ρ => ⟨rfl, fun f => rfl⟩⟩
theorem k_aX49 (w : k_WC) : k_AI (k_PX w) .int 49 (w.2.1 49) 20 := ⟨0, _, rfl, fun ρ => ⟨rfl, fun f => rfl⟩⟩
theorem k_oM0 (w : k_WC) : k_OB (k_PM w) 0 (w.2.1 0) RX12 := ⟨11, TX12, 73, rfl, fun ρ => ⟨_, rfl⟩⟩
theorem k_gM0_0 (w : k_WC) : k_OG (k_PM w) 0 (w.2.1 0) 0 RX12 TX12 73 (fun σ => .int (k_rd σ 0 0)) := ⟨k_inX12, by decide, 11, rfl, fun ρ => ⟨_, rfl, rfl⟩⟩
theorem k_pM0_0 (w : k_WC) : k_OP (k_PM w) 0 (w.2.1 0) 0 RX12 TX12 73 .int := ⟨k_inX12, by decide, rfl, by decide +kernel, nmX12, ⟨tyX12, tyX12_ok⟩, 11, rfl, fun ρ => ⟨_, rfl, by simp, fun x _ => rfl, fun x h => by cases h⟩⟩
theorem k_gM0_1 (w : k_WC) : k_OG (k_PM w) 0 (w.2.1 0) 1 RX12 TX12 73 (fun _ => .ref (w.2.1 1)) := ⟨k_inX12, by decide, 11, rfl, fun ρ => ⟨_, rfl, rfl⟩⟩
theorem k_gM0_2 (w : k_WC) : k_OG (k_PM w) 0 (w.2.1 0) 2 RX12 TX12 73 (fun σ => .int (k_rd σ 0 2)) := ⟨k_inX12, by decide, 11, rfl, fun ρ => ⟨_, rfl, rfl⟩⟩
theorem k_pM0_2 (w : k_WC) : k_OP (k_PM w) 0 (w.2.1 0) 2 RX12 TX12 73 .int := ⟨k_inX12, by decide, rfl, by decide +kernel, nmX12, ⟨tyX12, tyX12_ok⟩, 11, rfl, fun ρ => ⟨_, rfl, by simp, fun x _ => rfl, fun x h => by cases h⟩⟩
theorem k_gM0_3 (w : k_WC) : k_OG (k_PM w) 0 (w.2.1 0) 3 RX12 TX12 73 (fun σ => .int (k_rd σ 0 3)) := ⟨k_inX12, by decide, 11, rfl, fun ρ => ⟨_, rfl, rfl⟩⟩
theorem k_pM0_3 (w : k_WC) : k_OP (k_PM w) 0 (w.2.1 0) 3 RX12 TX12 73 .int := ⟨k_inX12, by decide, rfl, by decide +kernel, nmX12, ⟨tyX12, tyX12_ok⟩, 11, rfl, fun ρ => ⟨_, rfl, by simp, fun x _ => rfl, fun x h => by cases h⟩⟩
theorem k_gM0_4 (w : k_WC) : k_OG (k_PM w) 0 (w.2.1 0) 4 RX12 TX12 73 (fun σ => .int (k_rd σ 0 4)) := ⟨k_inX12, by decide, 11, rfl, fun ρ => ⟨_, rfl, rfl⟩⟩
theorem k_pM0_4 (w : k_WC) : k_OP (k_PM w) 0 (w.2.1 0) 4 RX12 TX12 73 .int := ⟨k_inX12, by decide, rfl, by decide +kernel, nmX12, ⟨tyX12, tyX12_ok⟩, 11, rfl, fun ρ => ⟨_, rfl, by simp, fun x _ => rfl, fun x h => by cases h⟩⟩
theorem k_gM0_5 (w : k_WC) : k_OG (k_PM w) 0 (w.2.1 0) 5 RX12 TX12 73 (fun σ => .int (k_rd σ 0 5)) := ⟨k_inX12, by decide, 11, rfl, fun ρ => ⟨_, rfl, rfl⟩⟩
theorem k_pM0_5 (w : k_WC) : k_OP (k_PM w) 0 (w.2.1 0) 5 RX12 TX12 73 .int := ⟨k_inX12, by decide, rfl, by decide +kernel, nmX12, ⟨tyX12, tyX12_ok⟩, 11, rfl, fun ρ => ⟨_, rfl, by simp, fun x _ => rfl, fun x h => by cases h⟩⟩
theorem k_gM0_6 (w : k_WC) : k_OG (k_PM w) 0 (w.2.1 0) 6 RX12 TX12 73 (fun _ => .ref (w.2.1 2)) := ⟨k_inX12, by decide, 11, rfl, fun ρ => ⟨_, rfl, rfl⟩⟩
theorem k_gM0_7 (w : k_WC) : k_OG (k_PM w) 0 (w.2.1 0) 7 RX12 TX12 73 (fun _ => .ref (w.2.1 3)) := ⟨k_inX12, by decide, 11, rfl, fun ρ => ⟨_, rfl, rfl⟩⟩
theorem k_gM0_8 (w : k_WC) : k_OG (k_PM w) 0 (w.2.1 0) 8 RX12 TX12 73 (fun _ => .ref (w.2.1 4)) := ⟨k_inX12, by decide, 11, rfl, fun ρ => ⟨_, rfl, rfl⟩⟩
theorem k_gM0_9 (w : k_WC) : k_OG (k_PM w) 0 (w.2.1 0) 9 RX12 TX12 73 (fun _ => .ref (w.2.1 5)) := ⟨k_inX12, by decide, 11, rfl, fun ρ => ⟨_, rfl, rfl⟩⟩
theorem k_gM0_10 (w : k_WC) : k_OG (k_PM w) 0 (w.2.1 0) 10 RX12 TX12 73 (fun _ => .ref (w.2.1 6)) := ⟨k_inX12, by decide, 11, rfl, fun ρ => ⟨_, rfl, rfl⟩⟩
theorem k_gM0_11 (w : k_WC) : k_OG (k_PM w) 0 (w.2.1 0) 11 RX12 TX12 73 (fun _ => .ref (w.2.1 7)) := ⟨k_inX12, by decide, 11, rfl, fun ρ => ⟨_, rfl, rfl⟩⟩
theorem k_gM0_12 (w : k_WC) : k_OG (k_PM w) 0 (w.2.1 0) 12 RX12 TX12 73 (fun _ => .ref (w.2.1 8)) := ⟨k_inX12, by decide, 11, rfl, fun ρ => ⟨_, rfl, rfl⟩⟩
theorem k_gM0_13 (w : k_WC) : k_OG (k_PM w) 0 (w.2.1 0) 13 RX12 TX12 73 (fun σ => .int (k_rd σ 0 13)) := ⟨k_inX12, by decide, 11, rfl, fun ρ => ⟨_, rfl, rfl⟩⟩
theorem k_pM0_13 (w : k_WC) : k_OP (k_PM w) 0 (w.2.1 0) 13 RX12 TX12 73 .int := ⟨k_inX12, by decide, rfl, by decide +kernel, nmX12, ⟨tyX12, tyX12_ok⟩, 11, rfl, fun ρ => ⟨_, rfl, by simp, fun x _ => rfl, fun x h => by cases h⟩⟩
theorem k_gM0_14 (w : k_WC) : k_OG (k_PM w) 0 (w.2.1 0) 14 RX12 TX12 73 (fun σ => .int (k_rd σ 0 14)) := ⟨k_inX12, by decide, 11, rfl, fun ρ => ⟨_, rfl, rfl⟩⟩
theorem k_pM0_14 (w : k_WC) : k_OP (k_PM w) 0 (w.2.1 0) 14 RX12 TX12 73 .int := ⟨k_inX12, by decide, rfl, by decide +kernel, nmX12, ⟨tyX12, tyX12_ok⟩, 11, rfl, fun ρ => ⟨_, rfl, by simp, fun x _ => rfl, fun x h => by cases h⟩⟩
theorem k_gM0_15 (w : k_WC) : k_OG (k_PM w) 0 (w.2.1 0) 15 RX12 TX12 73 (fun _ => .ref (w.2.1 9)) := ⟨k_inX12, by decide, 11, rfl, fun ρ => ⟨_, rfl, rfl⟩⟩
theorem k_gM0_16 (w : k_WC) : k_OG (k_PM w) 0 (w.2.1 0) 16 RX12 TX12 73 (fun _ => .ref (w.2.1 10)) := ⟨k_inX12, by decide, 11, rfl, fun ρ => ⟨_, rfl, rfl⟩⟩
theorem k_gM0_17 (w : k_WC) : k_OG (k_PM w) 0 (w.2.1 0) 17 RX12 TX12 73 (fun _ => .ref (w.2.1 11)) := ⟨k_inX12, by decide, 11, rfl, fun ρ => ⟨_, rfl, rfl⟩⟩
theorem k_gM0_18 (w : k_WC) : k_OG (k_PM w) 0 (w.2.1 0) 18 RX12 TX12 73 (fun _ => .ref (w.2.1 12)) := ⟨k_inX12, by decide, 11, rfl, fun ρ => ⟨_, rfl, rfl⟩⟩
theorem k_gM0_19 (w : k_WC) : k_OG (k_PM w) 0 (w.2.1 0) 19 RX12 TX12 73 (fun σ => .int (k_rd σ 0 19)) := ⟨k_inX12, by decide, 11, rfl, fun ρ => ⟨_, rfl, rfl⟩⟩
theorem k_pM0_19 (w : k_WC) : k_OP (k_PM w) 0 (w.2.1 0) 19 RX12 TX12 73 .int := ⟨k_inX12, by decide, rfl, by decide +kernel, nmX12, ⟨tyX12, tyX12_ok⟩, 11, rfl, fun ρ => ⟨_, rfl, by simp, fun x _ => rfl, fun x h => by cases h⟩⟩
theorem k_gM0_20 (w : k_WC) : k_OG (k_PM w) 0 (w.2.1 0) 20 RX12 TX12 73 (fun _ => .ref (w.2.1 13)) := ⟨k_inX12, by decide, 11, rfl, fun ρ => ⟨_, rfl, rfl⟩⟩
theorem k_gM0_21 (w : k_WC) : k_OG (k_PM w) 0 (w.2.1 0) 21 RX12 TX12 73 (fun σ => .int (k_rd σ 0 21)) := ⟨k_inX12, by decide, 11, rfl, fun ρ => ⟨_, rfl, rfl⟩⟩
theorem k_pM0_21 (w : k_WC) : k_OP (k_PM w) 0 (w.2.1 0) 21 RX12 TX12 73 .int := ⟨k_inX12, by decide, rfl, by decide +kernel, nmX12, ⟨tyX12, tyX12_ok⟩, 11, rfl, fun ρ => ⟨_, rfl, by simp, fun x _ => rfl, fun x h => by cases h⟩⟩
theorem k_gM0_22 (w : k_WC) : k_OG (k_PM w) 0 (w.2.1 0) 22 RX12 TX12 73 (fun σ => .int (k_rd σ 0 22)) := ⟨k_inX12, by decide, 11, rfl, fun ρ => ⟨_, rfl, rfl⟩⟩
theorem k_pM0_22 (w : k_WC) : k_OP (k_PM w) 0 (w.2.1 0) 22 RX12 TX12 73 .int := ⟨k_inX12, by decide, rfl, by decide +kernel, nmX12, ⟨tyX12, tyX12_ok⟩, 11, rfl, fun ρ => ⟨_, rfl, by simp, fun x _ => rfl, fun x h => by cases h⟩⟩
theorem k_gM0_23 (w : k_WC) : k_OG (k_PM w) 0 (w.2.1 0) 23 RX12 TX12 73 (fun σ => .int (k_rd σ 0 23)) := ⟨k_inX12, by decide, 11, rfl, fun ρ => ⟨_, rfl, rfl⟩⟩
theorem k_pM0_23 (w : k_WC) : k_OP (k_PM w) 0 (w.2.1 0) 23 RX12 TX12 73 .int := ⟨k_inX12, by decide, rfl, by decide +kernel, nmX12, ⟨tyX12, tyX12_ok⟩, 11, rfl, fun ρ => ⟨_, rfl, by simp, fun x _ => rfl, fun x h => by cases h⟩⟩
theorem k_gM0_24 (w : k_WC) : k_OG (k_PM w) 0 (w.2.1 0) 24 RX12 TX12 73 (fun _ => .ref (w.2.1 14)) := ⟨k_inX12, by decide, 11, rfl, fun ρ => ⟨_, rfl, rfl⟩⟩
theorem k_gM0_25 (w : k_WC) : k_OG (k_PM w) 0 (w.2.1 0) 25 RX12 TX12 73 (fun _ => .ref (w.2.1 15)) := ⟨k_inX12, by decide, 11, rfl, fun ρ => ⟨_, rfl, rfl⟩⟩
theorem k_gM0_26 (w : k_WC) : k_OG (k_PM w) 0 (w.2.1 0) 26 RX12 TX12 73 (fun σ => .int (k_rd σ 0 26)) := ⟨k_inX12, by decide, 11, rfl, fun ρ => ⟨_, rfl, rfl⟩⟩
theorem k_pM0_26 (w : k_WC) : k_OP (k_PM w) 0 (w.2.1 0) 26 RX12 TX12 73 .boolean := ⟨k_inX12, by decide, rfl, by decide +kernel, nmX12, ⟨tyX12, tyX12_ok⟩, 11, rfl, fun ρ => ⟨_, rfl, by simp, fun x _ => rfl, fun x h => by cases h⟩⟩
theorem k_gM0_27 (w : k_WC) : k_OG (k_PM w) 0 (w.2.1 0) 27 RX12 TX12 73 (fun σ => .int (k_rd σ 0 27)) := ⟨k_inX12, by decide, 11, rfl, fun ρ => ⟨_, rfl, rfl⟩⟩
theorem k_pM0_27 (w : k_WC) : k_OP (k_PM w) 0 (w.2.1 0) 27 RX12 TX12 73 .boolean := ⟨k_inX12, by decide, rfl, by decide +kernel, nmX12, ⟨tyX12, tyX12_ok⟩, 11, rfl, fun ρ => ⟨_, rfl, by simp, fun x _ => rfl, fun x h => by cases h⟩⟩
theorem k_gM0_28 (w : k_WC) : k_OG (k_PM w) 0 (w.2.1 0) 28 RX12 TX12 73 (fun σ => .int (k_rd σ 0 28)) := ⟨k_inX12, by decide, 11, rfl, fun ρ => ⟨_, rfl, rfl⟩⟩
theorem k_pM0_28 (w : k_WC) : k_OP (k_PM w) 0 (w.2.1 0) 28 RX12 TX12 73 .boolean := ⟨k_inX12, by decide, rfl, by decide +kernel, nmX12, ⟨tyX12, tyX12_ok⟩, 11, rfl, fun ρ => ⟨_, rfl, by simp, fun x _ => rfl, fun x h => by cases h⟩⟩
theorem k_gM0_29 (w : k_WC) : k_OG (k_PM w) 0 (w.2.1 0) 29 RX12 TX12 73 (fun σ => .int (k_rd σ 0 29)) := ⟨k_inX12, by decide, 11, rfl, fun ρ => ⟨_, rfl, rfl⟩⟩
theorem k_pM0_29 (w : k_WC) : k_OP (k_PM w) 0 (w.2.1 0) 29 RX12 TX12 73 .boolean := ⟨k_inX12, by decide, rfl, by decide +kernel, nmX12, ⟨tyX12, tyX12_ok⟩, 11, rfl, fun ρ => ⟨_, rfl, by simp, fun x _ => rfl, fun x h => by cases h⟩⟩
theorem k_gM0_30 (w : k_WC) : k_OG (k_PM w) 0 (w.2.1 0) 30 RX12 TX12 73 (fun σ => .int (k_rd σ 0 30)) := ⟨k_inX12, by decide, 11, rfl, fun ρ => ⟨_, rfl, rfl⟩⟩
theorem k_pM0_30 (w : k_WC) : k_OP (k_PM w) 0 (w.2.1 0) 30 RX12 TX12 73 .int := ⟨k_inX12, by decide, rfl, by decide +kernel, nmX12, ⟨tyX12, tyX12_ok⟩, 11, rfl, fun ρ => ⟨_, rfl, by simp, fun x _ => rfl, fun x h => by cases h⟩⟩
theorem k_gM0_31 (w : k_WC) : k_OG (k_PM w) 0 (w.2.1 0) 31 RX12 TX12 73 (fun _ => .ref (w.2.1 16)) := ⟨k_inX12, by decide, 11, rfl, fun ρ => ⟨_, rfl, rfl⟩⟩
theorem k_gM0_32 (w : k_WC) : k_OG (k_PM w) 0 (w.2.1 0) 32 RX12 TX12 73 (fun _ => .ref (w.2.1 17)) := ⟨k_inX12, by decide, 11, rfl, fun ρ => ⟨_, rfl, rfl⟩⟩
theorem k_gM0_33 (w : k_WC) : k_OG (k_PM w) 0 (w.2.1 0) 33 RX12 TX12 73 (fun _ => .ref (w.2.1 18)) := ⟨k_inX12, by decide, 11, rfl, fun ρ => ⟨_, rfl, rfl⟩⟩
theorem k_gM0_34 (w : k_WC) : k_OG (k_PM w) 0 (w.2.1 0) 34 RX12 TX12 73 (fun σ => .int (k_rd σ 0 34)) := ⟨k_inX12, by decide, 11, rfl, fun ρ => ⟨_, rfl, rfl⟩⟩
theorem k_pM0_34 (w : k_WC) : k_OP (k_PM w) 0 (w.2.1 0) 34 RX12 TX12 73 .int := ⟨k_inX12, by decide, rfl, by decide +kernel, nmX12, ⟨tyX12, tyX12_ok⟩, 11, rfl, fun ρ => ⟨_, rfl, by simp, fun x _ => rfl, fun x h => by cases h⟩⟩
theorem k_gM0_35 (w : k_WC) : k_OG (k_PM w) 0 (w.2.1 0) 35 RX12 TX12 73 (fun σ => .int (k_rd σ 0 35)) := ⟨k_inX12, by decide, 11, rfl, fun ρ => ⟨_, rfl, rfl⟩⟩
theorem k_pM0_35 (w : k_WC) : k_OP (k_PM w) 0 (w.2.1 0) 35 RX12 TX12 73 .int := ⟨k_inX12, by decide, rfl, by decide +kernel, nmX12, ⟨tyX12, tyX12_ok⟩, 11, rfl, fun ρ => ⟨_, rfl, by simp, fun x _ => rfl, fun x h => by cases h⟩⟩
theorem k_gM0_36 (w : k_WC) : k_OG (k_PM w) 0 (w.2.1 0) 36 RX12 TX12 73 (fun _ => .ref (w.2.1 19)) := ⟨k_inX12, by decide, 11, rfl, fun ρ => ⟨_, rfl, rfl⟩⟩
theorem k_gM0_37 (w : k_WC) : k_OG (k_PM w) 0 (w.2.1 0) 37 RX12 TX12 73 (fun _ => .ref (w.2.1 20)) := ⟨k_inX12, by decide, 11, rfl, fun ρ => ⟨_, rfl, rfl⟩⟩
theorem k_gM0_38 (w : k_WC) : k_OG (k_PM w) 0 (w.2.1 0) 38 RX12 TX12 73 (fun _ => .ref (w.2.1 21)) := ⟨k_inX12, by decide, 11, rfl, fun ρ => ⟨_, rfl, rfl⟩⟩
theorem k_gM0_39 (w : k_WC) : k_OG (k_PM w) 0 (w.2.1 0) 39 RX12 TX12 73 (fun _ => .ref (w.2.1 22)) := ⟨k_inX12, by decide, 11, rfl, fun ρ => ⟨_, rfl, rfl⟩⟩
theorem k_gM0_40 (w : k_WC) : k_OG (k_PM w) 0 (w.2.1 0) 40 RX12 TX12 73 (fun _ => .ref (w.2.1 23)) := ⟨k_inX12, by decide, 11, rfl, fun ρ => ⟨_, rfl, rfl⟩⟩
theorem k_gM0_41 (w : k_WC) : k_OG (k_PM w) 0 (w.2.1 0) 41 RX12 TX12 73 (fun _ => .ref (w.2.1 24)) := ⟨k_inX12, by decide, 11, rfl, fun ρ => ⟨_, rfl, rfl⟩⟩
theorem k_gM0_42 (w : k_WC) : k_OG (k_PM w) 0 (w.2.1 0) 42 RX12 TX12 73 (fun _ => .ref (w.2.1 25)) := ⟨k_inX12, by decide, 11, rfl, fun ρ => ⟨_, rfl, rfl⟩⟩
theorem k_gM0_43 (w : k_WC) : k_OG (k_PM w) 0 (w.2.1 0) 43 RX12 TX12 73 (fun _ => .ref (w.2.1 26)) := ⟨k_inX12, by decide, 11, rfl, fun ρ => ⟨_, rfl, rfl⟩⟩
theorem k_gM0_44 (w : k_WC) : k_OG (k_PM w) 0 (w.2.1 0) 44 RX12 TX12 73 (fun _ => .ref (w.2.1 27)) := ⟨k_inX12, by decide, 11, rfl, fun ρ => ⟨_, rfl, rfl⟩⟩
theorem k_gM0_45 (w : k_WC) : k_OG (k_PM w) 0 (w.2.1 0) 45 RX12 TX12 73 (fun _ => .ref (w.2.1 28)) := ⟨k_inX12, by decide, 11, rfl, fun ρ => ⟨_, rfl, rfl⟩⟩
theorem k_gM0_46 (w : k_WC) : k_OG (k_PM w) 0 (w.2.1 0) 46 RX12 TX12 73 (fun _ => .ref (w.2.1 29)) := ⟨k_inX12, by decide, 11, rfl, fun ρ => ⟨_, rfl, rfl⟩⟩
theorem k_gM0_47 (w : k_WC) : k_OG (k_PM w) 0 (w.2.1 0) 47 RX12 TX12 73 (fun _ => .ref (w.2.1 30)) := ⟨k_inX12, by decide, 11, rfl, fun ρ => ⟨_, rfl, rfl⟩⟩
theorem k_gM0_48 (w : k_WC) : k_OG (k_PM w) 0 (w.2.1 0) 48 RX12 TX12 73 (fun _ => .ref (w.2.1 31)) := ⟨k_inX12, by decide, 11, rfl, fun ρ => ⟨_, rfl, rfl⟩⟩
theorem k_gM0_49 (w : k_WC) : k_OG (k_PM w) 0 (w.2.1 0) 49 RX12 TX12 73 (fun _ => .ref (w.2.1 32)) := ⟨k_inX12, by decide, 11, rfl, fun ρ => ⟨_, rfl, rfl⟩⟩
theorem k_gM0_50 (w : k_WC) : k_OG (k_PM w) 0 (w.2.1 0) 50 RX12 TX12 73 (fun _ => .ref (w.2.1 33)) := ⟨k_inX12, by decide, 11, rfl, fun ρ => ⟨_, rfl, rfl⟩⟩
theorem k_gM0_51 (w : k_WC) : k_OG (k_PM w) 0 (w.2.1 0) 51 RX12 TX12 73 (fun _ => .ref (w.2.1 34)) := ⟨k_inX12, by decide, 11, rfl, fun ρ => ⟨_, rfl, rfl⟩⟩
theorem k_gM0_52 (w : k_WC) : k_OG (k_PM w) 0 (w.2.1 0) 52 RX12 TX12 73 (fun σ => .int (k_rd σ 0 52)) := ⟨k_inX12, by decide, 11, rfl, fun ρ => ⟨_, rfl, rfl⟩⟩
theorem k_pM0_52 (w : k_WC) : k_OP (k_PM w) 0 (w.2.1 0) 52 RX12 TX12 73 .int := ⟨k_inX12, by decide, rfl, by decide +kernel, nmX12, ⟨tyX12, tyX12_ok⟩, 11, rfl, fun ρ => ⟨_, rfl, by simp, fun x _ => rfl, fun x h => by cases h⟩⟩
theorem k_gM0_53 (w : k_WC) : k_OG (k_PM w) 0 (w.2.1 0) 53 RX12 TX12 73 (fun _ => .ref (w.2.1 35)) := ⟨k_inX12, by decide, 11, rfl, fun ρ => ⟨_, rfl, rfl⟩⟩
theorem k_gM0_54 (w : k_WC) : k_OG (k_PM w) 0 (w.2.1 0) 54 RX12 TX12 73 (fun _ => .ref (w.2.1 36)) := ⟨k_inX12, by decide, 11, rfl, fun ρ => ⟨_, rfl, rfl⟩⟩
theorem k_gM0_55 (w : k_WC) : k_OG (k_PM w) 0 (w.2.1 0) 55 RX12 TX12 73 (fun _ => .ref (w.2.1 37)) := ⟨k_inX12, by decide, 11, rfl, fun ρ => ⟨_, rfl, rfl⟩⟩
theorem k_gM0_56 (w : k_WC) : k_OG (k_PM w) 0 (w.2.1 0) 56 RX12 TX12 73 (fun _ => .ref (w.2.1 38)) := ⟨k_inX12, by decide, 11, rfl, fun ρ => ⟨_, rfl, rfl⟩⟩
theorem k_gM0_57 (w : k_WC) : k_OG (k_PM w) 0 (w.2.1 0) 57 RX12 TX12 73 (fun _ => .ref (w.2.1 39)) := ⟨k_inX12, by decide, 11, rfl, fun ρ => ⟨_, rfl, rfl⟩⟩
theorem k_gM0_58 (w : k_WC) : k_OG (k_PM w) 0 (w.2.1 0) 58 RX12 TX12 73 (fun _ => .ref (w.2.1 40)) := ⟨k_inX12, by decide, 11, rfl, fun ρ => ⟨_, rfl, rfl⟩⟩
theorem k_gM0_59 (w : k_WC) : k_OG (k_PM w) 0 (w.2.1 0) 59 RX12 TX12 73 (fun σ => .int (k_rd σ 0 59)) := ⟨k_inX12, by decide, 11, rfl, fun ρ => ⟨_, rfl, rfl⟩⟩
theorem k_pM0_59 (w : k_WC) : k_OP (k_PM w) 0 (w.2.1 0) 59 RX12 TX12 73 .int := ⟨k_inX12, by decide, rfl, by decide +kernel, nmX12, ⟨tyX12, tyX12_ok⟩, 11, rfl, fun ρ => ⟨_, rfl, by simp, fun x _ => rfl, fun x h => by cases h⟩⟩
theorem k_gM0_60 (w : k_WC) : k_OG (k_PM w) 0 (w.2.1 0) 60 RX12 TX12 73 (fun σ => .long (k_rl σ 0 60)) := ⟨k_inX12, by decide, 11, rfl, fun ρ => ⟨_, rfl, rfl⟩⟩
theorem k_pM0_60 (w : k_WC) : k_OP (k_PM w) 0 (w.2.1 0) 60 RX12 TX12 73 .long := ⟨k_inX12, by decide, rfl, by decide +kernel, nmX12, ⟨tyX12, tyX12_ok⟩, 11, rfl, fun ρ => ⟨_, rfl, by simp, fun x h => absurd rfl h, fun x _ => rfl⟩⟩
theorem k_gM0_61 (w : k_WC) : k_OG (k_PM w) 0 (w.2.1 0) 61 RX12 TX12 73 (fun _ => .ref (w.2.1 41)) := ⟨k_inX12, by decide, 11, rfl, fun ρ => ⟨_, rfl, rfl⟩⟩
theorem k_gM0_62 (w : k_WC) : k_OG (k_PM w) 0 (w.2.1 0) 62 RX12 TX12 73 (fun _ => .ref (w.2.1 42)) := ⟨k_inX12, by decide, 11, rfl, fun ρ => ⟨_, rfl, rfl⟩⟩
theorem k_gM0_63 (w : k_WC) : k_OG (k_PM w) 0 (w.2.1 0) 63 RX12 TX12 73 (fun _ => .ref (w.2.1 43)) := ⟨k_inX12, by decide, 11, rfl, fun ρ => ⟨_, rfl, rfl⟩⟩
theorem k_gM0_64 (w : k_WC) : k_OG (k_PM w) 0 (w.2.1 0) 64 RX12 TX12 73 (fun _ => .ref (w.2.1 44)) := ⟨k_inX12, by decide, 11, rfl, fun ρ => ⟨_, rfl, rfl⟩⟩
theorem k_gM0_65 (w : k_WC) : k_OG (k_PM w) 0 (w.2.1 0) 65 RX12 TX12 73 (fun _ => .ref (w.2.1 45)) := ⟨k_inX12, by decide, 11, rfl, fun ρ => ⟨_, rfl, rfl⟩⟩
theorem k_gM0_66 (w : k_WC) : k_OG (k_PM w) 0 (w.2.1 0) 66 RX12 TX12 73 (fun _ => .ref (w.2.1 46)) := ⟨k_inX12, by decide, 11, rfl, fun ρ => ⟨_, rfl, rfl⟩⟩
theorem k_gM0_67 (w : k_WC) : k_OG (k_PM w) 0 (w.2.1 0) 67 RX12 TX12 73 (fun σ => .int (k_rd σ 0 67)) := ⟨k_inX12, by decide, 11, rfl, fun ρ => ⟨_, rfl, rfl⟩⟩
theorem k_pM0_67 (w : k_WC) : k_OP (k_PM w) 0 (w.2.1 0) 67 RX12 TX12 73 .int := ⟨k_inX12, by decide, rfl, by decide +kernel, nmX12, ⟨tyX12, tyX12_ok⟩, 11, rfl, fun ρ => ⟨_, rfl, by simp, fun x _ => rfl, fun x h => by cases h⟩⟩
theorem k_gM0_68 (w : k_WC) : k_OG (k_PM w) 0 (w.2.1 0) 68 RX12 TX12 73 (fun σ => .int (k_rd σ 0 68)) := ⟨k_inX12, by decide, 11, rfl, fun ρ => ⟨_, rfl, rfl⟩⟩
theorem k_pM0_68 (w : k_WC) : k_OP (k_PM w) 0 (w.2.1 0) 68 RX12 TX12 73 .boolean := ⟨k_inX12, by decide, rfl, by decide +kernel, nmX12, ⟨tyX12, tyX12_ok⟩, 11, rfl, fun ρ => ⟨_, rfl, by simp, fun x _ => rfl, fun x h => by cases h⟩⟩
theorem k_gM0_69 (w : k_WC) : k_OG (k_PM w) 0 (w.2.1 0) 69 RX12 TX12 73 (fun σ => .int (k_rd σ 0 69)) := ⟨k_inX12, by decide, 11, rfl, fun ρ => ⟨_, rfl, rfl⟩⟩
theorem k_pM0_69 (w : k_WC) : k_OP (k_PM w) 0 (w.2.1 0) 69 RX12 TX12 73 .boolean := ⟨k_inX12, by decide, rfl, by decide +kernel, nmX12, ⟨tyX12, tyX12_ok⟩, 11, rfl, fun ρ => ⟨_, rfl, by simp, fun x _ => rfl, fun x h => by cases h⟩⟩
theorem k_gM0_70 (w : k_WC) : k_OG (k_PM w) 0 (w.2.1 0) 70 RX12 TX12 73 (fun σ => .int (k_rd σ 0 70)) := ⟨k_inX12, by decide, 11, rfl, fun ρ => ⟨_, rfl, rfl⟩⟩
theorem k_pM0_70 (w : k_WC) : k_OP (k_PM w) 0 (w.2.1 0) 70 RX12 TX12 73 .boolean := ⟨k_inX12, by decide, rfl, by decide +kernel, nmX12, ⟨tyX12, tyX12_ok⟩, 11, rfl, fun ρ => ⟨_, rfl, by simp, fun x _ => rfl, fun x h => by cases h⟩⟩
theorem k_gM0_71 (w : k_WC) : k_OG (k_PM w) 0 (w.2.1 0) 71 RX12 TX12 73 (fun σ => .int (k_rd σ 0 71)) := ⟨k_inX12, by decide, 11, rfl, fun ρ => ⟨_, rfl, rfl⟩⟩
theorem k_pM0_71 (w : k_WC) : k_OP (k_PM w) 0 (w.2.1 0) 71 RX12 TX12 73 .int := ⟨k_inX12, by decide, rfl, by decide +kernel, nmX12, ⟨tyX12, tyX12_ok⟩, 11, rfl, fun ρ => ⟨_, rfl, by simp, fun x _ => rfl, fun x h => by cases h⟩⟩
theorem k_gM0_72 (w : k_WC) : k_OG (k_PM w) 0 (w.2.1 0) 72 RX12 TX12 73 (fun σ => .long (k_rl σ 0 72)) := ⟨k_inX12, by decide, 11, rfl, fun ρ => ⟨_, rfl, rfl⟩⟩
theorem k_pM0_72 (w : k_WC) : k_OP (k_PM w) 0 (w.2.1 0) 72 RX12 TX12 73 .long := ⟨k_inX12, by decide, rfl, by decide +kernel, nmX12, ⟨tyX12, tyX12_ok⟩, 11, rfl, fun ρ => ⟨_, rfl, by simp, fun x h => absurd rfl h, fun x _ => rfl⟩⟩
theorem k_aM1 (w : k_WC) : k_AI (k_PM w) .int 1 (w.2.1 1) 160 := ⟨0, _, rfl, fun ρ => ⟨rfl, fun f => rfl⟩⟩
theorem k_aM2 (w : k_WC) : k_AI (k_PM w) .int 2 (w.2.1 2) 1700 := ⟨0, _, rfl, fun ρ => ⟨rfl, fun f => rfl⟩⟩
theorem k_aM3 (w : k_WC) : k_AI (k_PM w) .int 3 (w.2.1 3) 1700 := ⟨0, _, rfl, fun ρ => ⟨rfl, fun f => rfl⟩⟩
theorem k_aM4 (w : k_WC) : k_AI (k_PM w) .int 4 (w.2.1 4) 5 := ⟨0, _, rfl, fun ρ => ⟨rfl, fun f => rfl⟩⟩
theorem k_aM5 (w : k_WC) : k_AI (k_PM w) .int 5 (w.2.1 5) 5 := ⟨0, _, rfl, fun ρ => ⟨rfl, fun f => rfl⟩⟩
theorem k_aM6 (w : k_WC) : k_AI (k_PM w) .int 6 (w.2.1 6) 450 := ⟨0, _, rfl, fun ρ => ⟨rfl, fun f => rfl⟩⟩
theorem k_aM7 (w : k_WC) : k_AI (k_PM w) .int 7 (w.2.1 7) 450 := ⟨0, _, rfl, fun ρ => ⟨rfl, fun f => rfl⟩⟩
theorem k_aM8 (w : k_WC) : k_AI (k_PM w) .int 8 (w.2.1 8) 450 := ⟨0, _, rfl, fun ρ => ⟨rfl, fun f => rfl⟩⟩
theorem k_aM9 (w : k_WC) : k_AI (k_PM w) .int 9 (w.2.1 9) 5 := ⟨0, _, rfl, fun ρ => ⟨rfl, fun f => rfl⟩⟩
theorem k_aM10 (w : k_WC) : k_AI (k_PM w) .int 10 (w.2.1 10) 80 := ⟨0, _, rfl, fun ρ => ⟨rfl, fun f => rfl⟩⟩
theorem k_aM11 (w : k_WC) : k_AI (k_PM w) .int 11 (w.2.1 11) 24 := ⟨0, _, rfl, fun ρ => ⟨rfl, fun f => rfl⟩⟩
theorem k_aM12 (w : k_WC) : k_AI (k_PM w) .int 12 (w.2.1 12) 2 := ⟨0, _, rfl, fun ρ => ⟨rfl, fun f => rfl⟩⟩
theorem k_aM13 (w : k_WC) : k_AI (k_PM w) .int 13 (w.2.1 13) 24 := ⟨0, _, rfl, fun ρ => ⟨rfl, fun f => rfl⟩⟩
theorem k_aM14 (w : k_WC) : k_AI (k_PM w) .int 14 (w.2.1 14) 4 := ⟨0, _, rfl, fun ρ => ⟨rfl, fun f => rfl⟩⟩
theorem k_aM15 (w : k_WC) : k_AI (k_PM w) .int 15 (w.2.1 15) 16 := ⟨0, _, rfl, fun ρ => ⟨rfl, fun f => rfl⟩⟩
theorem k_aM16 (w : k_WC) : k_AI (k_PM w) .int 16 (w.2.1 16) 4 := ⟨0, _, rfl, fun ρ => ⟨rfl, fun f => rfl⟩⟩
theorem k_aM17 (w : k_WC) : k_AI (k_PM w) .int 17 (w.2.1 17) 96 := ⟨0, _, rfl, fun ρ => ⟨rfl, fun f => rfl⟩⟩
theorem k_aM18 (w : k_WC) : k_AI (k_PM w) .int 18 (w.2.1 18) 16 := ⟨0, _, rfl, fun ρ => ⟨rfl, fun f => rfl⟩⟩
theorem k_aM19 (w : k_WC) : k_AI (k_PM w) .int 19 (w.2.1 19) 16 := ⟨0, _, rfl, fun ρ => ⟨rfl, fun f => rfl⟩⟩
theorem k_aM20 (w : k_WC) : k_AI (k_PM w) .int 20 (w.2.1 20) 4 := ⟨0, _, rfl, fun ρ => ⟨rfl, fun f => rfl⟩⟩
theorem k_aM21 (w : k_WC) : k_AI (k_PM w) .int 21 (w.2.1 21) 256 := ⟨0, _, rfl, fun ρ => ⟨rfl, fun f => rfl⟩⟩
theorem k_aM22 (w : k_WC) : k_AI (k_PM w) .int 22 (w.2.1 22) 4 := ⟨0, _, rfl, fun ρ => ⟨rfl, fun f => rfl⟩⟩
theorem k_aM23 (w : k_WC) : k_AI (k_PM w) .int 23 (w.2.1 23) 64 := ⟨0, _, rfl, fun ρ => ⟨rfl, fun f => rfl⟩⟩
theorem k_aM24 (w : k_WC) : k_AI (k_PM w) .boolean 24 (w.2.1 24) 4 := ⟨2, _, rfl, fun ρ => ⟨rfl, fun f => rfl⟩⟩
theorem k_aM25 (w : k_WC) : k_AI (k_PM w) .int 25 (w.2.1 25) 4 := ⟨0, _, rfl, fun ρ => ⟨rfl, fun f => rfl⟩⟩
theorem k_aM26 (w : k_WC) : k_AI (k_PM w) .int 26 (w.2.1 26) 96 := ⟨0, _, rfl, fun ρ => ⟨rfl, fun f => rfl⟩⟩
theorem k_aM27 (w : k_WC) : k_AL (k_PM w) 27 (w.2.1 27) 192 := ⟨1, _, rfl, fun ρ => ⟨rfl, fun f => rfl⟩⟩
theorem k_aM28 (w : k_WC) : k_AI (k_PM w) .int 28 (w.2.1 28) 4 := ⟨0, _, rfl, fun ρ => ⟨rfl, fun f => rfl⟩⟩
theorem k_aM29 (w : k_WC) : k_AI (k_PM w) .int 29 (w.2.1 29) 4 := ⟨0, _, rfl, fun ρ => ⟨rfl, fun f => rfl⟩⟩
theorem k_aM30 (w : k_WC) : k_AI (k_PM w) .int 30 (w.2.1 30) 4 := ⟨0, _, rfl, fun ρ => ⟨rfl, fun f => rfl⟩⟩
theorem k_aM31 (w : k_WC) : k_AI (k_PM w) .int 31 (w.2.1 31) 4 := ⟨0, _, rfl, fun ρ => ⟨rfl, fun f => rfl⟩⟩
theorem k_aM32 (w : k_WC) : k_AI (k_PM w) .int 32 (w.2.1 32) 4 := ⟨0, _, rfl, fun ρ => ⟨rfl, fun f => rfl⟩⟩
theorem k_aM33 (w : k_WC) : k_AI (k_PM w) .int 33 (w.2.1 33) 20 := ⟨0, _, rfl, fun ρ => ⟨rfl, fun f => rfl⟩⟩
theorem k_aM34 (w : k_WC) : k_AI (k_PM w) .int 34 (w.2.1 34) 20 := ⟨0, _, rfl, fun ρ => ⟨rfl, fun f => rfl⟩⟩
theorem k_aM35 (w : k_WC) : k_AI (k_PM w) .int 35 (w.2.1 35) 40 := ⟨0, _, rfl, fun ρ => ⟨rfl, fun f => rfl⟩⟩
theorem k_aM36 (w : k_WC) : k_AI (k_PM w) .int 36 (w.2.1 36) 40 := ⟨0, _, rfl, fun ρ => ⟨rfl, fun f => rfl⟩⟩
theorem k_aM37 (w : k_WC) : k_AI (k_PM w) .int 37 (w.2.1 37) 40 := ⟨0, _, rfl, fun ρ => ⟨rfl, fun f => rfl⟩⟩
theorem k_aM38 (w : k_WC) : k_AL (k_PM w) 38 (w.2.1 38) 40 := ⟨1, _, rfl, fun ρ => ⟨rfl, fun f => rfl⟩⟩
theorem k_aM39 (w : k_WC) : k_AI (k_PM w) .int 39 (w.2.1 39) 640 := ⟨0, _, rfl, fun ρ => ⟨rfl, fun f => rfl⟩⟩
theorem k_aM40 (w : k_WC) : k_AI (k_PM w) .int 40 (w.2.1 40) 40 := ⟨0, _, rfl, fun ρ => ⟨rfl, fun f => rfl⟩⟩
theorem k_aM41 (w : k_WC) : k_AI (k_PM w) .int 41 (w.2.1 41) 4 := ⟨0, _, rfl, fun ρ => ⟨rfl, fun f => rfl⟩⟩
theorem k_aM42 (w : k_WC) : k_AI (k_PM w) .int 42 (w.2.1 42) 16 := ⟨0, _, rfl, fun ρ => ⟨rfl, fun f => rfl⟩⟩
theorem k_aM43 (w : k_WC) : k_AI (k_PM w) .int 43 (w.2.1 43) 120 := ⟨0, _, rfl, fun ρ => ⟨rfl, fun f => rfl⟩⟩
theorem k_aM44 (w : k_WC) : k_AI (k_PM w) .int 44 (w.2.1 44) 640 := ⟨0, _, rfl, fun ρ => ⟨rfl, fun f => rfl⟩⟩
theorem k_aM45 (w : k_WC) : k_AL (k_PM w) 45 (w.2.1 45) 40 := ⟨1, _, rfl, fun ρ => ⟨rfl, fun f => rfl⟩⟩
theorem k_aM46 (w : k_WC) : k_AI (k_PM w) .int 46 (w.2.1 46) 40 := ⟨0, _, rfl, fun ρ => ⟨rfl, fun f => rfl⟩⟩
theorem k_FX.ok (w : k_WC) : k_FP (k_PX w) := fun s U H H1 hW hk h => by
  obtain ⟨a1, a2, a3, a4, a5, a6, a7, a8, a9, a10⟩ := h
  exact ⟨(a1.kept hk).moved hW.alike, a2.warm hW, a3.warm hW, a4.warm hW, fun k h => ((a5 k h).kept hk).moved hW.alike, (a6.kept hk).moved hW.alike, (a7.kept hk).moved hW.alike, (a8.kept hk).moved hW.alike, (a9.kept hk).moved hW.alike, (a10.kept hk).moved hW.alike⟩
theorem k_FM.ok (w : k_WC) : k_FP (k_PM w) := fun _ _ _ _ _ _ _ => trivial
theorem k_C.fx {w : k_WC} {X : k_CT} {cc : ByteArray} {own : String} {d nL : Nat} (C : k_C (k_PX w) X cc own d nL) : k_FX w X.2.2.2.2.1 X.2.2.2.2.1.heap := C.2.2.2.2.2.2.2.2.2.2.2
section KS
variable {w : k_WC} {X : k_CT} {cc : ByteArray} {own : String} {d nL pc : Nat} {Q : State → Prop} {L : List (Nat × Value)} {st rest : List Value} {σ : k_St} {y : MethodName} {b : ByteArray} {ml d2 idx : Nat} {ret : Option FieldType} {As : List Value} {Qc : Array Value → State → Outcome → State → Prop}
theorem k_ldS0 (C : k_C (k_PX w) X cc RX2 d nL) (hd : decode cc pc = .ok (.ldc 92, 2)) (k : k_K (k_PX w) X Q (pc + 2) L (.ref (w.2.2.2.2.2 0) :: st) σ) : k_K (k_PX w) X Q pc L st σ := fun H locs ls hP hS hl => va_ldcS C.1 C.2.1 C.2.2.2.1 C.fx.2.1 hd (k H locs ls hP hS hl)
theorem k_ldS1 (C : k_C (k_PX w) X cc RX2 d nL) (hd : decode cc pc = .ok (.ldc 66, 2)) (k : k_K (k_PX w) X Q (pc + 2) L (.ref (w.2.2.2.2.2 1) :: st) σ) : k_K (k_PX w) X Q pc L st σ := fun H locs ls hP hS hl => va_ldcS C.1 C.2.1 C.2.2.2.1 C.fx.2.2.1 hd (k H locs ls hP hS hl)
theorem k_ldS2 (C : k_C (k_PX w) X cc RX10 d nL) (hd : decode cc pc = .ok (.ldc 153, 2)) (k : k_K (k_PX w) X Q (pc + 2) L (.ref (w.2.2.2.2.2 2) :: st) σ) : k_K (k_PX w) X Q pc L st σ := fun H locs ls hP hS hl => va_ldcS C.1 C.2.1 C.2.2.2.1 C.fx.2.2.2.1 hd (k H locs ls hP hS hl)
theorem k_gs (C : k_C (k_PX w) X cc own d nL) {K n de : String} {v : Value} (hd : decode cc pc = .ok (.getstatic idx, 3)) (hZ : va_Z K n de v (fun a => ∃ c, c < 50 ∧ a = w.2.1 c) X.2.2.2.2.1 X.2.2.2.2.1.heap) (hl : Cond.fieldLink own idx K n de ∈ k_TT) (k : k_K (k_PX w) X Q (pc + 3) L (v :: st) σ) : k_K (k_PX w) X Q pc L st σ := fun H locs ls hP hS hl0 => va_gets C.1 C.2.1 hZ hS C.2.2.2.1 (C.2.2.2.2.1 _ hl) (fun _ h => h) hd (k H locs ls hP hS hl0)
theorem k_tui (C : k_C (k_PX w) X cc own d nL) {u : Nat} {i : Int32} (hd : decode cc pc = .ok (.iaload, 1)) (hu : u < 4) (hi : k_ix i (su_n u) = true) (k : k_K (k_PX w) X Q (pc + 1) L (.int (su_v u i.toNatClampNeg) :: st) σ) : k_K (k_PX w) X Q pc L (.int i :: .ref (w.2.2.2.2.2 (u + 6)) :: st) σ := fun H locs ls hP hS hl0 => va_ti C.1 C.2.1 (C.fx.2.2.2.2.1 u hu) hS (k_ix_vp hi) rfl hd (k H locs ls hP hS hl0)
theorem k_tulen (C : k_C (k_PX w) X cc own d nL) {u : Nat} (hd : decode cc pc = .ok (.arraylength, 1)) (hu : u < 4) (k : k_K (k_PX w) X Q (pc + 1) L (.int (Int32.ofNat (su_n u)) :: st) σ) : k_K (k_PX w) X Q pc L (.ref (w.2.2.2.2.2 (u + 6)) :: st) σ := fun H locs ls hP hS hl0 => va_tlen C.1 C.2.1 (C.fx.2.2.2.2.1 u hu) hS rfl hd (k H locs ls hP hS hl0)
theorem k_sco (C : k_C (k_PX w) X cc "java/lang/String" d nL) {i : Nat} (hd : decode cc pc = .ok (.getfield idx, 3)) (hi : i < 3) (hl : Cond.fieldLink "java/lang/String" idx "java/lang/String" "coder" "B" ∈ k_TT) (k : k_K (k_PX w) X Q (pc + 3) L (.int 0 :: st) σ) : k_K (k_PX w) X Q pc L (.ref (w.2.2.2.2.2 i) :: st) σ := fun H locs ls hP hS hl0 => vk_getf C.1 C.2.1 (C.fx.1.1 i hi).2.1 hS C.2.2.2.1 (C.2.2.2.2.1 _ hl) (fun _ h => h) hd (k H locs ls hP hS hl0)
theorem k_sva (C : k_C (k_PX w) X cc "java/lang/String" d nL) {i : Nat} (hd : decode cc pc = .ok (.getfield idx, 3)) (hi : i < 3) (hl : Cond.fieldLink "java/lang/String" idx "java/lang/String" "value" "[B" ∈ k_TT) (k : k_K (k_PX w) X Q (pc + 3) L (.ref (w.2.2.2.2.2 (i + 3)) :: st) σ) : k_K (k_PX w) X Q pc L (.ref (w.2.2.2.2.2 i) :: st) σ := fun H locs ls hP hS hl0 => vk_getf C.1 C.2.1 (C.fx.1.1 i hi).2.2.1 hS C.2.2.2.1 (C.2.2.2.2.1 _ hl) (fun _ h => h) hd (k H locs ls hP hS hl0)
theorem k_stb (C : k_C (k_PX w) X cc own d nL) {i : Nat} {j : Int32} (hd : decode cc pc = .ok (.baload, 1)) (hi : i < 3) (hj : k_ix j (sc_n i) = true) (k : k_K (k_PX w) X Q (pc + 1) L (.int (sc_v i j.toNatClampNeg) :: st) σ) : k_K (k_PX w) X Q pc L (.int j :: .ref (w.2.2.2.2.2 (i + 3)) :: st) σ := fun H locs ls hP hS hl0 => va_tb C.1 C.2.1 (C.fx.1.1 i hi).2.2.2 hS (k_ix_vp hj) rfl hd (k H locs ls hP hS hl0)
theorem k_stlen (C : k_C (k_PX w) X cc own d nL) {i : Nat} (hd : decode cc pc = .ok (.arraylength, 1)) (hi : i < 3) (k : k_K (k_PX w) X Q (pc + 1) L (.int (Int32.ofNat (sc_n i)) :: st) σ) : k_K (k_PX w) X Q pc L (.ref (w.2.2.2.2.2 (i + 3)) :: st) σ := fun H locs ls hP hS hl0 => va_tlen C.1 C.2.1 (C.fx.1.1 i hi).2.2.2 hS rfl hd (k H locs ls hP hS hl0)
theorem k_runVS (C : k_C (k_PX w) X cc own d nL) {i : Nat} (hd : decode cc pc = .ok (.invokevirtual idx, 3)) (hM : Met X.2.1 y (k_ws y b ml ret) (k_rm d2) (va_Pc (.ref (w.2.2.2.2.2 i) :: As) (k_W (k_PX w) σ)) Qc 0 0 (k_PX w).2.2.1) (hi : i < 3) (hL : Cond.methodLink own idx y ∈ k_TT ∧ Cond.instanceMethod y ∈ k_TT ∧ Cond.selects "java/lang/String" y y ∈ k_TT) (hy : k_Ly y b ml ret As.length) (hdd : d2 < d) (hst : As.reverse ++ .ref (w.2.2.2.2.2 i) :: rest = st) (hw : (rest.map fun v => v.category).sum ≤ 8) : k_Run (k_PX w) X pc L st rest σ (Qc (Value.ref (w.2.2.2.2.2 i) :: As).toArray) := fun H locs ls hP hS hl => by
  subst hst
  have hrc := vk_recv C.fx.1 hi hS
  obtain ⟨c1, c2, c3, c4, c5, c6, c7, c8, c9, c10, c11, c12⟩ := C
  obtain ⟨y1, y2, y3, y4⟩ := hy
  exact va_runV (Ts := k_TT) ⟨c1, c2, rfl, c4, c5⟩ hM ⟨callB_of _ c5 (k_goodIn y2) rfl rfl rfl (c5 _ y1) (c5 _ hL.1) y3 (by rw [c9]; exact k_room hdd y4), c5 _ hL.2.1, c5 _ hL.2.2⟩ ⟨k_blind, hrc, fun U hU hW => ⟨rfl, k_W.moved hW (by rw [hU]; exact hP) c7 c8 c6 c11 (by rw [hU]; exact hS) c12⟩⟩ rfl rfl hl.1 rfl (lv_room hw) hd ⟨Nat.zero_le _, Nat.zero_le _⟩
end KS
