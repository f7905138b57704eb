/-! ===== lN n to 2^64: shifts, and, or, masks, one bit ===== -/
theorem wb_tb (n : Nat) : (lN n).toBitVec = BitVec.ofNat 64 n := rfl
theorem wb_inj {a b : Int64} (h : a.toBitVec = b.toBitVec) : a = b := Int64.toBitVec_inj.mp h
theorem wb_tn {n : Nat} (h : n < 2 ^ 64) : (lN n).toBitVec.toNat = n := by rw [wb_tb, BitVec.toNat_ofNat, Nat.mod_eq_of_lt h]
theorem wb_of (x : Int64) : ∃ n, n < 2 ^ 64 ∧ x = lN n := ⟨x.toBitVec.toNat, x.toBitVec.isLt, wb_inj (by rw [wb_tb]; simp)⟩
theorem wb_of32 (x : Int32) : ∃ n, n < 2 ^ 32 ∧ x = nI n := ⟨x.toBitVec.toNat, x.toBitVec.isLt, Int32.toBitVec_inj.mp (by show _ = BitVec.ofNat 32 _; simp)⟩
theorem wb_c : ∀ k, k < 64 → ((nI k).toInt64 &&& 63) = lN k := by decide +kernel
theorem wb_cu : ∀ k, k < 64 → ((nI k).toInt64.toUInt64 &&& Int64.toUInt64 63) = UInt64.ofNat k := by decide +kernel
theorem wb_sm : ∀ k, k < 64 → (BitVec.ofNat 64 k).smod 64 = BitVec.ofNat 64 k := by decide +kernel
theorem wb_pw {a b : Nat} (h : a ≤ b) : 2 ^ b = 2 ^ a * 2 ^ (b - a) := by rw [← Nat.pow_add]; congr 1; omega
theorem wb_lt2 {a b : Nat} (h : a < b) : 2 ^ a < 2 ^ b := Nat.pow_lt_pow_right (by decide) h
theorem wb_mod (n : Nat) : lN n = lN (n % 2 ^ 64) := wb_inj (by rw [wb_tb, wb_tb]; apply BitVec.eq_of_toNat_eq; rw [BitVec.toNat_ofNat, BitVec.toNat_ofNat, Nat.mod_mod])
theorem wb_shr {n k : Nat} (hn : n < 2 ^ 64) (hk : k < 64) : ((lN n).toUInt64 >>> ((nI k).toInt64.toUInt64 &&& Int64.toUInt64 63)).toInt64 = lN (n / 2 ^ k) := by
  rw [wb_cu k hk]
  apply wb_inj
  apply BitVec.eq_of_toNat_eq
  show ((lN n).toUInt64 >>> UInt64.ofNat k).toNat = (BitVec.ofNat 64 _).toNat
  have h1 : (UInt64.ofNat k).toNat = k := by
    show (BitVec.ofNat 64 k).toNat = k
    rw [BitVec.toNat_ofNat, Nat.mod_eq_of_lt (by omega)]
  have h2 : (lN n).toUInt64.toNat = n := wb_tn hn
  rw [UInt64.toNat_shiftRight, h1, h2, Nat.mod_eq_of_lt hk, Nat.shiftRight_eq_div_pow, BitVec.toNat_ofNat, Nat.mod_eq_of_lt (Nat.lt_of_le_of_lt (Nat.div_le_self _ _) hn)]
theorem wb_shl (n : Nat) {k : Nat} (hk : k < 64) : lN n <<< ((nI k).toInt64 &&& 63) = lN (n * 2 ^ k) := by
  rw [wb_c k hk]
  apply wb_inj
  rw [Int64.toBitVec_shiftLeft, wb_tb, wb_tb, wb_tb, wb_sm k hk]
  apply BitVec.eq_of_toNat_eq
  rw [BitVec.shiftLeft_eq', BitVec.toNat_shiftLeft, BitVec.toNat_ofNat, BitVec.toNat_ofNat, BitVec.toNat_ofNat, Nat.mod_eq_of_lt (show k < 2 ^ 64 by omega), Nat.shiftLeft_eq, Nat.mul_mod, Nat.mod_mod, ← Nat.mul_mod]
theorem wb_and {a b : Nat} (ha : a < 2 ^ 64) (hb : b < 2 ^ 64) : lN a &&& lN b = lN (a &&& b) := by
  apply wb_inj
  rw [Int64.toBitVec_and, wb_tb, wb_tb, wb_tb]
  apply BitVec.eq_of_toNat_eq
  rw [BitVec.toNat_and, BitVec.toNat_ofNat, BitVec.toNat_ofNat, BitVec.toNat_ofNat, Nat.mod_eq_of_lt ha, Nat.mod_eq_of_lt hb, Nat.mod_eq_of_lt (Nat.and_lt_two_pow _ hb)]
theorem wb_or {a b : Nat} (ha : a < 2 ^ 64) (hb : b < 2 ^ 64) : lN a ||| lN b = lN (a ||| b) := by
  apply wb_inj
  rw [Int64.toBitVec_or, wb_tb, wb_tb, wb_tb]
  apply BitVec.eq_of_toNat_eq
  rw [BitVec.toNat_or, BitVec.toNat_ofNat, BitVec.toNat_ofNat, BitVec.toNat_ofNat, Nat.mod_eq_of_lt ha, Nat.mod_eq_of_lt hb, Nat.mod_eq_of_lt (Nat.or_lt_two_pow ha hb)]
theorem wb_mask {n k : Nat} (hn : n < 2 ^ 64) (hk : k < 64) : lN n &&& lN (2 ^ k - 1) = lN (n % 2 ^ k) := by
  rw [wb_and hn (by have := wb_lt2 hk; omega), Nat.and_two_pow_sub_one_eq_mod]
theorem wb_a1 {n : Nat} (hn : n < 2 ^ 64) : lN n &&& 1 = lN (n % 2) := wb_mask (k := 1) hn (by decide)
theorem wb_bit {n k : Nat} (hn : n < 2 ^ 64) (hk : k < 64) : ((lN n).toUInt64 >>> ((nI k).toInt64.toUInt64 &&& Int64.toUInt64 63)).toInt64 &&& 1 = lN (n / 2 ^ k % 2) := by
  rw [wb_shr hn hk, wb_a1 (Nat.lt_of_le_of_lt (Nat.div_le_self _ _) hn)]
theorem wb_xor {q k : Nat} (hk : k < 63) (h : 2 ^ k ≤ q) (h2 : q < 2 ^ (k + 1)) : lN q ^^^ lN (2 ^ k) = lN (q - 2 ^ k) := by
  obtain ⟨r, rfl⟩ : ∃ r, q = 2 ^ k + r := ⟨q - 2 ^ k, by omega⟩
  have hr : r < 2 ^ k := by rw [Nat.pow_succ] at h2; omega
  have hx : (2 ^ k + r) ^^^ 2 ^ k = r := by
    apply Nat.eq_of_testBit_eq
    intro i
    rw [Nat.testBit_xor, Nat.testBit_two_pow]
    rcases Nat.lt_trichotomy i k with h | h | h
    · rw [Nat.testBit_two_pow_add_gt h]
      simp [show ¬ k = i by omega]
    · subst h
      rw [Nat.testBit_two_pow_add_eq]
      simp
    · have a1 : 2 ^ (k + 1) ≤ 2 ^ i := Nat.pow_le_pow_right (by decide) h
      rw [Nat.testBit_lt_two_pow (show 2 ^ k + r < 2 ^ i by omega), Nat.testBit_lt_two_pow (show r < 2 ^ i by omega)]
      simp [show ¬ k = i by omega]
  have b1 := wb_lt2 (show k + 1 < 64 by omega)
  have b2 := wb_lt2 (show k < 64 by omega)
  apply wb_inj
  rw [Int64.toBitVec_xor, wb_tb, wb_tb, wb_tb]
  apply BitVec.eq_of_toNat_eq
  rw [BitVec.toNat_xor, BitVec.toNat_ofNat, BitVec.toNat_ofNat, BitVec.toNat_ofNat, Nat.mod_eq_of_lt (by omega : 2 ^ k + r < 2 ^ 64), Nat.mod_eq_of_lt b2, hx, Nat.add_sub_cancel_left, Nat.mod_eq_of_lt (by omega)]
/-! THROWS in a long, three bits each -/
def o_pl (x : Int64) (k : Nat) : Int32 := (o_lushr x (iI (3 * (k : Int)))).toInt32 &&& 7
def o_wp (x : Int64) (k : Nat) (p : Int32) : Int64 := (x &&& ((o_lshl 7 (iI (3 * (k : Int)))) ^^^ (-1))) ||| (o_lshl (p &&& 7).toInt64 (iI (3 * (k : Int))))
theorem o_b7 : ∀ i, i < 32 → (7#32).getLsbD i = decide (i < 3) := by decide +kernel
theorem o_b64 : ∀ i, i < 64 → (7#64).getLsbD i = decide (i < 3) := by decide +kernel
theorem o_lr {x : Int64} {j : Nat} (hj : j < 64) : (o_lushr x (nI j)).toBitVec = x.toBitVec >>> j := by
  unfold o_lushr
  rw [wb_cu j hj]
  have h1 : (UInt64.ofNat j).toNat = j := by
    show (BitVec.ofNat 64 j).toNat = j
    rw [BitVec.toNat_ofNat, Nat.mod_eq_of_lt (by omega)]
  apply BitVec.eq_of_toNat_eq
  show (x.toUInt64 >>> UInt64.ofNat j).toNat = _
  rw [UInt64.toNat_shiftRight, h1, Nat.mod_eq_of_lt hj, BitVec.toNat_ushiftRight]
  rfl
theorem o_ll {x : Int64} {j : Nat} (hj : j < 64) : (o_lshl x (nI j)).toBitVec = x.toBitVec <<< j := by
  unfold o_lshl
  rw [wb_c j hj, Int64.toBitVec_shiftLeft, wb_tb, wb_sm j hj, BitVec.shiftLeft_eq', BitVec.toNat_ofNat, Nat.mod_eq_of_lt (by omega)]
theorem o_3k (k : Nat) : iI (3 * (k : Int)) = nI (3 * k) := by
  rw [iI_nat]
  congr 1
theorem o_pl_b {x : Int64} {k : Nat} (hk : k < 16) {i : Nat} (hi : i < 32) : (o_pl x k).toBitVec.getLsbD i = (decide (i < 3) && x.toBitVec.getLsbD (3 * k + i)) := by
  unfold o_pl
  rw [o_3k, Int32.toBitVec_and, BitVec.getLsbD_and, show (7 : Int32).toBitVec = 7#32 from rfl, o_b7 i hi, Int64.toBitVec_toInt32, o_lr (by omega), BitVec.getLsbD_signExtend, if_pos (show i < 64 by omega), BitVec.getLsbD_ushiftRight, decide_eq_true hi, Bool.true_and, Bool.and_comm]
theorem o_wp_m : ∀ m, m < 8 → (nI m &&& 7).toInt64 = lN m := by decide +kernel
theorem o_mb : ∀ m, m < 8 → ∀ i, i < 64 → (BitVec.ofNat 64 m).getLsbD i = (decide (i < 3) && m.testBit i) := by decide +kernel
theorem o_wp_b {x : Int64} {k m : Nat} (hk : k < 16) (hm : m < 8) {j : Nat} (hj : j < 64) : (o_wp x k (nI m)).toBitVec.getLsbD j = if 3 * k ≤ j ∧ j < 3 * k + 3 then m.testBit (j - 3 * k) else x.toBitVec.getLsbD j := by
  unfold o_wp
  have ha : (-1 : Int64).toBitVec = BitVec.allOnes 64 := by decide
  rw [o_3k, o_wp_m m hm, Int64.toBitVec_or, Int64.toBitVec_and, Int64.toBitVec_xor, o_ll (by omega), o_ll (by omega), ha, wb_tb, show (7 : Int64).toBitVec = 7#64 from rfl, BitVec.getLsbD_or, BitVec.getLsbD_and, BitVec.getLsbD_xor, BitVec.getLsbD_allOnes, BitVec.getLsbD_shiftLeft, BitVec.getLsbD_shiftLeft, o_b64 _ (by omega), o_mb m hm _ (by omega)]
  by_cases h1 : 3 * k ≤ j
  · by_cases h2 : j < 3 * k + 3
    · rw [if_pos ⟨h1, h2⟩]
      simp [hj, h1, show j - 3 * k < 3 by omega, show ¬ j < 3 * k by omega]
    · rw [if_neg (fun q => h2 q.2)]
      simp [hj, h1, show ¬ j - 3 * k < 3 by omega, show ¬ j < 3 * k by omega]
  · rw [if_neg (fun q => h1 q.1)]
    simp [hj, show j < 3 * k by omega]
theorem o_m32 : ∀ m, m < 8 → ∀ i, i < 32 → (nI m).toBitVec.getLsbD i = (decide (i < 3) && m.testBit i) := by decide +kernel
theorem o_pl_wp {x : Int64} {k k' m : Nat} (hk : k < 16) (hk' : k' < 16) (hm : m < 8) : o_pl (o_wp x k (nI m)) k' = if k' = k then nI m else o_pl x k' := by
  apply Int32.toBitVec_inj.mp
  apply BitVec.eq_of_getLsbD_eq
  intro i hi
  rw [o_pl_b hk' hi]
  by_cases h3 : i < 3
  · rw [o_wp_b hk hm (by omega)]
    by_cases e : k' = k
    · subst e
      rw [if_pos rfl, if_pos (by omega), o_m32 m hm i hi, Nat.add_sub_cancel_left]
    · rw [if_neg e, if_neg (by omega), o_pl_b hk' hi]
  · rw [decide_eq_false h3, Bool.false_and]
    by_cases e : k' = k
    · rw [if_pos e, o_m32 m hm i hi, decide_eq_false h3, Bool.false_and]
    · rw [if_neg e, o_pl_b hk' hi, decide_eq_false h3, Bool.false_and]
theorem o_pl_0 {k : Nat} (hk : k < 16) : o_pl 0 k = 0 := by
  apply Int32.toBitVec_inj.mp
  apply BitVec.eq_of_getLsbD_eq
  intro i hi
  rw [o_pl_b hk hi]
  simp
theorem o_pl_n {k : Nat} (hk : k < 16) : o_pl (-1) k = 7 := by
  apply Int32.toBitVec_inj.mp
  apply BitVec.eq_of_getLsbD_eq
  intro i hi
  have ha : (-1 : Int64).toBitVec = BitVec.allOnes 64 := by decide
  rw [o_pl_b hk hi, ha, BitVec.getLsbD_allOnes, show (7 : Int32).toBitVec = 7#32 from rfl, o_b7 i hi]
  by_cases h3 : i < 3
  · simp [h3, show 3 * k + i < 64 by omega]
  · simp [h3]
theorem n_placeOf {x : Int64} {l s : Nat} (hl : l < 4) (hs : s < 4) : f_X11_placeOf x (iI (l : Int)) (iI (s : Int)) = some (o_pl x (4 * l + s)) := by
  unfold f_X11_placeOf o_pl
  simp only [iI_lit, iI_mul, iI_add]
  congr 5
  push_cast
  omega
theorem n_withPlace {x : Int64} {l s : Nat} {p : Int32} (hl : l < 4) (hs : s < 4) : f_X11_withPlace x (iI (l : Int)) (iI (s : Int)) p = some (o_wp x (4 * l + s) p) := by
  have e : iI 3 * (iI l * iI 4 + iI s) = iI (3 * ((4 * l + s : Nat) : Int)) := by
    simp only [iI_mul, iI_add]
    congr 1
    push_cast
    omega
  unfold f_X11_withPlace o_wp k_nm
  rw [show ((3 : Int32) * ((iI l * (4 : Int32)) + iI s)) = iI 3 * (iI l * iI 4 + iI s) from rfl, e]
