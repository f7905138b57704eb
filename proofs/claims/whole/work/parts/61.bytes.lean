/-! the bytes of a word -/
theorem o_b255 : ∀ i, i < 32 → (255#32).getLsbD i = decide (i < 8) := by decide +kernel
def n_by (w : Int32) (s : Nat) : Int32 := o_ushr w (nI s) &&& 255
theorem n_shs : ∀ s, s < 32 → ((nI s &&& 31).toBitVec.smod 32#32) = BitVec.ofNat 32 s := by decide +kernel
theorem n_shu : ∀ s, s < 32 → ((nI s).toUInt32 &&& Int32.toUInt32 31) = UInt32.ofNat s := by decide +kernel
theorem n_by_b {w : Int32} {s i : Nat} (hs : s < 32) (hi : i < 32) : (n_by w s).toBitVec.getLsbD i = (decide (i < 8) && w.toBitVec.getLsbD (s + i)) := by
  have e : (o_ushr w (nI s)).toBitVec = w.toBitVec >>> s := by
    unfold o_ushr
    rw [n_shu s hs]
    have h1 : (UInt32.ofNat s).toNat = s := by
      show (BitVec.ofNat 32 s).toNat = s
      rw [BitVec.toNat_ofNat, Nat.mod_eq_of_lt (by omega)]
    apply BitVec.eq_of_toNat_eq
    show (w.toUInt32 >>> UInt32.ofNat s).toNat = _
    rw [UInt32.toNat_shiftRight, h1, Nat.mod_eq_of_lt hs, BitVec.toNat_ushiftRight]
    rfl
  unfold n_by
  rw [Int32.toBitVec_and, BitVec.getLsbD_and, show (255 : Int32).toBitVec = 255#32 from rfl, o_b255 i hi, e, BitVec.getLsbD_ushiftRight, Bool.and_comm]
theorem n_byM {w : Int32} {s : Nat} (hs : s ≤ 24) : o_shr w (nI s) &&& 255 = n_by w s := by
  apply Int32.toBitVec_inj.mp
  apply BitVec.eq_of_getLsbD_eq
  intro i hi
  rw [n_by_b (by omega) hi, Int32.toBitVec_and, BitVec.getLsbD_and, show (255 : Int32).toBitVec = 255#32 from rfl, o_b255 i hi, Bool.and_comm]
  by_cases h : i < 8
  · congr 1
    unfold o_shr
    rw [Int32.toBitVec_shiftRight, show (32 : BitVec 32) = 32#32 from rfl, n_shs s (by omega), BitVec.sshiftRight_eq', BitVec.toNat_ofNat, Nat.mod_eq_of_lt (by omega), BitVec.getLsbD_sshiftRight]
    simp [show ¬ 32 ≤ i by omega, show s + i < 32 by omega]
  · simp [h]
theorem n_byR {w : Int32} {s : Nat} (hs : s < 32) : 0 ≤ (n_by w s).toInt ∧ (n_by w s).toInt ≤ 255 := by
  have e : (n_by w s).toBitVec.toNat < 2 ^ 8 := by
    apply Nat.lt_pow_two_of_testBit
    intro i hi
    by_cases h : i < 32
    · have := n_by_b (w := w) hs h
      rw [show decide (i < 8) = false from decide_eq_false (by omega), Bool.false_and] at this
      exact this
    · exact BitVec.getLsbD_of_ge _ i (by omega)
  have e2 : (n_by w s).toInt = ((n_by w s).toBitVec.toNat : Int) := by
    show (n_by w s).toBitVec.toInt = _
    rw [BitVec.toInt_eq_toNat_cond, if_pos (by omega)]
  omega
/-- signs counted -/
def n_nz (b : Int32) : Int := if b = 0 then 0 else 1
theorem n_signsIn {w : Int32} : f_X8_signsIn w = some (iI (n_nz (n_by w 24) + n_nz (n_by w 16) + n_nz (n_by w 8) + n_nz (n_by w 0))) := by
  have hk : ∀ (b : Int32) (v : Int) (p q : Option Int32), (∀ u, u = v + n_nz b → k_if (b = (0 : Int32)) p q = (if b = 0 then p else q)) := fun b v p q u _ => rfl
  have st : ∀ (s : Nat), o_ushr w (nI s) &&& (255 : Int32) = n_by w s := fun s => rfl
  unfold f_X8_signsIn
  refine ok_eq.mp (ok_for 4 (fun j (y : Int32 × Int32) => (j = 0 ∧ y = (iI 0, nI 24)) ∨ (j = 1 ∧ y = (iI (n_nz (n_by w 24)), nI 16)) ∨ (j = 2 ∧ y = (iI (n_nz (n_by w 24) + n_nz (n_by w 16)), nI 8)) ∨ (j = 3 ∧ y = (iI (n_nz (n_by w 24) + n_nz (n_by w 16) + n_nz (n_by w 8)), nI 0)) ∨ (j = 4 ∧ y = (iI (n_nz (n_by w 24) + n_nz (n_by w 16) + n_nz (n_by w 8) + n_nz (n_by w 0)), iI (-8)))) ?_ (by omega) (j := 0) (Or.inl ⟨rfl, rfl⟩) (by omega))
  have fin : ∀ (b : Int32) (v : Int) (g : Int32 × Int32 → Option Int32) (t : Int32) (Q : Int32 → Prop), k_OK (g (iI (v + n_nz b), t)) Q → k_OK (k_if (b = (0 : Int32)) (g (iI v, t)) (g (iI v + 1, t))) Q := fun b v g t Q h => by
    unfold n_nz at h
    rw [ok_if]
    refine ⟨fun c => ?_, fun c => ?_⟩
    · rw [if_pos c, Int.add_zero] at h
      exact h
    · rw [if_neg c] at h
      rw [show (1 : Int32) = iI 1 from rfl, iI_add]
      exact h
  rintro g j _ (⟨rfl, rfl⟩ | ⟨rfl, rfl⟩ | ⟨rfl, rfl⟩ | ⟨rfl, rfl⟩ | ⟨rfl, rfl⟩) hj hg
  · show k_OK (k_if _ _ _) _
    rw [n_iff (show ¬ nI 24 < (0 : Int32) by decide)]
    refine fin _ 0 g (nI 16) _ (hg _ (by omega) (Or.inr (Or.inl ⟨rfl, ?_⟩)))
    rw [Int.zero_add]
    rfl
  · show k_OK (k_if _ _ _) _
    rw [n_iff (show ¬ nI 16 < (0 : Int32) by decide)]
    exact fin _ _ g (nI 8) _ (hg _ (by omega) (Or.inr (Or.inr (Or.inl ⟨rfl, rfl⟩))))
  · show k_OK (k_if _ _ _) _
    rw [n_iff (show ¬ nI 8 < (0 : Int32) by decide)]
    exact fin _ _ g (nI 0) _ (hg _ (by omega) (Or.inr (Or.inr (Or.inr (Or.inl ⟨rfl, rfl⟩)))))
  · show k_OK (k_if _ _ _) _
    rw [n_iff (show ¬ nI 0 < (0 : Int32) by decide)]
    exact fin _ _ g (iI (-8)) _ (hg _ (by omega) (Or.inr (Or.inr (Or.inr (Or.inr ⟨rfl, rfl⟩)))))
  · show k_OK (k_if _ _ _) _
    rw [n_ift (show iI (-8) < (0 : Int32) by decide), ok_some]
