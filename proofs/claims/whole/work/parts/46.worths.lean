/-! the reference's WORTHS, worked out -/
theorem n_prod {a b : Int} (ha : -2147483648 ≤ a ∧ a ≤ 2147483647) (hb : -2147483648 ≤ b ∧ b ≤ 2147483647) : -4611686018427387904 ≤ a * b ∧ a * b ≤ 4611686018427387904 := by
  have h1 : a.natAbs ≤ 2147483648 := by omega
  have h2 : b.natAbs ≤ 2147483648 := by omega
  have h3 := Nat.mul_le_mul h1 h2
  rw [← Int.natAbs_mul] at h3
  omega
theorem n_bdd {z : Int} (h : -9223372036854775808 ≤ z ∧ z ≤ 9223372036854775807) : f_X12_bounded (iL z) = some (iI (rp_bd z)) := by
  unfold f_X12_bounded rp_bd
  simp only [iL_lit, iL_neg]
  rw [iL_min (by omega) h, iL_max (by omega) (by omega), iL_i]
section NLC
variable {β : Type} {a b : Int} {p q : Option β}
theorem n_lc0 [Decidable (lg_cmp (iL a) (iL b) = iI 0)] (ha : -9223372036854775808 ≤ a ∧ a ≤ 9223372036854775807) (hb : -9223372036854775808 ≤ b ∧ b ≤ 9223372036854775807) : k_if (lg_cmp (iL a) (iL b) = iI 0) p q = if a = b then p else q := by
  have e : (lg_cmp (iL a) (iL b) = iI 0) ↔ a = b := iL_cmp_eq ha hb
  by_cases c : a = b
  · rw [n_ift (e.mpr c), if_pos c]
  · rw [n_iff (fun z => c (e.mp z)), if_neg c]
theorem n_lcl [Decidable (lg_cmp (iL a) (iL b) ≤ iI 0)] (ha : -9223372036854775808 ≤ a ∧ a ≤ 9223372036854775807) (hb : -9223372036854775808 ≤ b ∧ b ≤ 9223372036854775807) : k_if (lg_cmp (iL a) (iL b) ≤ iI 0) p q = if a ≤ b then p else q := by
  have e : (lg_cmp (iL a) (iL b) ≤ iI 0) ↔ a ≤ b := iL_cmp_le ha hb
  by_cases c : a ≤ b
  · rw [n_ift (e.mpr c), if_pos c]
  · rw [n_iff (fun z => c (e.mp z)), if_neg c]
theorem n_lcg [Decidable (iI 0 ≤ lg_cmp (iL a) (iL b))] (ha : -9223372036854775808 ≤ a ∧ a ≤ 9223372036854775807) (hb : -9223372036854775808 ≤ b ∧ b ≤ 9223372036854775807) : k_if (iI 0 ≤ lg_cmp (iL a) (iL b)) p q = if b ≤ a then p else q := by
  have e : (iI 0 ≤ lg_cmp (iL a) (iL b)) ↔ b ≤ a := by
    rw [iL_cmp ha hb]
    by_cases h1 : b < a
    · rw [if_pos h1]
      exact ⟨fun _ => by omega, fun _ => by decide⟩
    · rw [if_neg h1]
      by_cases h2 : a = b
      · rw [if_pos h2]
        exact ⟨fun _ => by omega, fun _ => by decide⟩
      · rw [if_neg h2]
        exact ⟨fun z => absurd z (by decide), fun _ => by omega⟩
  by_cases c : b ≤ a
  · rw [n_ift (e.mpr c), if_pos c]
  · rw [n_iff (fun z => c (e.mp z)), if_neg c]
end NLC
theorem n_worked {c a b : Int} (hc : 2 ≤ c ∧ c ≤ 11) (h9 : ¬ c = 9) (ha : -2147483648 ≤ a ∧ a ≤ 2147483647) (hb : -2147483648 ≤ b ∧ b ≤ 2147483647) : f_X12_worked (iI c) (iL a) (iL b) = some (iI (rp_wk c a b)) := by
  have hp := n_prod ha hb
  have hz : iL b = 0 ↔ b = 0 := iL_eq (a := b) (b := 0) (by omega) (by omega)
  unfold f_X12_worked rp_wk
  simp only [iI_lit, n_jn, iL_add, iL_sub, iL_mul]
  simp (disch := omega) only [n_ieq, n_bdd, n_bd]
  have zb := n_lc0 (β := Int32) (a := b) (b := 0) (p := some (iI 0)) (q := some (iI 1)) (by omega) (by omega)
  rw [show (0 : Int64) = iL 0 from rfl]
  by_cases c2 : c = 2
  · rw [if_pos c2, if_pos c2]
  rw [if_neg c2, if_neg c2]
  by_cases c3 : c = 3
  · rw [if_pos c3, if_pos c3]
  rw [if_neg c3, if_neg c3]
  by_cases c4 : c = 4
  · rw [if_pos c4, if_pos c4]
  rw [if_neg c4, if_neg c4]
  by_cases c5 : c = 5
  · rw [if_pos c5, if_pos c5]
    rw [n_lc0 (by omega) (by omega)]
    by_cases e : b = 0
    · rw [if_pos e, if_pos e]
    · have hq : -9223372036854775808 ≤ a.tdiv b ∧ a.tdiv b ≤ 9223372036854775807 := by
        have h3 : (a.tdiv b).natAbs ≤ a.natAbs := by
          rw [Int.natAbs_tdiv]
          exact Nat.div_le_self _ _
        omega
      rw [if_neg e, if_neg e, n_gdt (show ¬ iL b = iL 0 from fun z => e (hz.mp z)), iL_div (by omega) (by omega), n_bdd hq, n_bd]
  rw [if_neg c5, if_neg c5]
  by_cases c6 : c = 6
  · rw [if_pos c6, if_pos c6]
    rw [n_lc0 (by omega) (by omega)]
    by_cases e : a = b
    · rw [if_pos e, if_pos e]
    · rw [if_neg e, if_neg e]
  rw [if_neg c6, if_neg c6]
  by_cases c7 : c = 7
  · rw [if_pos c7, if_pos c7]
    rw [n_lcg (by omega) (by omega)]
    by_cases e : b ≤ a
    · rw [if_pos e, if_neg (show ¬ a < b by omega)]
    · rw [if_neg e, if_pos (show a < b by omega)]
  rw [if_neg c7, if_neg c7]
  by_cases c8 : c = 8
  · rw [if_pos c8, if_pos c8]
    rw [n_lcl (by omega) (by omega)]
    by_cases e : a ≤ b
    · rw [if_pos e, if_neg (show ¬ b < a by omega)]
    · rw [if_neg e, if_pos (show b < a by omega)]
  rw [if_neg c8, if_neg c8, if_neg h9]
  by_cases c10 : c = 10
  · rw [if_pos c10, if_pos c10, zb, n_lc0 (by omega) (by omega)]
    by_cases ea : a = 0
    · rw [if_pos ea, if_neg (show ¬ (a ≠ 0 ∧ b ≠ 0) from fun q => q.1 ea)]
    · rw [if_neg ea]
      by_cases eb : b = 0
      · rw [if_pos eb, if_neg (show ¬ (a ≠ 0 ∧ b ≠ 0) from fun q => q.2 eb)]
      · rw [if_neg eb, if_pos (show (a ≠ 0 ∧ b ≠ 0) from ⟨ea, eb⟩)]
  · rw [if_neg c10, if_neg c10, zb, n_lc0 (by omega) (by omega)]
    by_cases ea : a = 0
    · rw [if_pos ea]
      by_cases eb : b = 0
      · rw [if_pos eb, if_neg (show ¬ (a ≠ 0 ∨ b ≠ 0) from fun q => q.elim (fun z => z ea) (fun z => z eb))]
      · rw [if_neg eb, if_pos (show (a ≠ 0 ∨ b ≠ 0) from Or.inr eb)]
    · rw [if_neg ea, if_pos (show (a ≠ 0 ∨ b ≠ 0) from Or.inl ea)]
theorem rp_wk_r (c a b : Int) : -1000000 ≤ rp_wk c a b ∧ rp_wk c a b ≤ 1000000 := by
  have hb : ∀ z, -1000000 ≤ rp_bd z ∧ rp_bd z ≤ 1000000 := fun z => by
    unfold rp_bd
    omega
  unfold rp_wk
  repeat' split
  all_goals first | exact hb _ | omega
/-- the rows of the reference's stack -/
def n_stk (f : Nat → Int32) : List Int → Prop
  | [] => True
  | a :: r => f r.length = iI a ∧ (-2147483648 ≤ a ∧ a ≤ 2147483647) ∧ n_stk f r
theorem n_stk_c {f g : Nat → Int32} : ∀ {st : List Int}, (∀ j, j < st.length → g j = f j) → n_stk f st → n_stk g st
  | [], _, _ => trivial
  | a :: r, h, hs => ⟨(h r.length (by show r.length < r.length + 1; omega)).trans hs.1, hs.2.1, n_stk_c (fun j hj => h j (by show j < r.length + 1; omega)) hs.2.2⟩
