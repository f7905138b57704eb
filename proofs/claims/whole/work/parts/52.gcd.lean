/-! the common measure -/
def n_eu : Nat → Nat → Nat → Prop
  | 0, _, _ => False
  | k + 1, a, b => b = 0 ∨ n_eu k b (a % b)
theorem n_eu_lt {b r : Nat} (h : 0 < r) (h2 : r < b) : 2 * (b % r) < b := by
  have h1 := Nat.mod_lt b h
  have h3 := Nat.div_add_mod b r
  have h4 : 1 ≤ b / r := (Nat.one_le_div_iff h).mpr (by omega)
  have h5 : r * 1 ≤ r * (b / r) := Nat.mul_le_mul_left r h4
  omega
theorem n_eu_k : ∀ (k a b : Nat), b < 2 ^ k → n_eu (2 * k + 1) a b
  | 0, a, b, h => Or.inl (by
    have : b < 1 := h
    omega)
  | k + 1, a, b, h => by
    by_cases c : b = 0
    · exact Or.inl c
    refine Or.inr ?_
    show n_eu (2 * k + 1 + 1) b (a % b)
    by_cases c2 : a % b = 0
    · exact Or.inl c2
    refine Or.inr (n_eu_k k _ _ ?_)
    have h1 := Nat.mod_lt a (show 0 < b by omega)
    have h2 := n_eu_lt (show 0 < a % b by omega) h1
    rw [Nat.pow_succ] at h
    omega
theorem n_eu_1 : ∀ {k a b : Nat}, n_eu k a b → n_eu (k + 1) a b
  | 0, _, _, h => False.elim h
  | k + 1, _, _, h => h.elim Or.inl (fun h => Or.inr (n_eu_1 h))
theorem n_gcd_s {a b : Nat} : Nat.gcd b (a % b) = Nat.gcd a b := by
  rw [Nat.gcd_comm b (a % b), ← Nat.gcd_rec b a, Nat.gcd_comm]
theorem n_divisor : ∀ {k a b : Nat}, n_eu k a b → a < 2147483648 → b < 2147483648 → f_X12_divisor k (iI a) (iI b) = some (iI (Nat.gcd a b : Nat))
  | 0, _, _, h, _, _ => False.elim h
  | k + 1, a, b, h, ha, hb => by
    show b_X12_divisor (f_X12_divisor k) (iI a) (iI b) = _
    unfold b_X12_divisor
    rw [show (0 : Int32) = iI 0 from rfl, n_ieq (by omega) (by omega)]
    by_cases c : (b : Int) = 0
    · have e : b = 0 := by omega
      subst e
      rw [if_pos c, Nat.gcd_zero_right]
    · have hm := Nat.mod_lt a (show 0 < b by omega)
      rw [if_neg c, n_gdt (show ¬ iI (b : Int) = iI 0 from fun q => c ((iI_eq (by omega) (by omega)).mp q)), iI_rem2 (by omega) (by omega), show (a : Int).tmod b = ((a % b : Nat) : Int) from rfl, n_divisor (h.resolve_left (by omega)) hb (by omega), n_bd, n_gcd_s]
theorem n_common {a b : Nat} (ha : a < 9223372036854775808) (hb : b < 9223372036854775808) : f_X11_commonOf (iL a) (iL b) = some (iL (Nat.gcd a b : Nat)) := by
  unfold f_X11_commonOf
  have h0 : n_eu 199 a b := n_eu_k 99 a b (by
    have : (9223372036854775808 : Nat) < 2 ^ 99 := by decide
    omega)
  refine ok_eq.mp (ok_for 199 (fun j (z : Int64 × Int64 × Int32) => ∃ c d : Nat, z = (iL c, iL d, iI j) ∧ c < 9223372036854775808 ∧ d < 9223372036854775808 ∧ Nat.gcd c d = Nat.gcd a b ∧ n_eu (199 - j) c d) ?_ (by omega) (j := 0) ⟨a, b, rfl, ha, hb, rfl, h0⟩ (by omega))
  rintro g j _ ⟨c, d, rfl, hc, hd, hg1, he⟩ hj hg
  show k_OK (k_if _ _ _) _
  have hj2 : j < 199 := by
    by_cases e : j < 199
    · exact e
    · rw [show 199 - j = 0 by omega] at he
      exact False.elim he
  obtain ⟨u, hu⟩ : ∃ u, 199 - j = u + 1 := ⟨199 - j - 1, by omega⟩
  rw [hu] at he
  rw [show (200 : Int32) = iI 200 from rfl, n_ile (by omega) (by omega), if_neg (show ¬ (200 : Int) ≤ j by omega), show (0 : Int32) = iI 0 from rfl, show (0 : Int64) = iL 0 from rfl, n_lc0 (by omega) (by omega)]
  by_cases c0 : (d : Int) = 0
  · have e : d = 0 := by omega
    subst e
    rw [if_pos c0, ok_some, ← hg1, Nat.gcd_zero_right]
  · have hm := Nat.mod_lt c (show 0 < d by omega)
    rw [if_neg c0, n_gdt (show ¬ iL (d : Int) = iL 0 from fun q => c0 ((iL_eq (a := d) (b := 0) (by omega) (by omega)).mp q)), iL_rem (by omega) (by omega), show (c : Int).tmod d = ((c % d : Nat) : Int) from rfl, ok_nm, ok_nm]
    refine hg _ (by omega) ⟨d, c % d, by rw [show (1 : Int32) = iI 1 from rfl, iI_add]; rfl, hd, by omega, n_gcd_s.trans hg1, ?_⟩
    rw [show 199 - (j + 1) = u by omega]
    exact he.resolve_left (by omega)
