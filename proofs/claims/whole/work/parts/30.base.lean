/-! the pure side: what a program of the first parts gives, ints as integers -/
def k_OK {α : Type} (x : Option α) (Q : α → Prop) : Prop := ∃ a, x = some a ∧ Q a
section N1
variable {α β : Type} {Q Q' : β → Prop}
theorem ok_some {b : β} : k_OK (some b) Q ↔ Q b := ⟨fun ⟨_, e, h⟩ => by cases e; exact h, fun h => ⟨_, rfl, h⟩⟩
theorem ok_none : k_OK (none : Option β) Q ↔ False := ⟨fun ⟨_, e, _⟩ => (by cases e), fun h => False.elim h⟩
theorem ok_nm {x : α} {k : α → Option β} : k_OK (k_nm x k) Q ↔ k_OK (k x) Q := Iff.rfl
theorem ok_jn {x : α} {k : α → Option β} : k_OK (k_jn x k) Q ↔ k_OK (k x) Q := Iff.rfl
theorem ok_gd {p : Prop} [Decidable p] {k : Option β} : k_OK (k_gd p k) Q ↔ p ∧ k_OK k Q := by
  unfold k_gd
  by_cases h : p
  · rw [if_pos h]; exact ⟨fun z => ⟨h, z⟩, fun z => z.2⟩
  · rw [if_neg h, ok_none]; exact ⟨fun z => False.elim z, fun z => h z.1⟩
theorem ok_if {p : Prop} [Decidable p] {a b : Option β} : k_OK (k_if p a b) Q ↔ (p → k_OK a Q) ∧ (¬ p → k_OK b Q) := by
  unfold k_if
  by_cases h : p
  · rw [if_pos h]; exact ⟨fun z => ⟨fun _ => z, fun n => absurd h n⟩, fun z => z.1 h⟩
  · rw [if_neg h]; exact ⟨fun z => ⟨fun n => absurd n h, fun _ => z⟩, fun z => z.2 h⟩
theorem ok_bd {x : Option α} {k : α → Option β} : k_OK (k_bd x k) Q ↔ k_OK x (fun a => k_OK (k a) Q) := by
  cases x with
  | none => exact ⟨fun h => False.elim (ok_none.mp h), fun h => False.elim (ok_none.mp h)⟩
  | some a => exact ⟨fun h => ⟨a, rfl, h⟩, fun h => by
    obtain ⟨z, e, h⟩ := h
    cases e
    exact h⟩
theorem ok_b2 {γ : Type} {x : Option (α × γ)} {k : α → γ → Option β} : k_OK (k_b2 x k) Q ↔ k_OK x (fun a => k_OK (k a.1 a.2) Q) := by
  cases x with
  | none => exact ⟨fun h => False.elim (ok_none.mp h), fun h => False.elim (ok_none.mp h)⟩
  | some a => exact ⟨fun h => ⟨a, rfl, h⟩, fun h => by
    obtain ⟨z, e, h⟩ := h
    cases e
    exact h⟩
theorem ok_mono {x : Option β} (h : k_OK x Q) (hq : ∀ b, Q b → Q' b) : k_OK x Q' := by
  obtain ⟨b, e, h⟩ := h
  exact ⟨b, e, hq b h⟩
theorem ok_eq {x : Option β} {v : β} : k_OK x (fun r => r = v) ↔ x = some v := ⟨fun ⟨_, e, h⟩ => by rw [e, h], fun h => ⟨v, h, rfl⟩⟩
theorem ok_of {x : Option β} {v : β} (e : x = some v) (h : Q v) : k_OK x Q := ⟨v, e, h⟩
theorem ok_loop {b : (α → Option β) → α → Option β} (I : Nat → α → Prop) (step : ∀ (g : α → Option β) (k : Nat) (a : α), I k a → (∀ k' a', k' < k → I k' a' → k_OK (g a') Q) → k_OK (b g a) Q) : ∀ (n k : Nat) (a : α), I k a → k < n → k_OK (k_loop b n a) Q
  | 0, k, _, _, h => absurd h (Nat.not_lt_zero k)
  | n + 1, k, a, h, hk => step (k_loop b n) k a h (fun k' a' h1 h2 => ok_loop I step n k' a' h2 (by omega))
/-- a loop that counts up to N -/
theorem ok_for {b : (α → Option β) → α → Option β} (N : Nat) (I : Nat → α → Prop) (step : ∀ (g : α → Option β) (j : Nat) (a : α), I j a → j ≤ N → (∀ a', j < N → I (j + 1) a' → k_OK (g a') Q) → k_OK (b g a) Q) {n : Nat} (hn : N < n) {j : Nat} {a : α} (h0 : I j a) (hj : j ≤ N) : k_OK (k_loop b n a) Q :=
  ok_loop (fun k a => ∃ j, j + k = N ∧ I j a) (fun g k a ⟨j, e, h⟩ hg => step g j a h (by omega) (fun a' h1 h2 => hg (k - 1) a' (by omega) ⟨j + 1, by omega, h2⟩)) n (N - j) a ⟨j, by omega, h0⟩ (by omega)
end N1
/-! ints as integers -/
def iI (z : Int) : Int32 := Int32.ofInt z
def iL (z : Int) : Int64 := Int64.ofInt z
def iR (z : Int) : Prop := -2147483648 ≤ z ∧ z ≤ 2147483647
def iS (z : Int) : Prop := -9223372036854775808 ≤ z ∧ z ≤ 9223372036854775807
theorem iI_to {z : Int} (h : -2147483648 ≤ z ∧ z ≤ 2147483647) : (iI z).toInt = z := Int32.toInt_ofInt_of_le (by omega) (by omega)
theorem iI_of (x : Int32) : x = iI x.toInt := (Int32.ofInt_toInt x).symm
theorem iI_rg (x : Int32) : -2147483648 ≤ x.toInt ∧ x.toInt ≤ 2147483647 := by
  have h1 := Int32.le_toInt x
  have h2 := Int32.toInt_lt x
  omega
theorem iI_ex (x : Int32) : ∃ z : Int, (-2147483648 ≤ z ∧ z ≤ 2147483647) ∧ x = iI z := ⟨x.toInt, iI_rg x, iI_of x⟩
theorem iI_add (a b : Int) : iI a + iI b = iI (a + b) := (Int32.ofInt_add a b).symm
theorem iI_sub (a b : Int) : iI a - iI b = iI (a - b) := (Int32.ofInt_sub a b).symm
theorem iI_mul (a b : Int) : iI a * iI b = iI (a * b) := (Int32.ofInt_mul a b).symm
theorem iI_neg (a : Int) : -iI a = iI (-a) := Int32.neg_ofInt
theorem iI_lit (n : Nat) : (OfNat.ofNat n : Int32) = iI (OfNat.ofNat n : Int) := Int32.toInt_inj.mp (congrArg Int32.toInt (show Int32.ofNat n = Int32.ofInt (n : Int) from Int32.ofInt_eq_ofNat.symm))
theorem iI_eq {a b : Int} (ha : -2147483648 ≤ a ∧ a ≤ 2147483647) (hb : -2147483648 ≤ b ∧ b ≤ 2147483647) : iI a = iI b ↔ a = b := ⟨fun e => by
  have h := congrArg Int32.toInt e
  rw [iI_to ha, iI_to hb] at h
  exact h, fun e => by rw [e]⟩
theorem iI_lt {a b : Int} (ha : -2147483648 ≤ a ∧ a ≤ 2147483647) (hb : -2147483648 ≤ b ∧ b ≤ 2147483647) : iI a < iI b ↔ a < b := by
  rw [Int32.lt_iff_toInt_lt, iI_to ha, iI_to hb]
theorem iI_le {a b : Int} (ha : -2147483648 ≤ a ∧ a ≤ 2147483647) (hb : -2147483648 ≤ b ∧ b ≤ 2147483647) : iI a ≤ iI b ↔ a ≤ b := by
  rw [Int32.le_iff_toInt_le, iI_to ha, iI_to hb]
theorem iI_cl {a : Int} (ha : -2147483648 ≤ a ∧ a ≤ 2147483647) : (iI a).toNatClampNeg = a.toNat := by
  rw [← Int32.toNat_toInt, iI_to ha]
theorem iI_ix {a : Int} {n : Nat} (ha : -2147483648 ≤ a ∧ a ≤ 2147483647) : k_ix (iI a) n = true ↔ 0 ≤ a ∧ a < n := by
  unfold k_ix
  rw [Bool.and_eq_true, decide_eq_true_eq, decide_eq_true_eq, iI_cl ha, show (0 : Int32) = iI 0 from rfl, iI_le (by omega) ha]
  omega
theorem iI_nat (n : Nat) : nI n = iI n := Int32.ofInt_eq_ofNat.symm
theorem iL_to {z : Int} (h : -9223372036854775808 ≤ z ∧ z ≤ 9223372036854775807) : (iL z).toInt = z := Int64.toInt_ofInt_of_le (by omega) (by omega)
theorem iL_of (x : Int64) : x = iL x.toInt := (Int64.ofInt_toInt x).symm
theorem iL_rg (x : Int64) : -9223372036854775808 ≤ x.toInt ∧ x.toInt ≤ 9223372036854775807 := by
  have h1 := Int64.le_toInt x
  have h2 := Int64.toInt_lt x
  omega
theorem iL_add (a b : Int) : iL a + iL b = iL (a + b) := (Int64.ofInt_add a b).symm
theorem iL_sub (a b : Int) : iL a - iL b = iL (a - b) := (Int64.ofInt_sub a b).symm
theorem iL_mul (a b : Int) : iL a * iL b = iL (a * b) := (Int64.ofInt_mul a b).symm
theorem iL_neg (a : Int) : -iL a = iL (-a) := Int64.neg_ofInt
theorem iL_lit (n : Nat) : (OfNat.ofNat n : Int64) = iL (OfNat.ofNat n : Int) := Int64.toInt_inj.mp (congrArg Int64.toInt (show Int64.ofNat n = Int64.ofInt (n : Int) from Int64.ofInt_eq_ofNat.symm))
theorem iL_eq {a b : Int} (ha : -9223372036854775808 ≤ a ∧ a ≤ 9223372036854775807) (hb : -9223372036854775808 ≤ b ∧ b ≤ 9223372036854775807) : iL a = iL b ↔ a = b := ⟨fun e => by
  have h := congrArg Int64.toInt e
  rw [iL_to ha, iL_to hb] at h
  exact h, fun e => by rw [e]⟩
theorem iL_lt {a b : Int} (ha : -9223372036854775808 ≤ a ∧ a ≤ 9223372036854775807) (hb : -9223372036854775808 ≤ b ∧ b ≤ 9223372036854775807) : iL a < iL b ↔ a < b := by
  rw [Int64.lt_iff_toInt_lt, iL_to ha, iL_to hb]
theorem iL_le {a b : Int} (ha : -9223372036854775808 ≤ a ∧ a ≤ 9223372036854775807) (hb : -9223372036854775808 ≤ b ∧ b ≤ 9223372036854775807) : iL a ≤ iL b ↔ a ≤ b := by
  rw [Int64.le_iff_toInt_le, iL_to ha, iL_to hb]
theorem iI_l {a : Int} (ha : -2147483648 ≤ a ∧ a ≤ 2147483647) : (iI a).toInt64 = iL a := by
  apply Int64.toInt_inj.mp
  rw [Int32.toInt_toInt64, iI_to ha, iL_to (by omega)]
theorem iL_i (a : Int) : (iL a).toInt32 = iI a := Int64.toInt32_ofInt
theorem iI_div {a b : Int} (ha : -2147483648 < a ∧ a ≤ 2147483647) (hb : -2147483648 ≤ b ∧ b ≤ 2147483647) : iI a / iI b = iI (a.tdiv b) := by
  have h1 : (Int32.minValue).toInt = -2147483648 := rfl
  have h2 : (Int32.maxValue).toInt = 2147483647 := rfl
  exact (Int32.ofInt_tdiv (by omega) (by omega) (by omega) (by omega)).symm
theorem iL_div {a b : Int} (ha : -9223372036854775808 < a ∧ a ≤ 9223372036854775807) (hb : -9223372036854775808 ≤ b ∧ b ≤ 9223372036854775807) : iL a / iL b = iL (a.tdiv b) := by
  have h1 : (Int64.minValue).toInt = -9223372036854775808 := rfl
  have h2 : (Int64.maxValue).toInt = 9223372036854775807 := rfl
  exact (Int64.ofInt_tdiv (by omega) (by omega) (by omega) (by omega)).symm
theorem iI_rem {a b : Int} (ha : -2147483648 < a ∧ a ≤ 2147483647) (hb : -2147483648 ≤ b ∧ b ≤ 2147483647) : o_rem (iI a) (iI b) = iI (a.tmod b) := by
  unfold o_rem
  rw [iI_div ha hb, iI_mul, iI_sub]
  congr 1
  have := Int.mul_tdiv_add_tmod a b
  rw [Int.mul_comm] at this
  omega
theorem iL_rem {a b : Int} (ha : -9223372036854775808 < a ∧ a ≤ 9223372036854775807) (hb : -9223372036854775808 ≤ b ∧ b ≤ 9223372036854775807) : o_lrem (iL a) (iL b) = iL (a.tmod b) := by
  unfold o_lrem
  rw [iL_div ha hb, iL_mul, iL_sub]
  congr 1
  have := Int.mul_tdiv_add_tmod a b
  rw [Int.mul_comm] at this
  omega
theorem iL_cmp {a b : Int} (ha : -9223372036854775808 ≤ a ∧ a ≤ 9223372036854775807) (hb : -9223372036854775808 ≤ b ∧ b ≤ 9223372036854775807) : lg_cmp (iL a) (iL b) = if b < a then 1 else if a = b then 0 else -1 := by
  unfold lg_cmp
  by_cases h1 : b < a
  · rw [if_pos h1, if_pos (show iL a > iL b from (iL_lt hb ha).mpr h1)]
  · rw [if_neg h1, if_neg (show ¬ iL a > iL b from fun h => h1 ((iL_lt hb ha).mp h))]
    by_cases h2 : a = b
    · rw [if_pos h2, if_pos (by rw [h2])]
    · rw [if_neg h2, if_neg (fun h => h2 ((iL_eq ha hb).mp h))]
theorem iL_cmp_le {a b : Int} (ha : -9223372036854775808 ≤ a ∧ a ≤ 9223372036854775807) (hb : -9223372036854775808 ≤ b ∧ b ≤ 9223372036854775807) : lg_cmp (iL a) (iL b) ≤ 0 ↔ a ≤ b := by
  rw [iL_cmp ha hb]
  by_cases h1 : b < a
  · rw [if_pos h1]; exact ⟨fun h => absurd h (by decide), fun h => by omega⟩
  · rw [if_neg h1]
    by_cases h2 : a = b
    · rw [if_pos h2]; exact ⟨fun _ => by omega, fun _ => by decide⟩
    · rw [if_neg h2]; exact ⟨fun _ => by omega, fun _ => by decide⟩
theorem iL_cmp_eq {a b : Int} (ha : -9223372036854775808 ≤ a ∧ a ≤ 9223372036854775807) (hb : -9223372036854775808 ≤ b ∧ b ≤ 9223372036854775807) : lg_cmp (iL a) (iL b) = 0 ↔ a = b := by
  rw [iL_cmp ha hb]
  by_cases h1 : b < a
  · rw [if_pos h1]; exact ⟨fun h => absurd h (by decide), fun h => by omega⟩
  · rw [if_neg h1]
    by_cases h2 : a = b
    · rw [if_pos h2]; exact ⟨fun _ => h2, fun _ => rfl⟩
    · rw [if_neg h2]; exact ⟨fun h => absurd h (by decide), fun h => absurd h h2⟩
theorem iI_max {a b : Int} (ha : -2147483648 ≤ a ∧ a ≤ 2147483647) (hb : -2147483648 ≤ b ∧ b ≤ 2147483647) : o_max (iI a) (iI b) = iI (max a b) := by
  unfold o_max
  by_cases h : a < b
  · rw [if_pos ((iI_lt ha hb).mpr h)]; congr 1; omega
  · rw [if_neg (fun q => h ((iI_lt ha hb).mp q))]; congr 1; omega
theorem iI_min {a b : Int} (ha : -2147483648 ≤ a ∧ a ≤ 2147483647) (hb : -2147483648 ≤ b ∧ b ≤ 2147483647) : o_min (iI a) (iI b) = iI (min a b) := by
  unfold o_min
  by_cases h : b < a
  · rw [if_pos ((iI_lt hb ha).mpr h)]; congr 1; omega
  · rw [if_neg (fun q => h ((iI_lt hb ha).mp q))]; congr 1; omega
theorem iL_max {a b : Int} (ha : -9223372036854775808 ≤ a ∧ a ≤ 9223372036854775807) (hb : -9223372036854775808 ≤ b ∧ b ≤ 9223372036854775807) : o_lmax (iL a) (iL b) = iL (max a b) := by
  unfold o_lmax
  by_cases h : b < a
  · rw [if_pos ((iL_lt hb ha).mpr h)]; congr 1; omega
  · rw [if_neg (fun q => h ((iL_lt hb ha).mp q))]; congr 1; omega
theorem iL_min {a b : Int} (ha : -9223372036854775808 ≤ a ∧ a ≤ 9223372036854775807) (hb : -9223372036854775808 ≤ b ∧ b ≤ 9223372036854775807) : o_lmin (iL a) (iL b) = iL (min a b) := by
  unfold o_lmin
  by_cases h : b < a
  · rw [if_pos ((iL_lt hb ha).mpr h)]; congr 1; omega
  · rw [if_neg (fun q => h ((iL_lt hb ha).mp q))]; congr 1; omega
/-- a cell's number as an integer -/
def vI (σ : k_St) (c k : Nat) : Int := (σ.1 c k).toInt
def vL (σ : k_St) (c k : Nat) : Int := (σ.2 c k).toInt
theorem rd_I (σ : k_St) (c k : Nat) : k_rd σ c k = iI (vI σ c k) := iI_of _
theorem rd_L (σ : k_St) (c k : Nat) : k_rl σ c k = iL (vL σ c k) := iL_of _
theorem vI_rg (σ : k_St) (c k : Nat) : -2147483648 ≤ vI σ c k ∧ vI σ c k ≤ 2147483647 := iI_rg _
theorem vL_rg (σ : k_St) (c k : Nat) : -9223372036854775808 ≤ vL σ c k ∧ vL σ c k ≤ 9223372036854775807 := iL_rg _
/-- cells after a write -/
theorem wr_s {σ : k_St} {c k : Nat} {x : Int32} : (k_wr σ c k x).1 c k = x := by simp [k_wr, upd]
theorem wr_k {σ : k_St} {c k k' : Nat} {x : Int32} (h : k' ≠ k) : (k_wr σ c k x).1 c k' = σ.1 c k' := by simp [k_wr, upd, h]
theorem wr_c {σ : k_St} {c c' k : Nat} {x : Int32} (h : c' ≠ c) : (k_wr σ c k x).1 c' = σ.1 c' := by simp [k_wr, h]
theorem wr_2 {σ : k_St} {c k : Nat} {x : Int32} : (k_wr σ c k x).2 = σ.2 := rfl
theorem wr_if {σ : k_St} {c c' k k' : Nat} {x : Int32} : (k_wr σ c k x).1 c' k' = if c' = c ∧ k' = k then x else σ.1 c' k' := by
  by_cases h : c' = c
  · subst h
    by_cases h2 : k' = k
    · subst h2; rw [wr_s, if_pos ⟨rfl, rfl⟩]
    · rw [wr_k h2, if_neg (fun q => h2 q.2)]
  · rw [wr_c h, if_neg (fun q => h q.1)]
theorem wl_s {σ : k_St} {c k : Nat} {x : Int64} : (k_wl σ c k x).2 c k = x := by simp [k_wl, vp_updL]
theorem wl_k {σ : k_St} {c k k' : Nat} {x : Int64} (h : k' ≠ k) : (k_wl σ c k x).2 c k' = σ.2 c k' := by simp [k_wl, vp_updL, h]
theorem wl_c {σ : k_St} {c c' k : Nat} {x : Int64} (h : c' ≠ c) : (k_wl σ c k x).2 c' = σ.2 c' := by simp [k_wl, h]
theorem wl_1 {σ : k_St} {c k : Nat} {x : Int64} : (k_wl σ c k x).1 = σ.1 := rfl
theorem wl_if {σ : k_St} {c c' k k' : Nat} {x : Int64} : (k_wl σ c k x).2 c' k' = if c' = c ∧ k' = k then x else σ.2 c' k' := by
  by_cases h : c' = c
  · subst h
    by_cases h2 : k' = k
    · subst h2; rw [wl_s, if_pos ⟨rfl, rfl⟩]
    · rw [wl_k h2, if_neg (fun q => h2 q.2)]
  · rw [wl_c h, if_neg (fun q => h q.1)]
/-- nothing but the cells of S has changed -/
def n_Fr (S : Nat → Prop) (σ σ' : k_St) : Prop := ∀ c, ¬ S c → σ'.1 c = σ.1 c ∧ σ'.2 c = σ.2 c
theorem n_Fr.rf {S : Nat → Prop} {σ : k_St} : n_Fr S σ σ := fun _ _ => ⟨rfl, rfl⟩
theorem n_Fr.tr {S : Nat → Prop} {σ σ1 σ2 : k_St} (h : n_Fr S σ σ1) (h2 : n_Fr S σ1 σ2) : n_Fr S σ σ2 := fun c hc => ⟨(h2 c hc).1.trans (h c hc).1, (h2 c hc).2.trans (h c hc).2⟩
theorem n_Fr.wr {S : Nat → Prop} {σ σ1 : k_St} {c k : Nat} {x : Int32} (h : n_Fr S σ σ1) (hc : S c) : n_Fr S σ (k_wr σ1 c k x) := fun d hd => ⟨(wr_c (fun e => hd (by rw [e]; exact hc))).trans (h d hd).1, (h d hd).2⟩
theorem n_Fr.wl {S : Nat → Prop} {σ σ1 : k_St} {c k : Nat} {x : Int64} (h : n_Fr S σ σ1) (hc : S c) : n_Fr S σ (k_wl σ1 c k x) := fun d hd => ⟨(h d hd).1, (wl_c (fun e => hd (by rw [e]; exact hc))).trans (h d hd).2⟩
theorem n_Fr.mono {S S' : Nat → Prop} {σ σ' : k_St} (h : n_Fr S σ σ') (hs : ∀ c, S c → S' c) : n_Fr S' σ σ' := fun c hc => h c (fun q => hc (hs c q))
theorem n_Fr.i {S : Nat → Prop} {σ σ' : k_St} (h : n_Fr S σ σ') {c : Nat} (hc : ¬ S c) (k : Nat) : vI σ' c k = vI σ c k := by
  unfold vI
  rw [(h c hc).1]
theorem n_Fr.l {S : Nat → Prop} {σ σ' : k_St} (h : n_Fr S σ σ') {c : Nat} (hc : ¬ S c) (k : Nat) : vL σ' c k = vL σ c k := by
  unfold vL
  rw [(h c hc).2]
