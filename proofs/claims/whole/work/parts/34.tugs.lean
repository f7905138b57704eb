/-! TUGS as two bits each -/
theorem n_bt {p : Prop} [Decidable p] (h : p) : iB p = iI 1 := by
  unfold iB
  rw [if_pos h]
theorem n_bf {p : Prop} [Decidable p] (h : ¬ p) : iB p = iI 0 := by
  unfold iB
  rw [if_neg h]
set_option maxRecDepth 100000 in
theorem n_sgD : ∀ e, e < 256 → ∀ s, s < 4 → f_X11_signOf (nI e) (nI s) = some (nI (e / 4 ^ (3 - s) % 4)) := by decide +kernel
set_option maxRecDepth 100000 in
theorem n_wsD : ∀ e, e < 256 → ∀ s, s < 4 → ∀ t, t < 4 → f_X11_withSign (nI e) (nI s) (nI t) = some (nI (e - e / 4 ^ (3 - s) % 4 * 4 ^ (3 - s) + t * 4 ^ (3 - s))) := by decide +kernel
set_option maxRecDepth 100000 in
theorem n_dgD : ∀ e, e < 256 → f_X11_digitsOf (nI e) = some (nI (1000 * (e / 64 % 4) + 100 * (e / 16 % 4) + 10 * (e / 4 % 4) + e % 4)) := by decide +kernel
/-- digits below four -/
def r_4 (f : Nat → Int) : Prop := ∀ s, s < 4 → 0 ≤ f s ∧ f s < 4
theorem r_T.r4 {k : Int} {f : Nat → Int} (h : r_T k f) (hk : k ≤ 4) : r_4 f := fun s hs => by
  have := h s hs
  omega
theorem r_4.nat {f : Nat → Int} (h : r_4 f) : ∃ e : Nat, e < 256 ∧ n_e4 f = e ∧ f 0 = (e / 64 % 4 : Nat) ∧ f 1 = (e / 16 % 4 : Nat) ∧ f 2 = (e / 4 % 4 : Nat) ∧ f 3 = (e % 4 : Nat) := by
  have h0 := h 0 (by omega)
  have h1 := h 1 (by omega)
  have h2 := h 2 (by omega)
  have h3 := h 3 (by omega)
  refine ⟨(n_e4 f).toNat, ?_⟩
  unfold n_e4
  omega
theorem n_sign {f : Nat → Int} (h : r_4 f) {s : Nat} (hs : s < 4) : f_X11_signOf (iI (n_e4 f)) (iI s) = some (iI (f s)) := by
  obtain ⟨e, he, e1, e2, e3, e4, e5⟩ := h.nat
  rw [e1, ← iI_nat, ← iI_nat, n_sgD e he s hs]
  rcases (show s = 0 ∨ s = 1 ∨ s = 2 ∨ s = 3 by omega) with rfl | rfl | rfl | rfl
  · rw [e2, iI_nat]
  · rw [e3, iI_nat]
  · rw [e4, iI_nat]
  · rw [e5, iI_nat]
    simp
theorem n_digs {f : Nat → Int} (h : r_4 f) : f_X11_digitsOf (iI (n_e4 f)) = some (iI (n_p4 f)) := by
  obtain ⟨e, he, e1, e2, e3, e4, e5⟩ := h.nat
  rw [e1, ← iI_nat, n_dgD e he, iI_nat]
  unfold n_p4
  congr 2
  omega
/-- one digit anew -/
def n_up (f : Nat → Int) (s : Nat) (t : Int) : Nat → Int := fun j => if j = s then t else f j
theorem n_wsign {f : Nat → Int} (h : r_4 f) {s : Nat} (hs : s < 4) {t : Int} (ht : 0 ≤ t ∧ t < 4) : f_X11_withSign (iI (n_e4 f)) (iI s) (iI t) = some (iI (n_e4 (n_up f s t))) := by
  obtain ⟨e, he, e1, e2, e3, e4, e5⟩ := h.nat
  obtain ⟨u, rfl⟩ := Int.eq_ofNat_of_zero_le ht.1
  rw [e1, ← iI_nat, ← iI_nat, ← iI_nat, n_wsD e he s hs u (by omega), iI_nat]
  unfold n_e4 n_up
  congr 2
  rcases (show s = 0 ∨ s = 1 ∨ s = 2 ∨ s = 3 by omega) with rfl | rfl | rfl | rfl <;> simp <;> omega
theorem r_4.up {f : Nat → Int} (h : r_4 f) (s : Nat) {t : Int} (ht : 0 ≤ t ∧ t < 4) : r_4 (n_up f s t) := fun j hj => by
  unfold n_up
  by_cases e : j = s
  · rw [if_pos e]; exact ht
  · rw [if_neg e]; exact h j hj
theorem n_d4r {z : Int} (h : 0 ≤ z ∧ z ≤ 9999) (s : Nat) : 0 ≤ n_d4 z s ∧ n_d4 z s ≤ 9 := by
  unfold n_d4
  split <;> omega
theorem n_p4d {f : Nat → Int} (h : r_4 f) {s : Nat} (hs : s < 4) : n_d4 (n_p4 f) s = f s := by
  have h0 := h 0 (by omega)
  have h1 := h 1 (by omega)
  have h2 := h 2 (by omega)
  have h3 := h 3 (by omega)
  rcases (show s = 0 ∨ s = 1 ∨ s = 2 ∨ s = 3 by omega) with rfl | rfl | rfl | rfl <;> simp only [n_d4, n_p4] <;> omega
theorem n_e4c {f g : Nat → Int} (h : ∀ s, s < 4 → f s = g s) : n_e4 f = n_e4 g := by
  unfold n_e4
  rw [h 0 (by omega), h 1 (by omega), h 2 (by omega), h 3 (by omega)]
theorem n_p4c {f g : Nat → Int} (h : ∀ s, s < 4 → f s = g s) : n_p4 f = n_p4 g := by
  unfold n_p4
  rw [h 0 (by omega), h 1 (by omega), h 2 (by omega), h 3 (by omega)]
theorem n_p4r {f : Nat → Int} (h : r_4 f) : 0 ≤ n_p4 f ∧ n_p4 f ≤ 3333 := by
  have h0 := h 0 (by omega)
  have h1 := h 1 (by omega)
  have h2 := h 2 (by omega)
  have h3 := h 3 (by omega)
  unfold n_p4
  omega
theorem n_e4r {f : Nat → Int} (h : r_4 f) : 0 ≤ n_e4 f ∧ n_e4 f ≤ 255 := by
  have h0 := h 0 (by omega)
  have h1 := h 1 (by omega)
  have h2 := h 2 (by omega)
  have h3 := h 3 (by omega)
  unfold n_e4
  omega
/-- the reference's row as digits -/
theorem n_packed {σ : k_St} {a : Nat} (ha : k_nM a = 4) {f : Nat → Int} (h : ∀ s, s < 4 → σ.1 a s = iI (f s)) : f_X12_packed a σ = some (iI (n_p4 f)) := by
  have e : f_X12_packed a σ = some (10 * (10 * (10 * (10 * 0 + σ.1 a 0) + σ.1 a 1) + σ.1 a 2) + σ.1 a 3) := by
    unfold f_X12_packed
    rw [ha]
    rfl
  rw [e, h 0 (by omega), h 1 (by omega), h 2 (by omega), h 3 (by omega)]
  simp only [iI_lit, iI_mul, iI_add]
  unfold n_p4
  congr 2
  omega
