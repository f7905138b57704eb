/-! the class keeps a law -/
theorem u_keep {σ : k_St} {l N : Nat} {b : Nat → Int} (hl : σ.1 7 4 = iI (l : Int)) (hl3 : l ≤ 3) (h11 : σ.1 1 1 = iI (N : Int)) (hN : N ≤ 160) (h2 : ∀ j, j < N → σ.1 2 j = iI (b j)) : ∃ s', f_X10_keep σ = some s' ∧ s'.2 = σ.2 ∧ s'.1 7 4 = iI ((l : Int) + 1) ∧ s'.1 10 l = iI (N : Int) ∧ (∀ j, j < N → s'.1 9 (160 * l + j) = iI (b j)) ∧ (∀ k, k < 160 * l → s'.1 9 k = σ.1 9 k) ∧ (∀ k, k < l → s'.1 10 k = σ.1 10 k) ∧ ∀ c k, ¬ (c = 7 ∧ k = 4) → ¬ (c = 9 ∨ c = 10) → s'.1 c k = σ.1 c k := by
  have hcp : o_cp (iI 0) (iI ((l : Int) * 160)) (iI (N : Int)) 160 640 = true := by
    unfold o_cp
    simp only [Bool.and_eq_true, decide_eq_true_eq]
    rw [iI_cl (by omega), iI_cl (by omega), iI_cl (by omega), show (0 : Int32) = iI 0 from rfl, iI_le (by omega) (by omega), iI_le (by omega) (by omega), iI_le (by omega) (by omega)]
    omega
  have hcells : ∀ c k, (k_cpI σ 2 9 (iI 0) (iI ((l : Int) * 160)) (iI (N : Int))).1 c k = if c = 9 then (if 160 * l ≤ k ∧ k < 160 * l + N then σ.1 2 (k - 160 * l) else σ.1 9 k) else σ.1 c k := fun c k => by
    show (if c = 9 then va_cpy (σ.1 2) (σ.1 9) (iI 0).toNatClampNeg (iI ((l : Int) * 160)).toNatClampNeg (iI (N : Int)).toNatClampNeg else σ.1 c) k = _
    by_cases q : c = 9
    · rw [if_pos q, if_pos q, iI_cl (by omega), iI_cl (by omega), iI_cl (by omega), show ((l : Int) * 160).toNat = 160 * l by omega, Int.toNat_natCast]
      unfold va_cpy
      by_cases q2 : 160 * l ≤ k ∧ k < 160 * l + N
      · rw [if_pos q2, if_pos q2]
        rw [show Int.toNat 0 + (k - 160 * l) = k - 160 * l from Nat.zero_add _]
      · rw [if_neg q2, if_neg q2]
    · rw [if_neg q, if_neg q]
  refine ⟨k_wr (k_wr (k_cpI σ 2 9 (iI 0) (iI ((l : Int) * 160)) (iI (N : Int))) 10 l (iI (N : Int))) 7 4 (iI ((l : Int) + 1)), ?_, rfl, wr_s, ?_, fun j hj => ?_, fun k hk => ?_, fun k hk => ?_, fun c k q1 q2 => ?_⟩
  · have e74 : k_rd σ 7 4 = iI (l : Int) := hl
    have e11 : k_rd σ 1 1 = iI (N : Int) := h11
    have e74b : k_rd (k_cpI σ 2 9 (iI 0) (iI ((l : Int) * 160)) (iI (N : Int))) 7 4 = iI (l : Int) := hl
    have e11b : k_rd (k_cpI σ 2 9 (iI 0) (iI ((l : Int) * 160)) (iI (N : Int))) 1 1 = iI (N : Int) := h11
    have e74c : ∀ y : Int32, k_rd (k_wr (k_cpI σ 2 9 (iI 0) (iI ((l : Int) * 160)) (iI (N : Int))) 10 l y) 7 4 = iI (l : Int) := fun y => hl
    unfold f_X10_keep
    simp only [iI_lit]
    rw [e74, e11, n_within (by omega) (by omega) (by omega), n_bd, n_ib, if_pos (by omega), n_within (by omega) (by omega) (by omega), n_bd, n_ib, if_pos (by omega), iI_mul, n_gdt hcp, n_nm, e74b, e11b, n_gix (by omega) (by omega), n_nm, iI_cl (by omega), Int.toNat_natCast, e74c, iI_add, n_nm]
  · rw [wr_c (by decide)]
    exact wr_s
  · rw [wr_c (by decide), wr_c (by decide), hcells, if_pos rfl, if_pos (by omega), show 160 * l + j - 160 * l = j by omega]
    exact h2 j hj
  · rw [wr_c (by decide), wr_c (by decide), hcells, if_pos rfl, if_neg (by omega)]
  · rw [wr_c (by decide), wr_k (by omega), hcells, if_neg (by decide)]
  · rw [wr_if, if_neg q1, wr_if, if_neg (by omega), hcells, if_neg (by omega)]
theorem n_xk {x s : k_St} {σ : k_St} (hx : x_c σ = x) (h2 : s.2 = σ.2) (h : ∀ c k, ¬ (c = 7 ∧ k = 4) → ¬ (c = 9 ∨ c = 10) → s.1 c k = σ.1 c k) : x_c (k_wr s 1 1 (iI 0)) = (fun c k => if c = 9 then s.1 9 k else if c = 10 then s.1 10 k else if c = 7 ∧ k = 4 then s.1 7 4 else if c = 1 ∧ k = 1 then iI 0 else x.1 c k, x.2) := by
  refine Prod.ext (funext fun c => funext fun k => ?_) (funext fun c => funext fun k => ?_)
  · show (if x_scr c k = true then 0 else (k_wr s 1 1 (iI 0)).1 c k) = if c = 9 then s.1 9 k else if c = 10 then s.1 10 k else if c = 7 ∧ k = 4 then s.1 7 4 else if c = 1 ∧ k = 1 then iI 0 else x.1 c k
    have hxk : x.1 c k = if x_scr c k = true then 0 else σ.1 c k := by
      rw [← hx]
      rfl
    by_cases n1 : c = 9
    · subst n1
      rfl
    rw [if_neg n1]
    by_cases n2 : c = 10
    · subst n2
      rfl
    rw [if_neg n2]
    by_cases n3 : c = 7 ∧ k = 4
    · obtain ⟨rfl, rfl⟩ := n3
      rfl
    rw [if_neg n3]
    by_cases n4 : c = 1 ∧ k = 1
    · obtain ⟨rfl, rfl⟩ := n4
      rfl
    rw [if_neg n4, hxk]
    by_cases q : x_scr c k = true
    · rw [if_pos q, if_pos q]
    · rw [if_neg q, if_neg q, wr_if, if_neg n4]
      exact h c k n3 (by omega)
  · show (if x_scr c k = true then 0 else s.2 c k) = x.2 c k
    rw [h2, ← hx]
    rfl
