/-! a text laid before the class's reader -/
theorem u_restart {c0 N : Nat} {b : Nat → Int} {s : k_St} {i : Nat} {e : Int} (h : u_S c0 N b s i e) : ∃ s', f_X3_restart c0 s = some s' ∧ u_S c0 N b s' 0 (-1) ∧ u_F c0 s s' :=
  ⟨k_wr (k_wr s c0 2 (iI ((0 : Nat) : Int))) c0 3 (iI (-1)), by
    unfold f_X3_restart
    simp only [iI_lit, iI_neg]
    rfl, (h.at' (i' := 0) (by omega)).er (e' := -1) (by omega), (u_F.rf.wr (Or.inl rfl)).wr (Or.inr rfl)⟩
theorem u_load {c0 A M o N : Nat} {b : Nat → Int} {σ : k_St} (hM : k_nX A = M) (hM2 : M ≤ 640) (ho : o + N ≤ M) (hN : N ≤ 160) (h9 : ∀ j, j < N → σ.1 A (o + j) = iI (b j)) (hA : ¬ A = c0) : ∃ s', f_X3_load c0 A (iI o) (iI N) σ = some s' ∧ u_S c0 N b s' 0 (-1) ∧ s'.2 = σ.2 ∧ ∀ c k, ¬ (c = c0 ∧ (k = 1 ∨ k = 2 ∨ k = 3)) → ¬ c = c0 + 1 → s'.1 c k = σ.1 c k := by
  have hcp : o_cp (iI o) (iI 0) (iI N) (k_nX A) 160 = true := by
    unfold o_cp
    simp only [Bool.and_eq_true, decide_eq_true_eq]
    rw [iI_cl (by omega), iI_cl (by omega), iI_cl (by omega), show (0 : Int32) = iI 0 from rfl, iI_le (by omega) (by omega), iI_le (by omega) (by omega), iI_le (by omega) (by omega), hM]
    omega
  have hMe : Int32.ofNat (k_nX A) = iI (M : Nat) := by
    rw [hM]
    exact iI_nat M
  have hcells : ∀ c k, (k_cpI (k_wr σ c0 1 (iI N)) A (c0 + 1) (iI o) (iI 0) (iI N)).1 c k = if c = c0 + 1 then (if k < N then σ.1 A (o + k) else σ.1 (c0 + 1) k) else (k_wr σ c0 1 (iI N)).1 c k := fun c k => by
    show (if c = c0 + 1 then va_cpy ((k_wr σ c0 1 (iI N)).1 A) ((k_wr σ c0 1 (iI N)).1 (c0 + 1)) (iI o).toNatClampNeg (iI 0).toNatClampNeg (iI N).toNatClampNeg else (k_wr σ c0 1 (iI N)).1 c) k = _
    by_cases q : c = c0 + 1
    · rw [if_pos q, if_pos q, iI_cl (by omega), iI_cl (by omega), iI_cl (by omega)]
      unfold va_cpy
      by_cases q2 : k < N
      · rw [if_pos q2, if_pos (by omega), wr_c hA]
        congr 1
      · rw [if_neg q2, if_neg (by omega), wr_c (by omega)]
    · rw [if_neg q, if_neg q]
  refine ⟨k_wr (k_wr (k_cpI (k_wr σ c0 1 (iI N)) A (c0 + 1) (iI o) (iI 0) (iI N)) c0 2 (iI 0)) c0 3 (iI (-1)), ?_, ⟨?_, ?_, wr_s, by omega, fun j hj => ?_⟩, rfl, fun c k h1 h2 => ?_⟩
  · unfold f_X3_load f_X3_restart
    simp only [n_jn, iI_lit, iI_neg]
    rw [n_ilt (by omega) (by omega), if_neg (by omega), n_ilt (by omega) (by omega), if_neg (by omega), n_ilt (by omega) (by omega), if_neg (by omega), hMe, iI_sub, n_ilt (by omega) (by omega), if_neg (by omega), n_iff (show ¬ iI 1 = iI 0 by decide), n_nm, n_iff (show ¬ iI 1 = iI 0 by decide), n_gdt hcp]
    rfl
  · rw [wr_k (by decide), wr_k (by decide), hcells, if_neg (by omega)]
    exact wr_s
  · rw [wr_k (by decide)]
    exact wr_s
  · rw [wr_c (by omega), wr_c (by omega), hcells, if_pos rfl, if_pos hj]
    exact h9 j hj
  · rw [wr_if, if_neg (by omega), wr_if, if_neg (by omega), hcells, if_neg h2, wr_if, if_neg (by omega)]
