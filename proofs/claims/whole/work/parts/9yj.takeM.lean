/-! the reference takes a lake -/
def y_T (s : k_St) (K : l_K) (z : k_St) : Prop := (z.2 = s.2 ∧ ∀ c k, ¬ (c = 0 ∧ (k = 21 ∨ k = 22 ∨ k = 23 ∨ k = 26 ∨ k = 27 ∨ k = 28 ∨ k = 29 ∨ k = 52 ∨ k = 59 ∨ k = 70)) → ¬ (c = 13 ∨ c = 14 ∨ c = 15 ∨ c = 22 ∨ c = 24) → z.1 c k = s.1 c k) ∧ z.1 0 21 = iI (K.1 : Int) ∧ z.1 0 22 = iI (K.2.2.2 0) ∧ z.1 0 23 = iI (K.2.2.2 1)
theorem y_T.w {s z : k_St} {K : l_K} (h : y_T s K z) {c k : Nat} {x : Int32} (hc : c = 13 ∨ c = 14 ∨ c = 15 ∨ c = 22 ∨ c = 24) : y_T s K (k_wr z c k x) := by
  obtain ⟨⟨h1, h2⟩, h3, h4, h5⟩ := h
  refine ⟨⟨h1, fun c' k' q1 q2 => ?_⟩, ?_, ?_, ?_⟩
  · rw [wr_if, if_neg (by omega)]
    exact h2 c' k' q1 q2
  · rw [wr_if, if_neg (by omega)]
    exact h3
  · rw [wr_if, if_neg (by omega)]
    exact h4
  · rw [wr_if, if_neg (by omega)]
    exact h5
def y_T1 (s : k_St) (K : l_K) (z : k_St) : Prop := y_T s K z ∧ ∀ k, k < 24 → z.1 13 k = s.1 11 k
def y_T2 (s : k_St) (K : l_K) (t : Nat) (z : k_St) : Prop := y_T1 s K z ∧ ∀ j, j < t → z.1 14 j = iI 0 ∧ z.1 22 j = iI (-1) ∧ z.1 24 j = iI 0
theorem y_takeLake {s : k_St} {K : l_K} (hQ : y_Q s K) : k_OK (f_X12_takeLake s) (fun r => r.1 = iI (K.1 : Int) ∧ ∃ z, r.2 = k_wr (k_wr (k_wr (k_wr (k_wr (k_wr (k_wr z 0 26 (iI 0)) 0 27 (iI 0)) 0 28 (iI 0)) 0 29 (iI 0)) 0 52 (iI 0)) 0 59 (iI 0)) 0 70 (iI 0) ∧ y_T2 s K 4 z ∧ ∀ j, j < 16 → z.1 15 j = iI 0) := by
  unfold f_X12_takeLake
  simp only [iI_lit, iI_neg]
  rw [show k_rd s 0 19 = iI (K.1 : Int) from hQ.1, ok_nm, n_gix (by decide) (by decide), show k_rd (k_wr s 0 21 (iI (K.1 : Int))) 12 (iI 0).toNatClampNeg = iI (K.2.2.2 0) from hQ.2.2 0 (by decide), ok_nm, n_gix (by decide) (by decide), show k_rd (k_wr (k_wr s 0 21 (iI (K.1 : Int))) 0 22 (iI (K.2.2.2 0))) 12 (iI 1).toNatClampNeg = iI (K.2.2.2 1) from hQ.2.2 1 (by decide), ok_nm]
  have h0 : y_T s K (k_wr (k_wr (k_wr s 0 21 (iI (K.1 : Int))) 0 22 (iI (K.2.2.2 0))) 0 23 (iI (K.2.2.2 1))) := ⟨⟨rfl, fun c k q1 q2 => by rw [wr_if, if_neg (by omega), wr_if, if_neg (by omega), wr_if, if_neg (by omega)]⟩, rfl, rfl, rfl⟩
  refine ok_for 24 (fun t (z : Int32 × k_St) => z.1 = iI (t : Int) ∧ y_T s K z.2 ∧ ∀ k, k < t → z.2.1 13 k = s.1 11 k) ?_ (by omega) (j := 0) ⟨rfl, h0, fun k hk => absurd hk (Nat.not_lt_zero k)⟩ (by omega)
  rintro g t ⟨v1, z⟩ ⟨h1, h2, h3⟩ ht hgo
  have h1 : v1 = iI (t : Int) := h1
  subst h1
  have h2 : y_T s K z := h2
  have h3 : ∀ k, k < t → z.1 13 k = s.1 11 k := h3
  dsimp only
  rw [n_ile (by omega) (by omega)]
  by_cases c : (24 : Int) ≤ (t : Int)
  rotate_left
  · rw [if_neg c, n_gix (by omega) (by omega), n_gix (by omega) (by omega), iI_cl (by omega), Int.toNat_natCast, ok_nm, iI_add, ok_nm]
    refine hgo _ (by omega) ⟨rfl, h2.w (by omega), fun k hk => ?_⟩
    show (k_wr z 13 t (z.1 11 t)).1 13 k = _
    by_cases e : k = t
    · rw [e, wr_s]
      exact h2.1.2 11 t (by omega) (by omega)
    · rw [wr_k e]
      exact h3 k (by omega)
  rw [if_pos c]
  have hz1 : y_T1 s K z := ⟨h2, fun k hk => h3 k (by omega)⟩
  clear h3 h2 hgo
  refine ok_for 4 (fun t (z : Int32 × k_St) => z.1 = iI (t : Int) ∧ y_T2 s K t z.2) ?_ (by omega) (j := 0) ⟨rfl, hz1, fun k hk => absurd hk (Nat.not_lt_zero k)⟩ (by omega)
  rintro g t ⟨v1, z⟩ ⟨h1, h2, h3⟩ ht hgo
  have h1 : v1 = iI (t : Int) := h1
  subst h1
  have h2 : y_T1 s K z := h2
  have h3 : ∀ j, j < t → z.1 14 j = iI 0 ∧ z.1 22 j = iI (-1) ∧ z.1 24 j = iI 0 := h3
  dsimp only
  rw [n_ile (by omega) (by omega)]
  by_cases c : (4 : Int) ≤ (t : Int)
  rotate_left
  · rw [if_neg c, n_gix (by omega) (by omega), iI_cl (by omega), Int.toNat_natCast, ok_nm, n_gix (by omega) (by omega), ok_nm, n_gix (by omega) (by omega), ok_nm, iI_add, ok_nm]
    refine hgo _ (by omega) ⟨rfl, ⟨((h2.1.w (by omega)).w (by omega)).w (by omega), fun k hk => ?_⟩, fun j hj => ?_⟩
    · show (k_wr (k_wr (k_wr z 14 t _) 22 t _) 24 t _).1 13 k = _
      rw [wr_c (by decide), wr_c (by decide), wr_c (by decide)]
      exact h2.2 k hk
    · show (k_wr (k_wr (k_wr z 14 t (iI 0)) 22 t (iI (-1))) 24 t (iI 0)).1 14 j = _ ∧ (k_wr (k_wr (k_wr z 14 t (iI 0)) 22 t (iI (-1))) 24 t (iI 0)).1 22 j = _ ∧ (k_wr (k_wr (k_wr z 14 t (iI 0)) 22 t (iI (-1))) 24 t (iI 0)).1 24 j = _
      by_cases e : j = t
      · subst e
        refine ⟨?_, ?_, wr_s⟩
        · rw [wr_c (by decide), wr_c (by decide)]
          exact wr_s
        · rw [wr_c (by decide)]
          exact wr_s
      · rw [wr_c (by decide), wr_c (by decide), wr_k e, wr_c (by decide), wr_k e, wr_c (by decide), wr_k e, wr_c (by decide), wr_c (by decide)]
        exact h3 j (by omega)
  rw [if_pos c]
  have hz1 : y_T2 s K 4 z := ⟨h2, fun k hk => h3 k (by omega)⟩
  clear h3 h2 hgo
  refine ok_for 16 (fun t (z : Int32 × k_St) => z.1 = iI (t : Int) ∧ y_T2 s K 4 z.2 ∧ ∀ j, j < t → z.2.1 15 j = iI 0) ?_ (by omega) (j := 0) ⟨rfl, hz1, fun k hk => absurd hk (Nat.not_lt_zero k)⟩ (by omega)
  rintro g t ⟨v1, z⟩ ⟨h1, h2, h3⟩ ht hgo
  have h1 : v1 = iI (t : Int) := h1
  subst h1
  have h2 : y_T2 s K 4 z := h2
  have h3 : ∀ j, j < t → z.1 15 j = iI 0 := h3
  dsimp only
  rw [n_ile (by omega) (by omega)]
  by_cases c : (16 : Int) ≤ (t : Int)
  rotate_left
  · rw [if_neg c, n_gix (by omega) (by omega), iI_cl (by omega), Int.toNat_natCast, ok_nm, iI_add, ok_nm]
    refine hgo _ (by omega) ⟨rfl, ⟨⟨h2.1.1.w (by omega), fun k hk => ?_⟩, fun j hj => ?_⟩, fun j hj => ?_⟩
    · show (k_wr z 15 t _).1 13 k = _
      rw [wr_c (by decide)]
      exact h2.1.2 k hk
    · show (k_wr z 15 t _).1 14 j = _ ∧ (k_wr z 15 t _).1 22 j = _ ∧ (k_wr z 15 t _).1 24 j = _
      rw [wr_c (by decide), wr_c (by decide), wr_c (by decide)]
      exact h2.2 j hj
    · show (k_wr z 15 t (iI 0)).1 15 j = _
      by_cases e : j = t
      · rw [e]
        exact wr_s
      · rw [wr_k e]
        exact h3 j (by omega)
  rw [if_pos c, ok_nm, ok_nm, ok_nm, ok_nm, ok_nm, ok_nm, ok_nm, ok_some]
  exact ⟨h2.1.1.2.1, z, rfl, h2, fun j hj => h3 j (by omega)⟩
