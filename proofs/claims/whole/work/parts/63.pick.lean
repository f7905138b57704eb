/-! how many, and which is the z-th -/
def n_cE (E : Nat → Bool) : Nat → Nat
  | 0 => 0
  | t + 1 => n_cE E t + (if E t = true then 1 else 0)
def n_pk (E : Nat → Bool) (v : Nat → Int) (z : Int) : Nat → Int
  | 0 => -1
  | t + 1 => if E t = true ∧ (n_cE E t : Int) = z then v t else n_pk E v z t
theorem n_cE_r (E : Nat → Bool) : ∀ t, n_cE E t ≤ t
  | 0 => Nat.le_refl 0
  | t + 1 => by
    have := n_cE_r E t
    show n_cE E t + (if E t = true then 1 else 0) ≤ t + 1
    split <;> omega
theorem n_cE_m (E : Nat → Bool) : ∀ {t u : Nat}, t ≤ u → n_cE E t ≤ n_cE E u
  | t, 0, h => by
    have : t = 0 := by omega
    subst this
    exact Nat.le_refl _
  | t, u + 1, h => by
    by_cases e : t = u + 1
    · subst e
      exact Nat.le_refl _
    · have := n_cE_m E (show t ≤ u by omega)
      show n_cE E t ≤ n_cE E u + (if E u = true then 1 else 0)
      omega
/-- once found, found -/
theorem n_pk_st {E : Nat → Bool} {v : Nat → Int} {z : Int} {t : Nat} (h1 : E t = true) (h2 : (n_cE E t : Int) = z) : ∀ u, t + 1 ≤ u → n_pk E v z u = v t
  | 0, h => absurd h (by omega)
  | u + 1, h => by
    show (if E u = true ∧ (n_cE E u : Int) = z then v u else n_pk E v z u) = v t
    by_cases e : u = t
    · subst e
      rw [if_pos ⟨h1, h2⟩]
    · have h3 := n_cE_m E (show t + 1 ≤ u by omega)
      have h4 : n_cE E (t + 1) = n_cE E t + (if E t = true then 1 else 0) := rfl
      rw [if_pos h1] at h4
      rw [if_neg (fun q => by have := q.2; omega)]
      exact n_pk_st h1 h2 u (by omega)
theorem n_pk_no {E : Nat → Bool} {v : Nat → Int} {z : Int} (hz : z < 0) : ∀ u, n_pk E v z u = -1
  | 0 => rfl
  | u + 1 => by
    show (if E u = true ∧ (n_cE E u : Int) = z then v u else n_pk E v z u) = -1
    rw [if_neg (fun q => by have := q.2; omega)]
    exact n_pk_no hz u
/-- the answer of a list -/
def n_li (E : Nat → Bool) (v : Nat → Int) (z : Int) (N : Nat) : Int := if z = -1 then n_cE E N else n_pk E v z N
/-- the class's list, so far -/
def n_l7 (σ s : k_St) (E : Nat → Bool) (v : Nat → Int) (z : Int) (t : Nat) : Prop := n_Fr (fun c => c = 41) σ s ∧ s.1 41 0 = iI z ∧ s.1 41 1 = iI (n_cE E t : Nat) ∧ s.1 41 2 = iI (n_pk E v z t)
theorem n_start7 {σ : k_St} {E : Nat → Bool} {v : Nat → Int} {z : Int} : ∃ s, f_X7_start (iI z) σ = some s ∧ n_l7 σ s E v z 0 := by
  exact ⟨_, rfl, n_Fr.wr (S := fun c => c = 41) (n_Fr.wr (S := fun c => c = 41) (n_Fr.wr (S := fun c => c = 41) n_Fr.rf rfl) rfl) rfl, rfl, rfl, rfl⟩
theorem n_add7 {σ s : k_St} {E : Nat → Bool} {v : Nat → Int} {z : Int} {t : Nat} (hz : -2147483648 ≤ z ∧ z ≤ 2147483647) (ht : t < 1000000) (h : n_l7 σ s E v z t) (hE : E t = true) : ∃ s', f_X7_add (iI (v t)) s = some s' ∧ n_l7 σ s' E v z (t + 1) := by
  obtain ⟨hF, a0, a1, a2⟩ := h
  have hc := n_cE_r E t
  unfold f_X7_add
  have e0 : k_rd s 41 0 = iI z := a0
  have e1 : k_rd s 41 1 = iI (n_cE E t : Nat) := a1
  have ec : n_cE E (t + 1) = n_cE E t + 1 := by
    show n_cE E t + (if E t = true then 1 else 0) = _
    rw [if_pos hE]
  have ep : n_pk E v z (t + 1) = if (n_cE E t : Int) = z then v t else n_pk E v z t := by
    show (if E t = true ∧ (n_cE E t : Int) = z then v t else n_pk E v z t) = _
    by_cases c : (n_cE E t : Int) = z
    · rw [if_pos ⟨hE, c⟩, if_pos c]
    · rw [if_neg (fun q => c q.2), if_neg c]
  rw [e0, e1, n_ieq (by omega) hz]
  by_cases c : (n_cE E t : Int) = z
  · rw [if_pos c, n_nm, n_nm]
    rw [if_pos c] at ep
    have e2 : k_rd (k_wr s 41 2 (iI (v t))) 41 1 = iI (n_cE E t : Nat) := (wr_k (by decide)).trans a1
    rw [e2, show (1 : Int32) = iI 1 from rfl, iI_add]
    refine ⟨_, rfl, (hF.wr rfl).wr rfl, ?_, ?_, ?_⟩
    · rw [wr_k (by decide), wr_k (by decide)]
      exact a0
    · rw [wr_s, ec]
      congr 1
    · rw [wr_k (by decide), wr_s, ep]
  · rw [if_neg c, n_nm]
    rw [if_neg c] at ep
    rw [show (1 : Int32) = iI 1 from rfl, iI_add]
    refine ⟨_, rfl, hF.wr rfl, ?_, ?_, ?_⟩
    · rw [wr_k (by decide)]
      exact a0
    · rw [wr_s, ec]
      congr 1
    · rw [wr_k (by decide), ep]
      exact a2
theorem n_skip7 {σ s : k_St} {E : Nat → Bool} {v : Nat → Int} {z : Int} {t : Nat} (h : n_l7 σ s E v z t) (hE : ¬ E t = true) : n_l7 σ s E v z (t + 1) := by
  obtain ⟨hF, a0, a1, a2⟩ := h
  refine ⟨hF, a0, ?_, ?_⟩
  · rw [a1]
    show _ = iI ((n_cE E t + (if E t = true then 1 else 0) : Nat) : Int)
    rw [if_neg hE]
    rfl
  · rw [a2]
    show _ = iI (if E t = true ∧ (n_cE E t : Int) = z then v t else n_pk E v z t)
    rw [if_neg (fun q => hE q.1)]
theorem n_told7 {σ s : k_St} {E : Nat → Bool} {v : Nat → Int} {z : Int} {t : Nat} (hz : -2147483648 ≤ z ∧ z ≤ 2147483647) (h : n_l7 σ s E v z t) : f_X7_told s = some (iI (n_li E v z t)) := by
  obtain ⟨hF, a0, a1, a2⟩ := h
  unfold f_X7_told n_li
  rw [show k_rd s 41 0 = iI z from a0, show (-1 : Int32) = iI (-1) from rfl, n_ieq hz (by omega), show k_rd s 41 1 = _ from a1, show k_rd s 41 2 = _ from a2]
  by_cases c : z = -1
  · rw [if_pos c, if_pos c]
  · rw [if_neg c, if_neg c]
