/-! the class takes a lake -/
theorem u_takeFrom {s : k_St} {K : l_K} (hK : l_OK K) (hQ : w_Q s K) : k_OK (f_X1_takeFrom s) (fun s' => (s'.2 = s.2 ∧ ∀ c k, ¬ (c = 12 ∨ c = 13) → s'.1 c k = s.1 c k) ∧ s'.1 12 0 = iI (K.1 : Int) ∧ s'.1 12 1 = iI (K.2.2.2 0) ∧ s'.1 12 2 = iI (n_sum (fun p => K.2.2.1 (4 * p)) K.1) ∧ ∀ k, k < 4 * K.1 → s'.1 13 k = iI (K.2.2.1 k)) := by
  have h6 := hK.1
  have e1 : f_X2_toldPlaces s = some (iI (K.1 : Int)) := congrArg some hQ.1
  have e2 : ∀ y : Int32, f_X2_toldSigns (k_wr s 12 0 y) = some (iI (K.2.2.2 0)) := fun y => by
    unfold f_X2_toldSigns
    simp only [iI_lit]
    rw [n_gix (by decide) (by decide)]
    exact congrArg some (hQ.2.2.2 0 (by decide))
  unfold f_X1_takeFrom
  simp only [iI_lit]
  rw [e1, n_bd, iI_min (by omega) (by omega), show min 6 (K.1 : Int) = (K.1 : Int) by omega, ok_nm, e2, n_bd, ok_nm, ok_nm]
  refine ok_for K.1 (fun t (z : Int32 × k_St) => z.1 = iI (t : Int) ∧ (z.2.2 = s.2 ∧ ∀ c k, ¬ (c = 12 ∨ c = 13) → z.2.1 c k = s.1 c k) ∧ z.2.1 12 0 = iI (K.1 : Int) ∧ z.2.1 12 1 = iI (K.2.2.2 0) ∧ z.2.1 12 2 = iI (n_sum (fun p => K.2.2.1 (4 * p)) t) ∧ ∀ k, k < 4 * t → z.2.1 13 k = iI (K.2.2.1 k)) ?_ (by omega) (j := 0) ⟨rfl, ⟨rfl, fun c k q => by
    show (k_wr _ 12 2 _).1 c k = _
    rw [wr_c (by omega), wr_c (by omega), wr_c (by omega)]⟩, rfl, rfl, rfl, fun k hk => absurd hk (Nat.not_lt_zero k)⟩ (by omega)
  rintro g t ⟨v2, z⟩ ⟨h1, h2, h3, h4, h5, h7⟩ ht hgo
  have h1 : v2 = iI (t : Int) := h1
  subst h1
  have h2 : z.2 = s.2 ∧ ∀ c k, ¬ (c = 12 ∨ c = 13) → z.1 c k = s.1 c k := h2
  have h3 : k_rd z 12 0 = iI (K.1 : Int) := h3
  have h4 : z.1 12 1 = iI (K.2.2.2 0) := h4
  have h5 : z.1 12 2 = iI (n_sum (fun p => K.2.2.1 (4 * p)) t) := h5
  have h7 : ∀ k, k < 4 * t → z.1 13 k = iI (K.2.2.1 k) := h7
  dsimp only
  rw [h3, n_ile (by omega) (by omega)]
  by_cases c1 : (K.1 : Int) ≤ (t : Int)
  · rw [if_pos c1, ok_some]
    rw [show t = K.1 by omega] at h5
    exact ⟨h2, h3, h4, h5, fun k hk => h7 k (by omega)⟩
  rw [if_neg c1]
  refine ok_for 4 (fun u (w : Int32 × k_St) => w.1 = iI (u : Int) ∧ (w.2.2 = s.2 ∧ ∀ c k, ¬ (c = 12 ∨ c = 13) → w.2.1 c k = s.1 c k) ∧ w.2.1 12 0 = iI (K.1 : Int) ∧ w.2.1 12 1 = iI (K.2.2.2 0) ∧ w.2.1 12 2 = iI (n_sum (fun p => K.2.2.1 (4 * p)) t) ∧ ∀ k, k < 4 * t + u → w.2.1 13 k = iI (K.2.2.1 k)) ?_ (by omega) (j := 0) ⟨rfl, h2, h3, h4, h5, fun k hk => h7 k (by omega)⟩ (by omega)
  clear h2 h3 h4 h5 h7
  rintro g2 u ⟨v3, w⟩ ⟨h1, h2, h3, h4, h5, h7⟩ hu hgo2
  have h1 : v3 = iI (u : Int) := h1
  subst h1
  have h2 : w.2 = s.2 ∧ ∀ c k, ¬ (c = 12 ∨ c = 13) → w.1 c k = s.1 c k := h2
  have h3 : w.1 12 0 = iI (K.1 : Int) := h3
  have h4 : w.1 12 1 = iI (K.2.2.2 0) := h4
  have h5 : k_rd w 12 2 = iI (n_sum (fun p => K.2.2.1 (4 * p)) t) := h5
  have h7 : ∀ k, k < 4 * t + u → w.1 13 k = iI (K.2.2.1 k) := h7
  dsimp only
  rw [n_ile (by omega) (by omega)]
  by_cases c2 : (4 : Int) ≤ (u : Int)
  · have e3 := u_toldI (s := w) (p := t) (j := 0) (by omega) (by decide)
    rw [Nat.add_zero, h2.2 5 (4 * t) (by omega), hQ.2.2.1 (4 * t) (by omega)] at e3
    have e3 : f_X2_toldItem (iI (t : Int)) (iI 0) w = some (iI (K.2.2.1 (4 * t))) := e3
    rw [if_pos c2, e3, n_bd, h5, iI_add, iI_add, ok_nm, ok_nm]
    refine hgo _ (by omega) ⟨rfl, ⟨h2.1, fun c k q => ?_⟩, (wr_k (by decide)).trans h3, (wr_k (by decide)).trans h4, wr_s, fun k hk => ?_⟩
    · show (k_wr w 12 2 _).1 c k = _
      rw [wr_c (by omega)]
      exact h2.2 c k q
    · show (k_wr w 12 2 _).1 13 k = _
      rw [wr_c (by decide)]
      exact h7 k (by omega)
  · have e3 := u_toldI (s := w) (p := t) (j := u) (by omega) (by omega)
    rw [h2.2 5 (4 * t + u) (by omega), hQ.2.2.1 (4 * t + u) (by omega)] at e3
    rw [if_neg c2, e3, n_bd, iI_mul, iI_add, show (t : Int) * 4 + (u : Int) = ((4 * t + u : Nat) : Int) by omega, n_gix (by omega) (by omega), iI_cl (by omega), Int.toNat_natCast, ok_nm, iI_add, ok_nm]
    refine hgo2 _ (by omega) ⟨rfl, ⟨h2.1, fun c k q => ?_⟩, ?_, ?_, ?_, fun k hk => ?_⟩
    · show (k_wr w 13 _ _).1 c k = _
      rw [wr_c (by omega)]
      exact h2.2 c k q
    · show (k_wr w 13 _ _).1 12 0 = _
      rw [wr_c (by decide)]
      exact h3
    · show (k_wr w 13 _ _).1 12 1 = _
      rw [wr_c (by decide)]
      exact h4
    · show (k_wr w 13 _ _).1 12 2 = _
      rw [wr_c (by decide)]
      exact h5
    · show (k_wr w 13 (4 * t + u) _).1 13 k = _
      by_cases e : k = 4 * t + u
      · rw [e]
        exact wr_s
      · rw [wr_k e]
        exact h7 k (by omega)
theorem u_clear {s : k_St} : k_OK (f_X5_clear s) (fun s' => ((∀ c k, ¬ c = 43 → s'.1 c k = s.1 c k) ∧ ∀ c k, ¬ c = 44 → s'.2 c k = s.2 c k) ∧ ∀ j, j < 4 → s'.1 43 j = iI (-1) ∧ s'.2 44 j = iL (-1)) := by
  unfold f_X5_clear
  simp only [iI_lit, iI_neg, iL_lit, iL_neg]
  rw [ok_bd]
  refine ok_mono (Q := fun s' => (s'.2 = s.2 ∧ ∀ c k, ¬ c = 43 → s'.1 c k = s.1 c k) ∧ ∀ j, j < 4 → s'.1 43 j = iI (-1)) ?_ ?_
  · unfold f_J7_fill_53178
    simp only [iI_lit]
    rw [ok_nm, show (Int32.ofNat (k_nX 43)) = iI 4 from rfl]
    refine ok_for 4 (fun t (z : Int32 × k_St) => z.1 = iI (t : Int) ∧ (z.2.2 = s.2 ∧ ∀ c k, ¬ c = 43 → z.2.1 c k = s.1 c k) ∧ ∀ j, j < t → z.2.1 43 j = iI (-1)) ?_ (by omega) (j := 0) ⟨rfl, ⟨rfl, fun _ _ _ => rfl⟩, fun j hj => absurd hj (Nat.not_lt_zero j)⟩ (by omega)
    rintro g t ⟨v2, z⟩ ⟨h1, h2, h3⟩ ht hgo
    have h1 : v2 = iI (t : Int) := h1
    subst h1
    have h2 : z.2 = s.2 ∧ ∀ c k, ¬ c = 43 → z.1 c k = s.1 c k := h2
    have h3 : ∀ j, j < t → z.1 43 j = iI (-1) := h3
    dsimp only
    rw [n_ile (by omega) (by omega)]
    by_cases c : (4 : Int) ≤ (t : Int)
    · rw [if_pos c, ok_some]
      exact ⟨h2, fun j hj => h3 j (by omega)⟩
    · rw [if_neg c, n_gix (n := k_nX 43) (by omega) (by show 0 ≤ (t : Int) ∧ (t : Int) < 4; omega), iI_cl (by omega), Int.toNat_natCast, ok_nm, iI_add, ok_nm]
      refine hgo _ (by omega) ⟨rfl, ⟨h2.1, fun c k q => ?_⟩, fun j hj => ?_⟩
      · show (k_wr z 43 _ _).1 c k = _
        rw [wr_c q]
        exact h2.2 c k q
      · show (k_wr z 43 t _).1 43 j = _
        by_cases e : j = t
        · rw [e]
          exact wr_s
        · rw [wr_k e]
          exact h3 j (by omega)
  rintro s1 ⟨⟨f1, f2⟩, f3⟩
  rw [ok_bd]
  refine ok_mono (Q := fun s' => (s'.1 = s1.1 ∧ ∀ c k, ¬ c = 44 → s'.2 c k = s1.2 c k) ∧ ∀ j, j < 4 → s'.2 44 j = iL (-1)) ?_ ?_
  · unfold f_J7_fill_d0a16
    simp only [iI_lit]
    rw [ok_nm, show (Int32.ofNat (k_nX 44)) = iI 4 from rfl]
    refine ok_for 4 (fun t (z : Int32 × k_St) => z.1 = iI (t : Int) ∧ (z.2.1 = s1.1 ∧ ∀ c k, ¬ c = 44 → z.2.2 c k = s1.2 c k) ∧ ∀ j, j < t → z.2.2 44 j = iL (-1)) ?_ (by omega) (j := 0) ⟨rfl, ⟨rfl, fun _ _ _ => rfl⟩, fun j hj => absurd hj (Nat.not_lt_zero j)⟩ (by omega)
    rintro g t ⟨v2, z⟩ ⟨h1, h2, h3⟩ ht hgo
    have h1 : v2 = iI (t : Int) := h1
    subst h1
    have h2 : z.1 = s1.1 ∧ ∀ c k, ¬ c = 44 → z.2 c k = s1.2 c k := h2
    have h3 : ∀ j, j < t → z.2 44 j = iL (-1) := h3
    dsimp only
    rw [n_ile (by omega) (by omega)]
    by_cases c : (4 : Int) ≤ (t : Int)
    · rw [if_pos c, ok_some]
      exact ⟨h2, fun j hj => h3 j (by omega)⟩
    · rw [if_neg c, n_gix (n := k_nX 44) (by omega) (by show 0 ≤ (t : Int) ∧ (t : Int) < 4; omega), iI_cl (by omega), Int.toNat_natCast, ok_nm, iI_add, ok_nm]
      refine hgo _ (by omega) ⟨rfl, ⟨h2.1, fun c k q => ?_⟩, fun j hj => ?_⟩
      · show (k_wl z 44 _ _).2 c k = _
        rw [wl_if, if_neg (fun q2 => q q2.1)]
        exact h2.2 c k q
      · show (k_wl z 44 t (iL (-1))).2 44 j = _
        rw [wl_if]
        by_cases e : j = t
        · rw [if_pos ⟨rfl, e⟩]
        · rw [if_neg (fun q2 => e q2.2)]
          exact h3 j (by omega)
  rintro s2 ⟨⟨g1, g2⟩, g3⟩
  rw [ok_some]
  refine ⟨⟨fun c k q => ?_, fun c k q => ?_⟩, fun j hj => ⟨?_, g3 j hj⟩⟩
  · rw [g1]
    exact f2 c k q
  · rw [g2 c k q, f1]
  · rw [g1]
    exact f3 j hj
