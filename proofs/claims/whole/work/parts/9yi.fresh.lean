/-! a new lake, on both sides -/
def l_Lf (K : l_K) (p j : Nat) : Int := match j with
  | 0 => K.2.2.1 (4 * p + 3)
  | 1 => p
  | 2 => K.2.2.1 (4 * p + 1)
  | 3 => K.2.2.1 (4 * p + 2)
  | _ => K.2.2.1 (4 * p)
theorem l_cell {K : l_K} (hK : l_OK K) {p j : Nat} (hp : p < K.1) (hj : j < 4) : 0 ≤ K.2.2.1 (4 * p + j) ∧ K.2.2.1 (4 * p + j) ≤ 99 := l_b99 (hK.2.1 p hp) (k := j) hj
theorem l_Lf_b {K : l_K} (hK : l_OK K) {p : Nat} (hp : p < K.1) : r_let (l_Lf K p) := fun j hj => by
  have h6 := hK.1
  rcases (show j = 0 ∨ j = 1 ∨ j = 2 ∨ j = 3 ∨ j = 4 by omega) with rfl | rfl | rfl | rfl | rfl
  · exact l_cell hK hp (j := 3) (by decide)
  · show 0 ≤ (p : Int) ∧ (p : Int) ≤ 99
    omega
  · exact l_cell hK hp (j := 1) (by decide)
  · exact l_cell hK hp (j := 2) (by decide)
  · exact l_cell hK hp (j := 0) (by decide)
def l_W (K : l_K) (x : k_St) (a : Int) (p : Nat) : Int := if a = -1 then K.2.2.1 (4 * p + 3) else max 0 (min 999 (n_ev (fun j => vI x 9 (160 * a.toNat + j)) (vI x 10 a.toNat).toNat (l_Lf K p)))
def n_fX (x x' : k_St) (K : l_K) (a : Int) : Prop := x'.1 1 1 = iI 0 ∧ (x'.1 12 0 = iI (K.1 : Int) ∧ x'.1 12 1 = iI (K.2.2.2 0) ∧ x'.1 12 2 = iI (n_sum (fun p => K.2.2.1 (4 * p)) K.1) ∧ ∀ k, k < 4 * K.1 → x'.1 13 k = iI (K.2.2.1 k)) ∧ (∀ p, p < K.1 → x'.1 14 p = iI (l_W K x a p) ∧ x'.1 15 p = iI (l_W K x a p * K.2.2.1 (4 * p))) ∧ (x'.1 16 0 = iI 0 ∧ x'.2 16 1 = 0 ∧ x'.2 16 2 = x.2 16 2 ∧ x'.1 16 3 = iI 0 ∧ x'.1 16 4 = iI 0 ∧ x'.1 16 5 = iI (K.2.2.2 1) ∧ x'.1 16 6 = iI 0) ∧ (∀ j, j < 4 → x'.1 43 j = iI (-1) ∧ x'.2 44 j = iL (-1)) ∧ (x'.1 0 13 = iI 0 ∧ x'.1 0 14 = iI 0 ∧ x'.1 0 15 = iI 0 ∧ x'.1 0 16 = iI 0) ∧ (x'.1 7 4 = x.1 7 4 ∧ x'.1 7 5 = x.1 7 5 ∧ ∀ k, x'.1 9 k = x.1 9 k ∧ x'.1 10 k = x.1 10 k)
def n_fM (m m' : k_St) (K : l_K) : Prop := m'.1 0 2 = iI 0 ∧ (m'.1 0 21 = iI (K.1 : Int) ∧ m'.1 0 22 = iI (K.2.2.2 0) ∧ m'.1 0 23 = iI (K.2.2.2 1) ∧ ∀ k, k < 4 * K.1 → m'.1 13 k = iI (K.2.2.1 k)) ∧ (∀ j, j < 4 → m'.1 14 j = iI 0 ∧ m'.1 22 j = iI (-1) ∧ m'.1 24 j = iI 0) ∧ (∀ j, j < 16 → m'.1 15 j = iI 0) ∧ (m'.1 0 26 = iI 0 ∧ m'.1 0 27 = iI 0 ∧ m'.1 0 28 = iI 0 ∧ m'.1 0 29 = iI 0 ∧ m'.1 0 52 = iI 0 ∧ m'.1 0 59 = iI 0 ∧ m'.1 0 70 = iI 0) ∧ m'.2 0 60 = m.2 0 60 ∧ (m'.1 0 13 = m.1 0 13 ∧ m'.1 0 30 = m.1 0 30 ∧ ∀ c k, 2 ≤ c → c ≤ 8 → m'.1 c k = m.1 c k)
theorem r_law.of {x m x' m' : k_St} (h : r_law x m) (x74 : x'.1 7 4 = x.1 7 4) (x75 : x'.1 7 5 = x.1 7 5) (x9 : ∀ k, x'.1 9 k = x.1 9 k ∧ x'.1 10 k = x.1 10 k) (m13 : m'.1 0 13 = m.1 0 13) (m30 : m'.1 0 30 = m.1 0 30) (m28 : ∀ c k, 2 ≤ c → c ≤ 8 → m'.1 c k = m.1 c k) : r_law x' m' ∧ ∀ i L, rp_E m' i L = rp_E m i L := by
  have hE : ∀ i L, rp_E m' i L = rp_E m i L := fun i L => rp_E_eq (w := i + 1) (by omega) (m28 5 i (by decide) (by decide)) (fun k _ => ⟨m28 2 k (by decide) (by decide), m28 3 k (by decide) (by decide)⟩) (fun k _ => ⟨m28 6 k (by decide) (by decide), m28 7 k (by decide) (by decide), m28 8 k (by decide) (by decide)⟩)
  obtain ⟨⟨h1, h2⟩, ⟨h3, h4⟩, h5⟩ := h
  have e13 : vI m' 0 13 = vI m 0 13 := n_vI m13
  have e30 : vI m' 0 30 = vI m 0 30 := n_vI m30
  refine ⟨⟨⟨x74.trans (h1.trans m13.symm), by rw [e13]; exact h2⟩, ⟨x75.trans (h3.trans m30.symm), by rw [e30, e13]; exact h4⟩, fun i hi => ?_⟩, hE⟩
  rw [e13] at hi
  have h6 := h5 i hi
  unfold r_lw at h6 ⊢
  have e10 : vI x' 10 i = vI x 10 i := n_vI (x9 i).2
  have e9 : (fun j => vI x' 9 (160 * i + j)) = (fun j => vI x 9 (160 * i + j)) := funext fun j => n_vI (x9 _).1
  rw [e10, e9]
  refine ⟨h6.1, fun L hL => ?_⟩
  rw [hE i L]
  exact h6.2 L hL
theorem n_fresh {x m x' m' : k_St} {K : l_K} {a : Int} (hK2 : 2 ≤ K.1 ∧ 0 < n_sum (fun p => K.2.2.1 (4 * p)) K.1) (hK : l_OK K) (hlaw : r_law x m) (ha : vI m 0 30 = a) (h60 : x.2 16 2 = m.2 0 60) (hX : n_fX x x' K a) (hM : n_fM m m' K) : r_all x' m' := by
  obtain ⟨X1, ⟨X2, X3, X4, X5⟩, X6, ⟨X7, X8, X9, X10, X11, X12, X13⟩, X14, ⟨X15, X16, X17, X18⟩, X19, X20, X21⟩ := hX
  obtain ⟨M1, ⟨M2, M3, M4, M5⟩, M6, M7, ⟨M8, M9, M10, M11, M12, M13, M14⟩, M15, M16, M17, M18⟩ := hM
  have h6 := hK.1
  have hk := hK.2.2 0 (by decide)
  have hlo := hK.2.2 1 (by decide)
  have hk : 1 ≤ K.2.2.2 0 ∧ K.2.2.2 0 ≤ 4 := hk
  have hlo : 0 ≤ K.2.2.2 1 ∧ K.2.2.2 1 ≤ 99 := hlo
  have hsb := l_sum_b hK K.1 (Nat.le_refl _)
  obtain ⟨hL, hE⟩ := hlaw.of X19 X20 X21 M16 M17 M18
  have v2 : vI m' 0 2 = 0 := by
    show (m'.1 0 2).toInt = 0
    rw [M1]
    rfl
  have v21 : vI m' 0 21 = (K.1 : Int) := by
    show (m'.1 0 21).toInt = _
    rw [M2]
    exact iI_to (by omega)
  have v22 : vI m' 0 22 = K.2.2.2 0 := by
    show (m'.1 0 22).toInt = _
    rw [M3]
    exact iI_to (by omega)
  have v52 : vI m' 0 52 = 0 := by
    show (m'.1 0 52).toInt = 0
    rw [M12]
    rfl
  have v30 : vI m' 0 30 = a := (n_vI M17).trans ha
  have vT : ∀ k, k < 4 * K.1 → vI m' 13 k = K.2.2.1 k := fun k hk => by
    have hc := l_cell hK (p := k / 4) (j := k % 4) (by omega) (by omega)
    rw [show 4 * (k / 4) + k % 4 = k by omega] at hc
    show (m'.1 13 k).toInt = _
    rw [M5 k hk]
    exact iI_to (by omega)
  have hlet : ∀ p, p < K.1 → m_let m' p = l_Lf K p := fun p hp => funext fun j => by
    match j with
    | 0 => exact vT _ (by omega)
    | 1 => rfl
    | 2 => exact vT _ (by omega)
    | 3 => exact vT _ (by omega)
    | _ + 4 => exact vT _ (by omega)
  have hsW : m_sW m' (vI m' 0 21).toNat = n_sum (fun p => K.2.2.1 (4 * p)) K.1 := by
    rw [v21, Int.toNat_natCast]
    exact n_sum_eq' _ (fun p hp => vT _ (by omega))
  refine ⟨⟨⟨X1.trans M1.symm, by rw [v2]; decide, by rw [v2]; decide⟩, fun k hk => absurd hk (by rw [v2]; omega)⟩, ⟨⟨X2.trans M2.symm, by rw [v21]; omega, by rw [v21]; omega⟩, ⟨X3.trans M3.symm, by rw [v22]; omega, by rw [v22]; omega⟩, fun z => absurd z (by rw [v21]; omega), fun _ => ⟨by rw [v21]; omega, by rw [v22]; omega, by rw [hsW]; exact hK2.2⟩, ?_, fun p hp => ?_⟩, ⟨⟨fun s hs => ?_, ?_⟩, fun j hj => ?_, ?_, ⟨X10.trans M8.symm, Or.inl M8⟩, ⟨X11.trans M9.symm, Or.inl M9⟩, ⟨X12.trans M4.symm, ?_, ?_⟩, ⟨X13.trans M13.symm, ?_, ?_⟩, fun i hi => ?_⟩, ⟨X16.trans M14.symm, Or.inl M14⟩, fun s hs => ?_, ⟨⟨X15.trans M12.symm, by rw [v52]; decide, by rw [v52]; decide⟩, fun i hi => absurd hi (by rw [v52]; omega)⟩, ⟨⟨X17.trans M10.symm, Or.inl M10⟩, ⟨X18.trans M11.symm, Or.inl M11⟩⟩, hL, fun p hp => ?_⟩
  · rw [hsW]
    show (x'.1 12 2).toInt = _
    rw [X4]
    exact iI_to (by omega)
  · rw [v21] at hp
    have hp : p < K.1 := by omega
    have c0 := hK.2.1 p hp 0 (by decide)
    have c1 := hK.2.1 p hp 1 (by decide)
    have c2 := hK.2.1 p hp 2 (by decide)
    have c3 := hK.2.1 p hp 3 (by decide)
    rw [vT (4 * p) (by omega), vT (4 * p + 1) (by omega), vT (4 * p + 2) (by omega), vT (4 * p + 3) (by omega)]
    exact ⟨fun j hj => (X5 _ (by omega)).trans (M5 _ (by omega)).symm, c0, c1, c2, c3⟩
  · show 0 ≤ (m'.1 14 s).toInt ∧ (m'.1 14 s).toInt < max (vI m' 0 22) 1
    rw [(M6 s hs).1]
    show 0 ≤ (0 : Int) ∧ (0 : Int) < max (vI m' 0 22) 1
    omega
  · rw [X7]
    show iI 0 = iI (64 * (m'.1 14 0).toInt + 16 * (m'.1 14 1).toInt + 4 * (m'.1 14 2).toInt + (m'.1 14 3).toInt)
    rw [(M6 0 (by decide)).1, (M6 1 (by decide)).1, (M6 2 (by decide)).1, (M6 3 (by decide)).1]
    rfl
  · rw [X8, M7 j hj]
    refine ⟨o_pl_0 hj, (by decide : (0 : Int) ≤ (iI 0).toInt), ?_⟩
    show (0 : Int) < max (vI m' 0 21) 1
    omega
  · rw [X9, M15]
    exact h60
  · rw [M4, iI_to (by omega)]
    omega
  · rw [M4, iI_to (by omega)]
    omega
  · rw [M13]
    decide
  · rw [M13]
    decide
  · rw [M13] at hi
    exact absurd hi (by show ¬ (i : Int) < 0; omega)
  · obtain ⟨n1, n2, n3⟩ := M6 s hs
    obtain ⟨n4, n5⟩ := X14 s hs
    exact ⟨Or.inl ⟨n2, n4⟩, Or.inl ⟨n3, n5⟩⟩
  · rw [v21] at hp
    have hp : p < K.1 := by omega
    obtain ⟨y1, y2⟩ := X6 p hp
    have hc0 := l_cell hK hp (j := 0) (by decide)
    have hc0 : 0 ≤ K.2.2.1 (4 * p) ∧ K.2.2.1 (4 * p) ≤ 99 := hc0
    have hc3 := l_cell hK hp (j := 3) (by decide)
    have hV : m_V m' p = some (l_W K x a p) ∧ 0 ≤ l_W K x a p ∧ l_W K x a p ≤ 999 := by
      unfold m_V l_W
      rw [v30]
      by_cases q : a = -1
      · rw [if_pos q, if_pos q, vT _ (by omega)]
        exact ⟨rfl, by omega, by omega⟩
      · have hb30 := hlaw.2.1.2
        rw [if_neg q, if_neg q, hE, hlet p hp, ((hlaw.2.2 a.toNat (by omega)).2 _ (l_Lf_b hK hp)).1]
        exact ⟨rfl, by omega, by omega⟩
    obtain ⟨hV, hb1, hb2⟩ := hV
    have e14 : vI x' 14 p = l_W K x a p := by
      show (x'.1 14 p).toInt = _
      rw [y1]
      exact iI_to (by omega)
    have e15 : vI x' 15 p = l_W K x a p * K.2.2.1 (4 * p) := by
      show (x'.1 15 p).toInt = _
      rw [y2]
      refine iI_to ?_
      have := Int.mul_nonneg hb1 hc0.1
      have := Int.mul_le_mul hb2 hc0.2 hc0.1 (by omega : (0 : Int) ≤ 999)
      omega
    rw [e14, e15, vT _ (by omega)]
    exact ⟨hV, ⟨hb1, hb2⟩, rfl⟩
