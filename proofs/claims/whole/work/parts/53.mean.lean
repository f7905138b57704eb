/-! what a row of throws brings, both ways -/
theorem n_mulr {a b A B : Int} (ha : 0 ≤ a ∧ a ≤ A) (hb : 0 ≤ b ∧ b ≤ B) : 0 ≤ a * b ∧ a * b ≤ A * B := ⟨Int.mul_nonneg ha.1 hb.1, Int.mul_le_mul ha.2 hb.2 hb.1 (Int.le_trans ha.1 ha.2)⟩
def n_hv (R : Nat → Int32) (sn y g : Int) (p : Nat) : Int := (if (R (4 * sn + y).toNat).toInt = p then 100 - n_t0 g y else 0) + (if (R (4 * sn).toNat).toInt = p then n_t0 g y else 0)
theorem n_t0r {g y : Int} (h : 0 ≤ g ∧ g ≤ 99) : 0 ≤ n_t0 g y ∧ n_t0 g y ≤ 99 := by
  unfold n_t0
  split <;> omega
theorem n_hvr {R : Nat → Int32} {sn y g : Int} {p : Nat} (h : 0 ≤ g ∧ g ≤ 99) : 0 ≤ n_hv R sn y g p ∧ n_hv R sn y g p ≤ 100 := by
  have := n_t0r (y := y) h
  unfold n_hv
  split <;> split <;> omega
def n_A (m : k_St) (V f : Nat → Int) (R : Nat → Int32) (fg th : Int) (n : Nat) : Int := n_sum (fun p => vI m 13 (4 * p) * V p * n_hv R (n_sn m fg p) (f (n_hd m th p).toNat) (vI m 0 23) p) n
theorem n_Ar {m : k_St} {V f : Nat → Int} {R : Nat → Int32} {fg th : Int} {n : Nat} (hk : n_mk m n V) : 0 ≤ n_A m V f R fg th n ∧ n_A m V f R fg th n ≤ 5394600 := by
  have h := n_sum_r (f := fun p => vI m 13 (4 * p) * V p * n_hv R (n_sn m fg p) (f (n_hd m th p).toNat) (vI m 0 23) p) (b := 9 * 999 * 100) (n := n) (fun p hp => by
    obtain ⟨⟨a1, _, _⟩, _, a2⟩ := hk.2.2.2.2 p hp
    exact n_mulr (n_mulr a1 a2) (n_hvr hk.2.2.1))
  have h6 := hk.2.1
  unfold n_A
  omega
theorem n_AB {m : k_St} {V f : Nat → Int} {R : Nat → Int32} {n : Nat} (hk : n_mk m n V) (hf : ∀ s, s < 4 → 0 ≤ f s ∧ f s < 4) (hR : ∀ c, c < 16 → 0 ≤ (R c).toInt ∧ (R c).toInt < n) : n_sum (fun c => n_B m V f c (R c).toInt.toNat) 16 = n_A m V f R (vI m 0 26) (vI m 0 27) n := by
  have e1 : n_sum (fun c => n_B m V f c (R c).toInt.toNat) 16 = n_sum (fun c => n_sum (fun p => if p = (R c).toInt.toNat then n_B m V f c p else 0) n) 16 := n_sum_c (fun c hc => by
    have := hR c hc
    rw [n_sum_one, if_pos (by omega)])
  rw [e1, n_sum_swap]
  unfold n_A
  refine n_sum_c (fun p hp => ?_)
  have hh := hk.hd hp (vI m 0 27)
  have hs := hk.sn hp (vI m 0 26)
  have hy := hf (n_hd m (vI m 0 27) p).toNat (by omega)
  unfold n_B n_hv
  generalize n_hd m (vI m 0 27) p = H at *
  generalize n_sn m (vI m 0 26) p = N at *
  generalize f H.toNat = Y at *
  generalize n_t0 (vI m 0 23) Y = T at *
  generalize vI m 13 (4 * p) * V p = S at *
  have e2 : n_sum (fun c => if p = (R c).toInt.toNat then (if (c : Int) = 4 * N + Y then S * (100 - T) else 0) + (if (c : Int) = 4 * N then S * T else 0) else 0) 16 = n_sum (fun c => (if c = (4 * N + Y).toNat then (if (R c).toInt = p then S * (100 - T) else 0) else 0) + (if c = (4 * N).toNat then (if (R c).toInt = p then S * T else 0) else 0)) 16 := n_sum_c (fun c hc => by
    have := hR c hc
    by_cases a1 : p = (R c).toInt.toNat
    · rw [if_pos a1, if_pos (show (R c).toInt = p by omega), if_pos (show (R c).toInt = p by omega)]
      by_cases a2 : (c : Int) = 4 * N + Y
      · rw [if_pos a2, if_pos (show c = (4 * N + Y).toNat by omega)]
        by_cases a3 : (c : Int) = 4 * N
        · rw [if_pos a3, if_pos (show c = (4 * N).toNat by omega)]
        · rw [if_neg a3, if_neg (show ¬ c = (4 * N).toNat by omega)]
      · rw [if_neg a2, if_neg (show ¬ c = (4 * N + Y).toNat by omega)]
        by_cases a3 : (c : Int) = 4 * N
        · rw [if_pos a3, if_pos (show c = (4 * N).toNat by omega)]
        · rw [if_neg a3, if_neg (show ¬ c = (4 * N).toNat by omega)]
    · rw [if_neg a1, if_neg (show ¬ (R c).toInt = p by omega), if_neg (show ¬ (R c).toInt = p by omega)]
      split <;> split <;> rfl)
  rw [e2, n_sum_add, n_sum_one, n_sum_one, if_pos (show (4 * N + Y).toNat < 16 by omega), if_pos (show (4 * N).toNat < 16 by omega), Int.mul_add]
  congr 1
  · split
    · rfl
    · rw [Int.mul_zero]
  · split
    · rfl
    · rw [Int.mul_zero]
/-- the reference -/
theorem n_sumBy {s : k_St} {a n : Nat} {R : Nat → Int32} {B : Nat → Nat → Int} (ha : k_nM a = 16) (hn : n ≤ 6) (hR : ∀ c, c < 16 → s.1 a c = R c ∧ 0 ≤ (R c).toInt ∧ (R c).toInt < n) (hB : ∀ c, c < 16 → ∀ p, p < n → s.1 17 (6 * c + p) = iI (B c p)) : f_X12_sumBy a s = some (iI (n_sum (fun c => B c (R c).toInt.toNat) 16)) := by
  unfold f_X12_sumBy
  rw [ha]
  simp only [iI_lit]
  refine ok_eq.mp (ok_for 16 (fun j (z : Int32 × Int32) => z = (iI (n_sum (fun c => B c (R c).toInt.toNat) j), iI j)) ?_ (by omega) (j := 0) rfl (by omega))
  rintro g j _ rfl hj hg
  show k_OK (k_if _ _ _) _
  rw [n_ile (by omega) (by omega)]
  by_cases c : (16 : Int) ≤ j
  · rw [if_pos c, ok_some, show j = 16 by omega]
  · obtain ⟨r1, r2, r3⟩ := hR j (by omega)
    have er : k_rd s a j = iI (R j).toInt := by
      show s.1 a j = _
      rw [r1]
      exact iI_of _
    have eb := hB j (by omega) (R j).toInt.toNat (by omega)
    rw [if_neg c, n_gix (by omega) (by omega), iI_cl (by omega), show ((j : Int)).toNat = j from rfl, er]
    simp (disch := omega) only [iI_mul, iI_add, n_gix, iI_cl, n_nm]
    rw [show (6 * (j : Int) + (R j).toInt).toNat = 6 * j + (R j).toInt.toNat by omega]
    refine hg _ (by omega) ?_
    show (iI (n_sum (fun c => B c (R c).toInt.toNat) j) + s.1 17 (6 * j + (R j).toInt.toNat), _) = _
    rw [eb, iI_add]
    rfl
theorem n_below {σ m : k_St} {n : Nat} {V : Nat → Int} (hm : m_c σ = m) (hk : n_mk m n V) : f_X12_below σ = some (iI (100 * m_sW m n)) := by
  have h6 := hk.2.1
  unfold f_X12_below
  rw [n_core_I hm (c := 0) (k := 21) rfl, hk.1]
  simp only [iI_lit]
  refine ok_eq.mp (ok_for n (fun j (z : Int32 × Int32) => z = (iI (m_sW m j), iI j)) ?_ (by omega) (j := 0) rfl (by omega))
  rintro g j _ rfl hj hg
  show k_OK (k_if _ _ _) _
  rw [n_ile (by omega) (by omega)]
  by_cases c : (n : Int) ≤ j
  · rw [if_pos c, ok_some, show j = n by omega, iI_mul]
  · rw [if_neg c, show iI 0 = iI ((0 : Nat) : Int) from rfl, n_of (by omega) (by omega), n_bd]
    simp only [iI_add, n_nm]
    refine hg _ (by omega) ?_
    rw [show σ.1 13 (4 * j + 0) = iI (vI m 13 (4 * j)) from n_core_I hm (c := 13) (k := 4 * j) rfl, iI_add]
    rfl
/-- the class -/
theorem n_hit {σ x m : k_St} {n p : Nat} {V : Nat → Int} {R : Nat → Int32} {X : Int64} {fg y : Int} (hx : x_c σ = x) (hk : n_mk m n V) (hl : r_lak x m) (hg : x.1 16 5 = m.1 0 23) (hR : r_R n R X) (hp : p < n) (hy : 0 ≤ y ∧ y < 4) (ht : -2147483648 ≤ fg ∧ fg ≤ 2147483647) : f_X0_hit (iI p) (iI y) X (iI fg) σ = some (iI (n_hv R (n_sn m fg p) y (vI m 0 23) p)) := by
  have h6 := hk.2.1
  have hs := hk.sn hp fg
  have g1 := hk.2.2.1
  have e5 : k_rd σ 16 5 = iI (vI m 0 23) := n_rX hx rfl hg
  unfold f_X0_hit
  rw [n_seenX hx hk hl hp ht, n_bd]
  unfold n_hv
  generalize n_sn m fg p = N at *
  obtain ⟨N, rfl⟩ := Int.eq_ofNat_of_zero_le hs.1
  obtain ⟨y, rfl⟩ := Int.eq_ofNat_of_zero_le hy.1
  obtain ⟨r1, r2, r3⟩ := hR (4 * N + y) (by omega)
  obtain ⟨q1, q2, q3⟩ := hR (4 * N) (by omega)
  have r4 := iI_rg (R (4 * N + y))
  have q4 := iI_rg (R (4 * N))
  simp only [iI_lit]
  rw [n_placeOf (by omega) (by omega), n_bd, r1, iI_of (R (4 * N + y)), show iI 0 = iI ((0 : Nat) : Int) from rfl, n_placeOf (by omega) (by omega), show 4 * N + 0 = 4 * N from rfl, q1, iI_of (R (4 * N)), e5, show (4 * (N : Int) + (y : Int)).toNat = 4 * N + y by omega, show (4 * (N : Int)).toNat = 4 * N by omega]
  simp (disch := omega) only [iI_add, iI_sub, n_jn, n_nm, n_bd, n_ieq]
  unfold n_t0
  by_cases c1 : (y : Int) = ((0 : Nat) : Int)
  · have c1' : y = 0 := by omega
    subst c1'
    simp only [if_pos c1, if_pos (show ((0 : Nat) : Int) = 0 from rfl), Nat.add_zero]
    by_cases c2 : (R (4 * N)).toInt = p
    · simp only [if_pos c2, if_true]
      rfl
    · simp only [if_neg c2, if_true]
      rfl
  · simp only [if_neg c1, if_neg (show ¬ (y : Int) = 0 by omega)]
    by_cases c2 : (R (4 * N + y)).toInt = p
    · rw [if_pos c2, if_pos c2]
      by_cases c3 : (R (4 * N)).toInt = p
      · rw [if_pos c3, if_pos c3]
        congr 2
        omega
      · rw [if_neg c3, if_neg c3]
        congr 2
        omega
    · rw [if_neg c2, if_neg c2]
      by_cases c3 : (R (4 * N)).toInt = p
      · rw [if_pos c3, if_pos c3]
        congr 2
      · rw [if_neg c3, if_neg c3]
        rfl
theorem n_above {σ x m : k_St} {n : Nat} {f : Nat → Int} {R : Nat → Int32} {X : Int64} {fg th : Int} (hx : x_c σ = x) (hk : n_mk m n (fun p => vI x 14 p)) (hl : r_lak x m) (hv : r_val x m) (hg : x.1 16 5 = m.1 0 23) (hR : r_R n R X) (hf : r_4 f) (h1 : -2147483648 ≤ fg ∧ fg ≤ 2147483647) (h2 : -2147483648 ≤ th ∧ th ≤ 2147483647) : f_X0_aboveIn (iI (n_e4 f)) X (iI fg) (iI th) σ = some (iL (n_A m (fun p => vI x 14 p) f R fg th n)) := by
  have h6 := hk.2.1
  have e0 : k_rd σ 12 0 = iI (n : Int) := by rw [n_rX hx rfl hl.1.1, hk.1]
  unfold f_X0_aboveIn n_A
  rw [e0]
  simp only [iI_lit]
  refine ok_eq.mp (ok_for n (fun j (z : Int64 × Int32) => z = (iL (n_sum (fun p => vI m 13 (4 * p) * vI x 14 p * n_hv R (n_sn m fg p) (f (n_hd m th p).toNat) (vI m 0 23) p) j), iI j)) ?_ (by omega) (j := 0) rfl (by omega))
  rintro g j _ rfl hj hg'
  show k_OK (k_if _ _ _) _
  rw [n_ile (by omega) (by omega)]
  by_cases c : (n : Int) ≤ j
  · rw [if_pos c, ok_some, show j = n by omega]
  · have hj : j < n := by omega
    have hh := hk.hd hj th
    have hv15 := (hv j (by rw [hk.1]; omega)).2.2
    obtain ⟨⟨a1, _, _⟩, _, a2⟩ := hk.2.2.2.2 j hj
    have hS : 0 ≤ vI m 13 (4 * j) * vI x 14 j ∧ vI m 13 (4 * j) * vI x 14 j ≤ 9 * 999 := n_mulr a1 a2
    have hH := n_hvr (R := R) (sn := n_sn m fg j) (y := f (n_hd m th j).toNat) (p := j) hk.2.2.1
    have es : f_X1_stakeOf (iI (j : Int)) σ = some (iI (vI m 13 (4 * j) * vI x 14 j)) := by
      unfold f_X1_stakeOf
      simp (disch := omega) only [iI_lit, n_ilt, n_ile, n_gix, iI_cl, Int.toNat_natCast]
      rw [if_neg (by omega), if_neg (by omega), n_core_I hx rfl, hv15, Int.mul_comm]
    have hf4 := hf (n_hd m th j).toNat (by omega)
    have esg := n_sign hf (s := (n_hd m th j).toNat) (by omega)
    rw [show (((n_hd m th j).toNat : Nat) : Int) = n_hd m th j by omega] at esg
    rw [if_neg c, n_heardX hx hk hl hj h2, n_bd, esg, n_bd, es, n_bd, n_hit hx hk hl hg hR hj hf4 h1, n_bd, iI_l (by omega), iI_l (by omega)]
    simp only [iL_mul, iL_add, iI_add, n_nm]
    exact hg' _ (by omega) rfl
