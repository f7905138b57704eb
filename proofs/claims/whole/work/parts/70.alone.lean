/-! alone -/
theorem n_perc {σ x m : k_St} {n p : Nat} {V : Nat → Int} {w a b : Int} (hx : x_c σ = x) (hk : n_mk m n V) (hl : r_lak x m) (hfg : x.1 16 3 = m.1 0 26) (hth : x.1 16 4 = m.1 0 27) (hp : p < n) (hw : 0 ≤ w ∧ w ≤ 2) (ha : 0 ≤ a ∧ a ≤ 3) (hb : 0 ≤ b ∧ b ≤ 3) : f_X0_perceives (iI w) (iI p) (iI a) (iI b) σ = some (iB (n_kn w (n_hd m (vI m 0 27) p) (n_sn m (vI m 0 26) p) = n_kn w a b)) := by
  have hh := hk.hd hp (vI m 0 27)
  have hs := hk.sn hp (vI m 0 26)
  unfold f_X0_perceives
  rw [n_rX hx rfl hfg, n_rX hx rfl hth, n_heardX hx hk hl hp (vI_rg _ _ _), n_seenX hx hk hl hp (vI_rg _ _ _)]
  simp (disch := omega) only [iI_lit, n_jn, n_bd, n_ieq, n_kT, n_kF, if_true, if_false, Int.reduceEq]
  unfold n_kn
  rcases (show w = 0 ∨ w = 1 ∨ w = 2 by omega) with rfl | rfl | rfl
  · simp only [Int.reduceEq, if_true, if_false]
    by_cases c : n_hd m (vI m 0 27) p = a
    · rw [if_pos c, n_bt c]
    · rw [if_neg c, n_bf c]
  · simp only [Int.reduceEq, if_true, if_false]
    by_cases c : n_sn m (vI m 0 26) p = b
    · rw [if_pos c, n_bt c]
    · rw [if_neg c, n_bf c]
  · simp only [Int.reduceEq, if_true, if_false]
    by_cases c : n_hd m (vI m 0 27) p = a
    · by_cases c2 : n_sn m (vI m 0 26) p = b
      · rw [if_pos c, if_pos c2, n_bt (by omega)]
      · rw [if_pos c, if_neg c2, n_bf (by omega)]
    · rw [if_neg c, n_bf (by omega)]
theorem n_Lo_r {m : k_St} {n : Nat} {V : Nat → Int} (hk : n_mk m n V) {w : Int} {c p : Nat} (hp : p < n) : 0 ≤ n_Lo m V w c p ∧ n_Lo m V w c p ≤ 8991 := by
  obtain ⟨⟨a1, _, _⟩, _, a2⟩ := hk.2.2.2.2 p hp
  have := n_mulr a1 a2
  unfold n_Lo
  split <;> omega
theorem n_lonePl {σ x m : k_St} {n c : Nat} {w a b : Int} (hx : x_c σ = x) (hk : n_mk m n (fun p => vI x 14 p)) (hl : r_lak x m) (hv : r_val x m) (hfg : x.1 16 3 = m.1 0 26) (hth : x.1 16 4 = m.1 0 27) (hw : 0 ≤ w ∧ w ≤ 2) (ha : 0 ≤ a ∧ a ≤ 3) (hb : 0 ≤ b ∧ b ≤ 3) (hc : n_kn w a b = c) : f_X0_lonePlace (iI w) (iI a) (iI b) σ = some (iI (n_am (n_Lo m (fun p => vI x 14 p) w c) n : Nat)) := by
  have h6 := hk.2.1
  unfold f_X0_lonePlace
  rw [n_rX hx rfl hl.1.1, hk.1]
  simp only [iI_lit]
  refine ok_eq.mp (ok_for n (fun P (y : Int32 × Int32 × Int32) => y = (iI (n_bv (n_Lo m (fun p => vI x 14 p) w c) P), iI (n_am (n_Lo m (fun p => vI x 14 p) w c) P : Nat), iI P)) ?_ (by omega) (j := 0) rfl (by omega))
  rintro g P _ rfl hP hg
  show k_OK (k_if _ _ _) _
  rw [n_ile (by omega) (by omega)]
  by_cases c1 : (n : Int) ≤ P
  · rw [if_pos c1, ok_some, show P = n by omega]
  have hPn : P < n := by omega
  have hv15 := (hv P (by rw [hk.1]; omega)).2.2
  obtain ⟨⟨a1, _, _⟩, _, a2⟩ := hk.2.2.2.2 P hPn
  have hS : 0 ≤ vI m 13 (4 * P) * vI x 14 P ∧ vI m 13 (4 * P) * vI x 14 P ≤ 9 * 999 := n_mulr a1 a2
  have es : f_X1_stakeOf (iI (P : Int)) σ = some (iI (vI m 13 (4 * P) * vI x 14 P)) := by
    unfold f_X1_stakeOf
    simp (disch := omega) only [iI_lit, n_ilt, n_ile, n_gix, iI_cl, Int.toNat_natCast]
    rw [if_neg (by omega), if_neg (by omega), n_core_I hx rfl, hv15, Int.mul_comm]
  have hb := n_bv_r (F := n_Lo m (fun p => vI x 14 p) w c) (b := 8991) (fun p hp => n_Lo_r hk hp) (by omega) P hP
  have eam := n_am_s (F := n_Lo m (fun p => vI x 14 p) w c) (n := n) (fun p hp => (n_Lo_r hk hp).1) hPn
  have ebv : n_bv (n_Lo m (fun p => vI x 14 p) w c) (P + 1) = if n_bv (n_Lo m (fun p => vI x 14 p) w c) P < n_Lo m (fun p => vI x 14 p) w c P then n_Lo m (fun p => vI x 14 p) w c P else n_bv (n_Lo m (fun p => vI x 14 p) w c) P := rfl
  have eL : n_Lo m (fun p => vI x 14 p) w c P = if n_kn w (n_hd m (vI m 0 27) P) (n_sn m (vI m 0 26) P) = (c : Int) then vI m 13 (4 * P) * vI x 14 P else 0 := rfl
  rw [if_neg c1, es, n_bd, n_ile (by omega) (by omega), n_perc hx hk hl hfg hth hPn hw ha (by assumption), hc]
  have no : n_Lo m (fun p => vI x 14 p) w c P ≤ n_bv (n_Lo m (fun p => vI x 14 p) w c) P → k_OK (g (iI (n_bv (n_Lo m (fun p => vI x 14 p) w c) P), iI (n_am (n_Lo m (fun p => vI x 14 p) w c) P : Nat), iI ((P : Int) + 1))) (fun r => r = iI (n_am (n_Lo m (fun p => vI x 14 p) w c) n : Nat)) := fun q => hg _ (by omega) (by
    rw [eam, ebv, if_neg (by omega), if_neg (by omega)]
    rfl)
  by_cases c2 : vI m 13 (4 * P) * vI x 14 P ≤ n_bv (n_Lo m (fun p => vI x 14 p) w c) P
  · rw [if_pos c2, ok_nm, iI_add]
    refine no ?_
    rw [eL]
    split <;> omega
  rw [if_neg c2, n_bd, n_ib]
  by_cases c3 : n_kn w (n_hd m (vI m 0 27) P) (n_sn m (vI m 0 26) P) = (c : Int)
  · rw [if_pos c3] at eL
    rw [if_pos c3, n_bd, ok_nm, iI_add]
    refine hg _ (by omega) ?_
    rw [eam, ebv, if_pos (by omega), if_pos (by omega), eL]
    rfl
  · rw [if_neg c3] at eL
    rw [if_neg c3, ok_nm, iI_add]
    exact no (by omega)
theorem n_loneBest {σ m : k_St} {n c : Nat} {V : Nat → Int} {w : Int} (hm : m_c σ = m) (hk : n_mk m n V) (hn : 1 ≤ n) (hc : c < 16) (hB : ∀ p, p < n → σ.1 26 (6 * c + p) = iI (n_Lo m V w c p)) : f_X12_loneBest (iI c) σ = some (iI (n_am (n_Lo m V w c) n : Nat)) := by
  have h6 := hk.2.1
  unfold f_X12_loneBest
  rw [n_core_I hm (c := 0) (k := 21) rfl, hk.1]
  simp only [iI_lit]
  refine ok_eq.mp (ok_for (n - 1) (fun t (y : Int32 × Int32) => y = (iI (n_am (n_Lo m V w c) (t + 1) : Nat), iI ((t + 1 : Nat) : Int))) ?_ (by omega) (j := 0) (by rw [n_am_1]; rfl) (by omega))
  rintro g t _ rfl ht hg
  show k_OK (k_if _ _ _) _
  rw [n_ile (by omega) (by omega)]
  by_cases c1 : (n : Int) ≤ ((t + 1 : Nat) : Int)
  · rw [if_pos c1, ok_some, show t + 1 = n by omega]
  have ham := n_am_r (n_Lo m V w c) (t + 1)
  have e1 := hB (t + 1) (by omega)
  have e2 := hB (n_am (n_Lo m V w c) (t + 1)) (by omega)
  have r1 := n_Lo_r hk (w := w) (c := c) (p := t + 1) (by omega)
  have r2 := n_Lo_r hk (w := w) (c := c) (p := n_am (n_Lo m V w c) (t + 1)) (by omega)
  have ea : n_am (n_Lo m V w c) (t + 1 + 1) = if n_Lo m V w c (t + 1) ≤ n_Lo m V w c (n_am (n_Lo m V w c) (t + 1)) then n_am (n_Lo m V w c) (t + 1) else t + 1 := rfl
  rw [if_neg c1]
  simp (disch := omega) only [iI_mul, iI_add, n_gix, iI_cl, n_nm]
  rw [show (6 * (c : Int) + ((t + 1 : Nat) : Int)).toNat = 6 * c + (t + 1) by omega, show (6 * (c : Int) + ((n_am (n_Lo m V w c) (t + 1) : Nat) : Int)).toNat = 6 * c + n_am (n_Lo m V w c) (t + 1) by omega, show k_rd σ 26 (6 * c + (t + 1)) = _ from e1, show k_rd σ 26 (6 * c + n_am (n_Lo m V w c) (t + 1)) = _ from e2, n_ile (by omega) (by omega)]
  by_cases c2 : n_Lo m V w c (t + 1) ≤ n_Lo m V w c (n_am (n_Lo m V w c) (t + 1))
  · rw [if_pos c2]
    rw [if_pos c2] at ea
    exact hg _ (by omega) (by rw [ea]; rfl)
  · rw [if_neg c2]
    rw [if_neg c2] at ea
    exact hg _ (by omega) (by rw [ea]; rfl)
