/-! lone, whole -/
def n_G (m : k_St) (V : Nat → Int) (w : Int) (n c : Nat) : Int := n_Lo m V w c (n_am (n_Lo m V w c) n)
theorem n_loneSt {σ x m : k_St} {n c : Nat} {w a b : Int} (hx : x_c σ = x) (hk : n_mk m n (fun p => vI x 14 p)) (hn : 1 ≤ n) (hl : r_lak x m) (hv : r_val x m) (hfg : x.1 16 3 = m.1 0 26) (hth : x.1 16 4 = m.1 0 27) (hw : 0 ≤ w ∧ w ≤ 2) (ha : 0 ≤ a ∧ a ≤ 3) (hb : 0 ≤ b ∧ b ≤ 3) (hc : n_kn w a b = c) : f_X0_loneStake (iI w) (iI a) (iI b) σ = some (iI (n_G m (fun p => vI x 14 p) w n c)) := by
  have h6 := hk.2.1
  have ham := n_am_r (n_Lo m (fun p => vI x 14 p) w c) n
  unfold f_X0_loneStake n_G
  rw [n_lonePl hx hk hl hv hfg hth hw ha hb hc, n_bd]
  generalize n_am (n_Lo m (fun p => vI x 14 p) w c) n = P at *
  have hPn : P < n := by omega
  have hv15 := (hv P (by rw [hk.1]; omega)).2.2
  have es : f_X1_stakeOf (iI (P : Int)) σ = some (iI (vI m 13 (4 * P) * vI x 14 P)) := by
    unfold f_X1_stakeOf
    simp (disch := omega) only [iI_lit, n_ilt, n_ile, n_gix, iI_cl, Int.toNat_natCast]
    rw [if_neg (by omega), if_neg (by omega), n_core_I hx rfl, hv15, Int.mul_comm]
  rw [n_perc hx hk hl hfg hth hPn hw ha hb, hc, n_bd, show (0 : Int32) = iI 0 from rfl, n_ib, es]
  unfold n_Lo
  by_cases c3 : n_kn w (n_hd m (vI m 0 27) P) (n_sn m (vI m 0 26) P) = (c : Int)
  · rw [if_pos c3, if_pos c3, n_bd]
  · rw [if_neg c3, if_neg c3]
theorem n_G0 {m : k_St} {n c : Nat} {V : Nat → Int} {w : Int} (hk : n_mk m n V) (hn : 1 ≤ n) (hw : w = 0 ∨ w = 1) (hc : 4 ≤ c) : n_G m V w n c = 0 := by
  have ham := n_am_r (n_Lo m V w c) n
  unfold n_G
  generalize n_am (n_Lo m V w c) n = P at *
  have hPn : P < n := by omega
  have hh := hk.hd hPn (vI m 0 27)
  have hs := hk.sn hPn (vI m 0 26)
  unfold n_Lo n_kn
  rcases hw with rfl | rfl
  · rw [if_pos rfl, if_neg (by omega)]
  · rw [if_neg (show ¬ (1 : Int) = 0 by decide), if_pos rfl, if_neg (by omega)]
theorem n_Gr {m : k_St} {n : Nat} {V : Nat → Int} (hk : n_mk m n V) (hn : 1 ≤ n) (w : Int) (c : Nat) : 0 ≤ n_G m V w n c ∧ n_G m V w n c ≤ 8991 := by
  have ham := n_am_r (n_Lo m V w c) n
  exact n_Lo_r hk (by omega)
