/-! plain fractions; mean -/
def n_fr (A B : Nat) (z : Int) : Nat := if z = 0 then A / Nat.gcd A B else B / Nat.gcd A B
theorem n_plainX {A B : Nat} {z : Int} (hA : A < 9223372036854775808) (hB : 0 < B ∧ B < 9223372036854775808) (hz : 0 ≤ z ∧ z ≤ 1) : f_X11_plain (iL A) (iL B) (iI z) = some (iL (n_fr A B z : Nat)) := by
  unfold f_X11_plain n_fr
  have hg : 0 < Nat.gcd A B := Nat.gcd_pos_of_pos_right A hB.1
  have hg2 : Nat.gcd A B ≤ B := Nat.le_of_dvd hB.1 (Nat.gcd_dvd_right A B)
  rw [show (0 : Int32) = iI 0 from rfl, show (0 : Int64) = iL 0 from rfl, n_jn, n_lc0 (by omega) (by omega), n_lc0 (by omega) (by omega)]
  by_cases c : (A : Int) = 0
  · have e : A = 0 := by omega
    subst e
    rw [if_pos c, n_ieq (by omega) (by omega), Nat.gcd_zero_left]
    by_cases c2 : z = 0
    · rw [if_pos c2, if_pos c2, Nat.zero_div]
      rfl
    · rw [if_neg c2, if_neg c2, Nat.div_self hB.1]
      rfl
  · rw [if_neg c, if_neg (show ¬ (B : Int) = 0 by omega), n_common hA hB.2, n_bd, n_lc0 (by omega) (by omega), if_neg (show ¬ ((Nat.gcd A B : Nat) : Int) = 0 by omega), n_ieq (by omega) (by omega)]
    have hne : ¬ iL ((Nat.gcd A B : Nat) : Int) = iL 0 := fun q => by
      have := (iL_eq (by omega) (by omega)).mp q
      omega
    by_cases c2 : z = 0
    · rw [if_pos c2, if_pos c2, n_gdt hne, iL_div (by omega) (by omega)]
      rfl
    · rw [if_neg c2, if_neg c2, n_gdt hne, iL_div (by omega) (by omega)]
      rfl
theorem n_plainM {σ m : k_St} {n A : Nat} {V : Nat → Int} {z : Int} (hm : m_c σ = m) (hk : n_mk m n V) (hA : A < 2147483648) (hW : 0 < m_sW m n) (hz : 0 ≤ z ∧ z ≤ 1) : f_X12_plain (iI A) (iI z) σ = some (iI (n_fr A (100 * m_sW m n).toNat z : Nat)) := by
  have h6 := hk.2.1
  have hs := n_sum_r (f := fun p => vI m 13 (4 * p)) (b := 9) (n := n) (fun p hp => (hk.2.2.2.2 p hp).1.1)
  have hs : 0 ≤ m_sW m n ∧ m_sW m n ≤ n * 9 := hs
  unfold f_X12_plain n_fr
  rw [n_below hm hk, n_bd]
  obtain ⟨B, hB⟩ : ∃ B : Nat, 100 * m_sW m n = (B : Int) := Int.eq_ofNat_of_zero_le (by omega)
  rw [hB, Int.toNat_natCast]
  have hB0 : 0 < B := by omega
  have hg : 0 < Nat.gcd A B := Nat.gcd_pos_of_pos_right A hB0
  have hg2 : Nat.gcd A B ≤ B := Nat.le_of_dvd hB0 (Nat.gcd_dvd_right A B)
  have he : n_eu 200 B A := n_eu_1 (n_eu_k 99 B A (by
    have : (2147483648 : Nat) < 2 ^ 99 := by decide
    omega))
  have hne : ¬ iI ((Nat.gcd A B : Nat) : Int) = iI 0 := fun q => by
    have := (iI_eq (by omega) (by omega)).mp q
    omega
  rw [n_divisor he (by omega) hA, n_bd, Nat.gcd_comm B A, show (0 : Int32) = iI 0 from rfl, n_ieq (by omega) (by omega)]
  by_cases c2 : z = 0
  · rw [if_pos c2, if_pos c2, n_gdt hne, iI_div (by omega) (by omega)]
    rfl
  · rw [if_neg c2, if_neg c2, n_bd, n_gdt hne, iI_div (by omega) (by omega)]
    rfl
set_option maxRecDepth 20000 in
theorem q_s12 : g_s12 z_Inv := by
  intro σX σM hI a0
  obtain ⟨z, hz, rfl⟩ := iI_ex a0
  obtain ⟨x, hx, hR⟩ := z_openX hI
  obtain ⟨hTap, hLak, hNow, hImg, hShf, hSee, hLrn, hLaw, hVal⟩ := id hR
  obtain ⟨l1, l2, l3, l4, l5, l6⟩ := id hLak
  obtain ⟨h1, h2, h3, h4, h5, h6, h7, h8⟩ := id hNow
  obtain ⟨n, hk⟩ := hR.mk
  have b1 := l1.2
  have b2 := l2.2
  have k1 := hk.1
  have f2 : k_rd σM 0 21 = iI (vI (m_c σM) 0 21) := n_core_I rfl rfl
  unfold f_X11_mean f_X12_mean f_X11_isPart
  simp (disch := omega) only [iI_lit, n_lk hx (n_vI l1.1) l1.2, n_bd, f2, n_ib, n_in, n_within, n_ieq, n_gdt n_isB]
  by_cases c0 : 0 < vI (m_c σM) 0 21
  rotate_left
  · rw [if_neg c0, if_pos (show vI (m_c σM) 0 21 = 0 by omega)]
    exact ⟨_, _, rfl, rfl, hI⟩
  rw [if_pos c0, if_neg (show ¬ vI (m_c σM) 0 21 = 0 by omega)]
  by_cases c1 : 0 ≤ z ∧ z ≤ 1
  rotate_left
  · rw [if_neg c1, if_neg c1]
    exact ⟨_, _, rfl, rfl, hI⟩
  rw [if_pos c1, if_pos c1]
  have hW := (l4 c0).2.2
  rw [k1, Int.toNat_natCast] at hW
  have hf4 := h1.1.r4 b2.2
  obtain ⟨s, e1, hF, hB⟩ := n_layBrings (σ := σM) (a := 14) (V := fun p => vI x 14 p) (f := fun s => ((m_c σM).1 14 s).toInt) rfl (by unfold i_SB; omega) rfl hk (fun s hs => ⟨iI_of (σM.1 14 s), hf4 s hs⟩)
  have hms : m_c s = m_c σM := n_frM hF i_SB_s
  rw [k1] at h2
  have hR15 : ∀ c, c < 16 → s.1 15 c = (m_c σM).1 15 c ∧ 0 ≤ ((m_c σM).1 15 c).toInt ∧ ((m_c σM).1 15 c).toInt < n := fun c hc => by
    have := (h2 c hc).2
    refine ⟨?_, this.1, by omega⟩
    rw [(hF 15 (by unfold i_SB; omega)).1]
    rfl
  have eA : f_X0_above (k_rd σX 16 0) (k_rl σX 16 1) σX = some (iL (n_A (m_c σM) (fun p => vI x 14 p) (fun s => ((m_c σM).1 14 s).toInt) ((m_c σM).1 15) (vI (m_c σM) 0 26) (vI (m_c σM) 0 27) n)) := by
    unfold f_X0_above
    rw [show k_rd σX 16 0 = iI (n_e4 (fun s => ((m_c σM).1 14 s).toInt)) from (n_core_1 hx rfl).trans h1.2, show k_rl σX 16 1 = x.2 16 1 from n_core_2 hx rfl, n_rX hx rfl h4.1, n_rX hx rfl h5.1, n_above hx hk hLak hVal h6.1 h2 hf4 (vI_rg _ _ _) (vI_rg _ _ _), n_bd]
  have hAr := n_Ar (V := fun p => vI x 14 p) (f := fun s => ((m_c σM).1 14 s).toInt) (R := (m_c σM).1 15) (fg := vI (m_c σM) 0 26) (th := vI (m_c σM) 0 27) hk
  rw [eA, n_bd, e1, n_bd, n_sumBy rfl hk.2.1 hR15 hB, n_bd, n_AB hk hf4 (fun c hc => (hR15 c hc).2)]
  generalize n_A (m_c σM) (fun p => vI x 14 p) (fun s => ((m_c σM).1 14 s).toInt) ((m_c σM).1 15) (vI (m_c σM) 0 26) (vI (m_c σM) 0 27) n = A at *
  obtain ⟨A, rfl⟩ := Int.eq_ofNat_of_zero_le hAr.1
  have hsr : 0 ≤ m_sW (m_c σM) n ∧ m_sW (m_c σM) n ≤ n * 9 := n_sum_r (f := fun p => vI (m_c σM) 13 (4 * p)) (b := 9) (n := n) (fun p hp => (hk.2.2.2.2 p hp).1.1)
  have hn6 := hk.2.1
  have eW : k_rd σX 12 2 = iI (m_sW (m_c σM) n) := by
    rw [n_core_I hx rfl, l5, k1, Int.toNat_natCast]
  rw [n_plainM hms hk (by omega) hW c1, n_bd]
  unfold f_X11_plainMean
  rw [eW, iI_l (by omega), show (100 : Int64) = iL 100 from rfl, iL_mul, show 100 * m_sW (m_c σM) n = (((100 * m_sW (m_c σM) n).toNat : Nat) : Int) by omega, n_plainX (by omega) (by omega) c1, n_bd, n_bd, Int.toNat_natCast, iL_i]
  exact ⟨_, _, rfl, rfl, z_close hx hms hR⟩
