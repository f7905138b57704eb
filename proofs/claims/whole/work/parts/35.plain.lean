/-! more of the plain cases -/
theorem n_castX {x : k_St} {σ : k_St} {n k a b : Int} (hx : x_c σ = x) (hn : vI x 12 0 = n) (hk : vI x 12 1 = k) (h0 : 0 ≤ n ∧ n ≤ 6) (h1 : 0 ≤ k ∧ k ≤ 4) (ha : -2147483648 ≤ a ∧ a ≤ 2147483647) (hb : -2147483648 ≤ b ∧ b ≤ 2147483647) : f_X11_isCast (iI a) (iI b) σ = some (iB (0 < n ∧ (0 ≤ a ∧ a ≤ 3) ∧ 0 ≤ b ∧ b ≤ k - 1)) := by
  unfold f_X11_isCast
  have f2 := n_core_I hx (c := 12) (k := 1) rfl
  rw [hk] at f2
  simp (disch := omega) only [iI_lit, n_lk hx hn h0, f2, iI_sub, n_within, n_bd, n_ib]
  by_cases c1 : 0 < n
  · rw [if_pos c1]
    by_cases c2 : 0 ≤ a ∧ a ≤ 3
    · rw [if_pos c2]
      by_cases c3 : 0 ≤ b ∧ b ≤ k - 1
      · rw [if_pos c3, n_bt ⟨c1, c2, c3⟩]
      · rw [if_neg c3, n_bf (fun q => c3 q.2.2)]
    · rw [if_neg c2, n_bf (fun q => c2 q.2.1)]
  · rw [if_neg c1, n_bf (fun q => c1 q.1)]
theorem n_castM {m : k_St} {σ : k_St} {n k a b : Int} (hm : m_c σ = m) (hn : vI m 0 21 = n) (hk : vI m 0 22 = k) (h0 : 0 ≤ n ∧ n ≤ 6) (h1 : 0 ≤ k ∧ k ≤ 4) (ha : -2147483648 ≤ a ∧ a ≤ 2147483647) (hb : -2147483648 ≤ b ∧ b ≤ 2147483647) : f_X12_isThrow (iI a) (iI b) σ = some (iB (0 < n ∧ (0 ≤ a ∧ a ≤ 3) ∧ 0 ≤ b ∧ b ≤ k - 1)) := by
  unfold f_X12_isThrow
  have f1 := n_core_I hm (c := 0) (k := 21) rfl
  have f2 := n_core_I hm (c := 0) (k := 22) rfl
  rw [hn] at f1
  rw [hk] at f2
  simp (disch := omega) only [iI_lit, f1, f2, iI_sub, n_in, n_within, n_bd, n_ib, n_ile]
  by_cases c1 : 0 < n
  · rw [if_neg (show ¬ n ≤ 0 by omega)]
    by_cases c2 : 0 ≤ a ∧ a ≤ 3
    · rw [if_pos c2]
      by_cases c3 : 0 ≤ b ∧ b ≤ k - 1
      · rw [if_pos c3, n_bt ⟨c1, c2, c3⟩]
      · rw [if_neg c3, n_bf (fun q => c3 q.2.2)]
    · rw [if_neg c2, n_bf (fun q => c2 q.2.1)]
  · rw [if_pos (show n ≤ 0 by omega), n_bf (fun q => c1 q.1)]
theorem q_s9 : g_s9 z_Inv := by
  intro σX σM hI a0 a1
  obtain ⟨a, ha, rfl⟩ := iI_ex a0
  obtain ⟨b, hb, rfl⟩ := iI_ex a1
  obtain ⟨x, m, hx, hm, hR⟩ := z_open hI
  obtain ⟨hTap, hLak, hNow, hImg, hShf, hSee, hLrn, hLaw, hVal⟩ := id hR
  obtain ⟨l1, l2, l3, l4, l5, l6⟩ := id hLak
  obtain ⟨h1, h2, h3, h4, h5, h6, h7, h8⟩ := id hNow
  unfold f_X11_thrown f_X12_thrown_
  simp (disch := omega) only [iI_lit, n_castX hx (n_vI l1.1) (n_vI l2.1) l1.2 l2.2 ha hb, n_castM hm rfl rfl l1.2 l2.2 ha hb, n_bd, n_ib]
  by_cases c1 : 0 < vI m 0 21 ∧ (0 ≤ a ∧ a ≤ 3) ∧ 0 ≤ b ∧ b ≤ vI m 0 22 - 1
  · rw [if_pos c1, if_pos c1]
    obtain ⟨l, rfl⟩ := Int.eq_ofNat_of_zero_le c1.2.1.1
    obtain ⟨s, rfl⟩ := Int.eq_ofNat_of_zero_le c1.2.2.1
    have h9 := h2 (4 * l + s) (by omega)
    refine ⟨m.1 15 (4 * l + s), ?_, ?_⟩
    · rw [show k_rl σX 16 1 = x.2 16 1 from n_core_2 hx rfl, n_placeOf (by omega) (by omega), n_bd, h9.1]
    · rw [show (iI 4 * iI (l : Int) + iI (s : Int)) = iI ((4 * l + s : Nat) : Int) from (by simp only [iI_mul, iI_add]; congr 1), n_gix (by omega) (by omega), iI_cl (by omega)]
      exact congrArg some (n_core_1 hm rfl)
  · rw [if_neg c1, if_neg c1]
    exact ⟨_, rfl, rfl⟩
theorem q_s8 : g_s8 z_Inv := by
  intro σX σM hI a0 a1 a2
  obtain ⟨a, ha, rfl⟩ := iI_ex a0
  obtain ⟨b, hb, rfl⟩ := iI_ex a1
  obtain ⟨d, hd, rfl⟩ := iI_ex a2
  obtain ⟨x, m, hx, hm, hR⟩ := z_open hI
  obtain ⟨hTap, hLak, hNow, hImg, hShf, hSee, hLrn, hLaw, hVal⟩ := id hR
  obtain ⟨l1, l2, l3, l4, l5, l6⟩ := id hLak
  obtain ⟨h1, h2, h3, h4, h5, h6, h7, h8⟩ := id hNow
  unfold f_X11_throwTo f_X12_throwTo
  simp (disch := omega) only [iI_lit, n_castX hx (n_vI l1.1) (n_vI l2.1) l1.2 l2.2 ha hb, n_castM hm rfl rfl l1.2 l2.2 ha hb, n_isPX hx (n_vI l1.1) l1.2 hd, n_isPM hm rfl l1.2 hd, n_bd, n_ib, n_nm]
  by_cases c1 : 0 < vI m 0 21 ∧ (0 ≤ a ∧ a ≤ 3) ∧ 0 ≤ b ∧ b ≤ vI m 0 22 - 1
  · rw [if_pos c1, if_pos c1]
    by_cases c2 : 0 ≤ d ∧ d ≤ vI m 0 21 - 1
    · rw [if_pos c2, if_pos c2]
      obtain ⟨l, rfl⟩ := Int.eq_ofNat_of_zero_le c1.2.1.1
      obtain ⟨s, rfl⟩ := Int.eq_ofNat_of_zero_le c1.2.2.1
      obtain ⟨p, rfl⟩ := Int.eq_ofNat_of_zero_le c2.1
      rw [show k_rl σX 16 1 = x.2 16 1 from n_core_2 hx rfl, n_withPlace (by omega) (by omega), n_bd, show (iI 4 * iI (l : Int) + iI (s : Int)) = iI ((4 * l + s : Nat) : Int) from (by simp only [iI_mul, iI_add]; congr 1), n_gix (by omega) (by omega), iI_cl (by omega)]
      refine ⟨_, _, _, rfl, rfl, z_close (n_cl hx rfl) (n_cw hm rfl) ⟨hTap, hLak, ⟨h1, fun j hj => ?_, h3, h4, h5, h6, h7, h8⟩, hImg, hShf, hSee, hLrn, hLaw, hVal⟩⟩
      have e1 : (k_wl x 16 1 (o_wp (x.2 16 1) (4 * l + s) (iI (p : Int)))).2 16 1 = o_wp (x.2 16 1) (4 * l + s) (nI p) := by rw [wl_s, iI_nat]
      rw [e1, o_pl_wp (by omega) hj (by omega), wr_if, iI_nat, show ((4 * l + s : Nat) : Int).toNat = 4 * l + s from rfl]
      by_cases e : j = 4 * l + s
      · rw [if_pos e, if_pos ⟨rfl, e⟩, iI_to (by omega)]
        exact ⟨rfl, by omega, by show (p : Int) < max (vI m 0 21) 1; omega⟩
      · rw [if_neg e, if_neg (fun q => e q.2)]
        exact h2 j hj
    · rw [if_neg c2, if_neg c2]
      exact ⟨_, _, _, rfl, rfl, hI⟩
  · rw [if_neg c1, if_neg c1]
    exact ⟨_, _, _, rfl, rfl, hI⟩
theorem n_dy0 {σ : k_St} {j : Nat} (h : j < 40) : f_X6_shoalOn 16 (iI (j : Int)) σ = some (k_rd σ 17 j) := by
  unfold f_X6_shoalOn
  simp (disch := omega) only [iI_lit, n_within, n_bd, n_ib]
  rw [if_pos (show (0 : Int) ≤ j ∧ (j : Int) ≤ 39 by omega), n_gix (by omega) (by omega), iI_cl (by omega)] <;> rfl
theorem n_dy1 {σ : k_St} {j : Nat} (h : j < 40) : f_X6_cameOn 16 (iI (j : Int)) σ = some (k_rd σ 18 j) := by
  unfold f_X6_cameOn
  simp (disch := omega) only [iI_lit, n_within, n_bd, n_ib]
  rw [if_pos (show (0 : Int) ≤ j ∧ (j : Int) ≤ 39 by omega), n_gix (by omega) (by omega), iI_cl (by omega)] <;> rfl
theorem n_dy2 {σ : k_St} {j : Nat} (h : j < 40) : f_X6_caughtOn 16 (iI (j : Int)) σ = some (k_rd σ 19 j) := by
  unfold f_X6_caughtOn
  simp (disch := omega) only [iI_lit, n_within, n_bd, n_ib]
  rw [if_pos (show (0 : Int) ≤ j ∧ (j : Int) ≤ 39 by omega), n_gix (by omega) (by omega), iI_cl (by omega)] <;> rfl
theorem q_s25 : g_s25 z_Inv := by
  intro σX σM hI a0 a1
  obtain ⟨a, ha, rfl⟩ := iI_ex a0
  obtain ⟨b, hb, rfl⟩ := iI_ex a1
  obtain ⟨x, m, hx, hm, hR⟩ := z_open hI
  obtain ⟨hTap, hLak, hNow, hImg, hShf, hSee, hLrn, hLaw, hVal⟩ := id hR
  obtain ⟨h1, h2, h3, h4, h5, h6, h7, h8⟩ := id hNow
  have b7 : 0 ≤ vI m 0 59 ∧ vI m 0 59 ≤ 40 := h7.2
  have f1 := n_rX hx rfl h7.1
  have f2 := n_core_I hm (c := 0) (k := 59) rfl
  unfold f_X11_was f_X12_was
  simp (disch := omega) only [iI_lit, f1, f2, iI_sub, n_in, n_within, n_bd, n_ib, n_ieq]
  by_cases c1 : 0 ≤ a ∧ a ≤ vI m 0 59 - 1
  · rw [if_pos c1, if_pos c1]
    obtain ⟨j, rfl⟩ := Int.eq_ofNat_of_zero_le c1.1
    have h9 := h8 j (by show (j : Int) < vI m 0 59; omega)
    obtain ⟨d1, d2, d3, d4, d5, d6⟩ := h9
    rw [n_dy0 (by omega), n_dy1 (by omega), n_dy2 (by omega), n_bd, n_bd, n_bd, n_gix (by omega) (by omega), n_gix (by omega) (by omega), n_gix (by omega) (by omega), iI_cl (by omega), show ((j : Int)).toNat = j from rfl]
    rw [show k_rd σX 17 j = m.1 35 j from (n_core_1 hx rfl).trans d1.1, show k_rd σX 18 j = m.1 36 j from (n_core_1 hx rfl).trans d2.1, show k_rd σX 19 j = m.1 37 j from (n_core_1 hx rfl).trans d3.1, show k_rd σM 35 j = m.1 35 j from n_core_1 hm rfl, show k_rd σM 36 j = m.1 36 j from n_core_1 hm rfl, show k_rd σM 37 j = m.1 37 j from n_core_1 hm rfl]
    by_cases c2 : 0 ≤ b ∧ b ≤ 2
    · rw [if_pos c2]
      by_cases c3 : b = 0
      · rw [if_pos c3]
        exact ⟨_, rfl, rfl⟩
      · rw [if_neg c3]
        by_cases c4 : b = 1
        · rw [if_pos c4]
          exact ⟨_, rfl, rfl⟩
        · rw [if_neg c4]
          exact ⟨_, rfl, rfl⟩
    · rw [if_neg c2]
      exact ⟨_, rfl, rfl⟩
  · rw [if_neg c1, if_neg c1]
    exact ⟨_, rfl, rfl⟩
