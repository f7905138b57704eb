/-! fault and text -/
theorem q_s2 : g_s2 z_Inv := by
  intro σX σM hI a0
  obtain ⟨a, ha, rfl⟩ := iI_ex a0
  unfold f_X11_fault f_X12_fault
  simp only [iI_lit, iI_neg]
  rw [n_ieq (by omega) (by omega), n_ieq (by omega) (by omega), n_ieq (by omega) (by omega), n_ieq (by omega) (by omega)]
  by_cases c0 : a = 0
  · obtain ⟨e, sX, sM, eX, eM, -, hI', -⟩ := n_lakeF hI
    rw [if_pos c0, if_pos c0, eX, eM, n_b2, n_b2]
    exact ⟨_, _, _, rfl, rfl, hI'⟩
  rw [if_neg c0, if_neg c0]
  by_cases c1 : a = 1
  · obtain ⟨e, sX, sM, eX, eM, hI'⟩ := n_lawF hI
    rw [if_pos c1, if_pos c1, eX, eM, n_b2, n_b2]
    exact ⟨_, _, _, rfl, rfl, hI'⟩
  · rw [if_neg c1, if_neg c1]
    exact ⟨_, _, _, rfl, rfl, hI⟩
theorem n_lakeT {σX σM : k_St} {K : l_K} (hI : z_Inv σX σM) (hK2 : 2 ≤ K.1 ∧ 0 < n_sum (fun p => K.2.2.1 (4 * p)) K.1) (hK : l_OK K) (hQX : w_Q σX K) (hQM : y_Q σM K) : ∃ sX sM, (k_nm (k_wr σX 1 1 (iI 0)) fun s24 =>
      k_bd (f_X1_takeFrom s24) fun s35 =>
      k_bd (f_X10_reckonFor s35) fun s46 =>
      k_bd (f_X11_forgetOtherLake s46) fun s50 =>
      some ((k_rd s50 12 0), s50)) = some (iI (K.1 : Int), sX) ∧ (k_nm (k_wr σM 0 2 (iI 0)) fun s14 =>
      k_b2 (f_X12_takeLake s14) fun v18 s18 =>
      some (v18, s18)) = some (iI (K.1 : Int), sM) ∧ z_Inv sX sM := by
  obtain ⟨x, hx, hR⟩ := z_openX hI
  have hlaw := hR.2.2.2.2.2.2.2.1
  obtain ⟨sF, eF, hFX⟩ := n_lakeX hx hlaw hK hQX
  obtain ⟨sG, eG, hFM⟩ := n_lakeM hK.1 hQM
  refine ⟨sF, sG, eF, by rw [n_nm, eG, n_b2], z_close rfl rfl (n_fresh hK2 hK hlaw rfl hR.2.2.1.2.2.1 hFX hFM)⟩
theorem q_s3 : g_s3 z_Inv := by
  intro σX σM hI a0
  obtain ⟨a, ha, rfl⟩ := iI_ex a0
  by_cases c1 : a = 1
  · subst c1
    obtain ⟨r, sX, sM, eX, eM, hI'⟩ := n_lawT hI
    exact ⟨r, sX, sM, eX, eM, hI'⟩
  have hne : ¬ iI a = iI 1 := fun q => c1 ((iI_eq (by omega) (by omega)).mp q)
  by_cases c0 : a = 0
  rotate_left
  · have hn0 : ¬ iI a = iI 0 := fun q => c0 ((iI_eq (by omega) (by omega)).mp q)
    refine ⟨iI (-1), σX, σM, ?_, ?_, hI⟩
    · unfold f_X11_text
      simp only [iI_lit, iI_neg, n_jn]
      rw [n_iff hn0, n_iff hne]
    · unfold f_X12_text
      simp only [iI_lit, iI_neg, n_jn]
      rw [n_iff hn0, n_iff hne]
  subst c0
  obtain ⟨e, sX, sM, eX, eM, he, hI', hK⟩ := n_lakeF hI
  have hX : f_X11_text (iI 0) σX = if e = -1 then (k_nm (k_wr sX 1 1 (iI 0)) fun s24 =>
      k_bd (f_X1_takeFrom s24) fun s35 =>
      k_bd (f_X10_reckonFor s35) fun s46 =>
      k_bd (f_X11_forgetOtherLake s46) fun s50 =>
      some ((k_rd s50 12 0), s50)) else some (iI (-1), sX) := by
    unfold f_X11_text
    simp only [iI_lit, iI_neg, n_jn]
    rw [n_ift trivial, eX, n_b2, n_ieq (by omega) (by omega), n_iff hne]
  have hM : f_X12_text (iI 0) σM = if e = -1 then (k_nm (k_wr sM 0 2 (iI 0)) fun s14 =>
      k_b2 (f_X12_takeLake s14) fun v18 s18 =>
      some (v18, s18)) else some (iI (-1), sM) := by
    unfold f_X12_text
    simp only [iI_lit, iI_neg, n_jn]
    rw [n_ift trivial, eM, n_b2, n_ieq (by omega) (by omega), n_iff hne]
  by_cases ce : e = -1
  · obtain ⟨K, hK2, hK0, hQX, hQM⟩ := hK ce
    obtain ⟨tX, tM, e1, e2, hI2⟩ := n_lakeT hI' hK2 hK0 hQX hQM
    rw [if_pos ce, e1] at hX
    rw [if_pos ce, e2] at hM
    exact ⟨_, _, _, hX, hM, hI2⟩
  · rw [if_neg ce] at hX hM
    exact ⟨_, _, _, hX, hM, hI'⟩
