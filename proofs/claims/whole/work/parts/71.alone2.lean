/-! alone, whole -/
set_option maxRecDepth 20000 in
theorem q_s29 : g_s29 z_Inv := by
  intro σX σM hI a0 a1 a2
  obtain ⟨w, hw, rfl⟩ := iI_ex a0
  obtain ⟨a, ha, rfl⟩ := iI_ex a1
  obtain ⟨b, hb, rfl⟩ := iI_ex a2
  obtain ⟨x, hx, hR⟩ := z_openX hI
  obtain ⟨hTap, hLak, hNow, hImg, hShf, hSee, hLrn, hLaw, hVal⟩ := id hR
  obtain ⟨l1, l2, l3, l4, l5, l6⟩ := id hLak
  obtain ⟨h1, h2, h3, h4, h5, h6, h7, h8⟩ := id hNow
  obtain ⟨n, hk⟩ := hR.mk
  have b1 := l1.2
  have k1 := hk.1
  have hn6 := hk.2.1
  have f2 : k_rd σM 0 21 = iI (vI (m_c σM) 0 21) := n_core_I rfl rfl
  unfold f_X11_alone f_X12_alone
  simp (disch := omega) only [iI_lit, n_lk hx (n_vI l1.1) l1.2, n_bd, f2, n_ib, n_in, n_within, n_ieq, n_jn, iI_neg, n_kT, n_kF, Int.reduceEq, if_true, if_false]
  by_cases c0 : 0 < vI (m_c σM) 0 21
  rotate_left
  · rw [if_pos (show vI (m_c σM) 0 21 = 0 by omega)]
    simp only [if_neg c0, ite_self]
    exact ⟨_, _, rfl, rfl, hI⟩
  rw [if_neg (show ¬ vI (m_c σM) 0 21 = 0 by omega)]
  simp only [if_pos c0]
  by_cases c1 : 0 ≤ w ∧ w ≤ 2
  rotate_left
  · simp only [if_neg c1]
    exact ⟨_, _, rfl, rfl, hI⟩
  by_cases c2 : 0 ≤ a ∧ a ≤ 3
  rotate_left
  · simp only [if_pos c1, if_neg c2]
    exact ⟨_, _, rfl, rfl, hI⟩
  by_cases c3 : 0 ≤ b ∧ b ≤ 3
  rotate_left
  · simp only [if_pos c1, if_pos c2, if_neg c3]
    exact ⟨_, _, rfl, rfl, hI⟩
  simp only [if_pos c1, if_pos c2, if_pos c3]
  obtain ⟨s', e1, hF, hB⟩ := n_layLone (σ := σM) rfl hk c1
  have hms : m_c s' = m_c σM := n_frM hF i_SL_s
  have hK := n_knr c1 c2 c3
  obtain ⟨c, hc⟩ := Int.eq_ofNat_of_zero_le hK.1
  rw [e1, n_bd, n_known c1, n_bd, hc, n_loneBest hms hk (by omega) (by omega) (hB c (by omega)), n_bd, n_lonePl hx hk hLak hVal h4.1 h5.1 c1 c2 c3 hc]
  exact ⟨_, _, rfl, rfl, z_close hx hms hR⟩
