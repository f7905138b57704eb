/-! place -/
set_option maxRecDepth 20000 in
theorem q_s4 : g_s4 z_Inv := by
  intro σX σM hI a0 a1
  obtain ⟨a, ha, rfl⟩ := iI_ex a0
  obtain ⟨b, hb, rfl⟩ := iI_ex a1
  obtain ⟨x, hx, hR⟩ := z_openX hI
  obtain ⟨hTap, hLak, hNow, hImg, hShf, hSee, hLrn, hLaw, hVal⟩ := id hR
  obtain ⟨l1, l2, l3, l4, l5, l6⟩ := id hLak
  have b1 := l1.2
  have hw : ∀ y : Int32, m_c (k_wr σM 0 0 y) = m_c σM := fun y => n_core_w1 rfl
  have hl : vI (m_c σM) 0 30 = -1 ∨ 0 ≤ vI (m_c σM) 0 30 ∧ vI (m_c σM) 0 30 < 4 := by
    have h1 := hLaw.1.2
    have h2 := hLaw.2.1.2
    omega
  unfold f_X11_place f_X12_place
  simp (disch := omega) only [n_isPX hx (n_vI l1.1) l1.2 ha, n_isPM (σ := σM) rfl rfl l1.2 ha, n_bd]
  simp (disch := omega) only [iI_lit, n_in, n_within, n_bd, n_ib, n_jn, n_nm, n_rws]
  by_cases c1 : 0 ≤ a ∧ a ≤ vI (m_c σM) 0 21 - 1
  rotate_left
  · rw [if_neg c1, if_neg c1, n_ift trivial]
    refine ⟨_, _, _, _, rfl, rfl, rfl, rfl, z_close hx (hw _) hR⟩
  rw [if_pos c1, if_pos c1]
  by_cases c2 : 0 ≤ b ∧ b ≤ 4
  rotate_left
  · rw [if_neg c2, if_neg c2, n_ift trivial]
    refine ⟨_, _, _, _, rfl, rfl, rfl, rfl, z_close hx (hw _) hR⟩
  rw [if_pos c2, if_pos c2, n_iff (show ¬ iI 0 = iI 1 by decide)]
  obtain ⟨p, rfl⟩ := Int.eq_ofNat_of_zero_le c1.1
  obtain ⟨q, rfl⟩ := Int.eq_ofNat_of_zero_le c2.1
  have hp : p < 6 := by omega
  simp (disch := omega) only [n_ieq, n_ile]
  by_cases c3 : (q : Int) = 4
  · rw [if_pos c3, if_pos (show (4 : Int) ≤ q by omega)]
    obtain ⟨v1, v2, v3⟩ := hVal p (by omega)
    obtain ⟨s', e1, e2, hF⟩ := n_worthAt (σ := k_wr σM 0 0 (iI 0)) hp (by rw [hw]; exact hl) (by rw [hw]; exact v1)
    rw [e1, n_b2]
    have eX : f_X1_worthOf (iI (p : Int)) σX = some (iI (vI x 14 p)) := by
      unfold f_X1_worthOf
      simp (disch := omega) only [iI_lit, n_ilt, n_ile, n_gix, iI_cl, Int.toNat_natCast]
      rw [if_neg (by omega), if_neg (by omega), n_core_I hx rfl]
    rw [eX, n_bd]
    refine ⟨_, _, _, _, rfl, rfl, rfl, ⟨?_, rfl⟩, z_close hx (e2.trans (hw _)) hR⟩
    show s'.1 0 0 = 0
    rw [(hF 0 (by decide)).1]
    exact wr_s
  · rw [if_neg c3, if_neg (show ¬ (4 : Int) ≤ q by omega), n_told hp (by omega), n_of hp (by omega), n_bd, n_bd]
    refine ⟨_, _, _, _, rfl, rfl, rfl, ⟨rfl, ?_⟩, z_close hx (hw _) hR⟩
    have e := (l6 p (by omega)).1 q (by omega)
    rw [← n_core_1 hx (c := 13) (k := 4 * p + q) rfl] at e
    exact e
