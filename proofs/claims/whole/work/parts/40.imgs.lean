/-! image and back, both -/
theorem z_openX {σX σM : k_St} (hI : z_Inv σX σM) : ∃ x, x_c σX = x ∧ r_all x (m_c σM) := ⟨_, rfl, hI⟩
theorem n_mI {σ : k_St} {c k : Nat} (hs : m_scr c k = false) : σ.1 c k = (m_c σ).1 c k := n_core_1 rfl hs
theorem n_mL {σ : k_St} {c k : Nat} (hs : m_scr c k = false) : σ.2 c k = (m_c σ).2 c k := n_core_2 rfl hs
set_option maxRecDepth 20000 in
theorem q_s45 : g_s45 z_Inv := by
  intro σX σM hI
  obtain ⟨x, hx, hR⟩ := z_openX hI
  obtain ⟨hTap, hLak, hNow, hImg, hShf, hSee, hLrn, hLaw, hVal⟩ := id hR
  obtain ⟨l1, l2, l3, l4, l5, l6⟩ := id hLak
  unfold f_X11_image
  rw [n_lk hx (n_vI l1.1) l1.2, n_bd, iI_lit 0, show (OfNat.ofNat 0 : Int) = 0 from rfl, n_ib]
  by_cases c0 : 0 < vI (m_c σM) 0 21
  · rw [if_pos c0]
    obtain ⟨σ1, x1, e1, hx1, ⟨f1, f2, f3, f4, g1, g2, hxe⟩, hst⟩ := n_take23 hx hNow
    have h0 : ¬ σM.1 0 21 = 0 := fun h => by
      have h2 : vI (m_c σM) 0 21 = 0 := by
        unfold vI
        rw [← n_mI rfl, h]
        rfl
      omega
    obtain ⟨r, e2, s, hA, hr⟩ := n_image h0 (by rw [n_mI (σ := σM) (c := 0) (k := 26) rfl]; exact hNow.2.2.2.1.2) (by rw [n_mI (σ := σM) (c := 0) (k := 27) rfl]; exact hNow.2.2.2.2.1.2)
    obtain ⟨t, ht⟩ : ∃ t, s = n_mx i_Simage σM t := ⟨s, hA.1.mx⟩
    subst ht
    obtain ⟨hF, a1, a2, a3, a4⟩ := hA
    rw [e1, n_bd, n_nm, e2, hr]
    refine ⟨σM.1 0 59, k_wr σ1 0 14 1, _, ?_, rfl, z_close (n_cw hx1 rfl) rfl ⟨?_, ?_, ?_, ?_, ?_, ?_, ?_, ?_, ?_⟩⟩
    · have e9 : k_rd (k_wr σ1 0 14 1) 23 6 = σM.1 0 59 := by
        rw [n_rwc (by decide), n_mI (σ := σM) (c := 0) (k := 59) rfl]
        exact (n_core_1 hx1 rfl).trans hst.2.2.2.2.2.2.1.1
      rw [e9]
    · rw [hxe]
      exact hTap
    · rw [hxe]
      exact hLak
    · rw [hxe]
      exact hNow
    · refine ⟨rfl, Or.inr ⟨rfl, ?_⟩⟩
      refine r_st.cg hst (fun s hs => (a1 s hs).symm) (fun s hs => (a2 s hs).symm) rfl rfl rfl rfl rfl (fun i hi => ?_)
      obtain ⟨u1, u2, u3, u4, u5⟩ := a3 i hi
      exact ⟨u1.symm, u2.symm, u3.symm, u4.symm, u5.symm, fun j hj => (a4 (16 * i + j) (by omega)).symm⟩
    · rw [hxe]
      exact hShf
    · rw [hxe]
      exact hSee
    · rw [hxe]
      exact hLrn
    · rw [hxe]
      exact hLaw
    · rw [hxe]
      exact hVal
  · rw [if_neg c0]
    unfold f_X12_image
    rw [n_core_I (s := m_scr) (σ := σM) rfl (c := 0) (k := 21) rfl, n_ift (show iI (vI (m_c σM) 0 21) = (0 : Int32) by rw [show vI (m_c σM) 0 21 = 0 by omega]; rfl)]
    exact ⟨_, _, _, rfl, rfl, hI⟩
set_option maxRecDepth 20000 in
theorem q_s46 : g_s46 z_Inv := by
  intro σX σM hI
  obtain ⟨x, hx, hR⟩ := z_openX hI
  obtain ⟨hTap, hLak, hNow, hImg, hShf, hSee, hLrn, hLaw, hVal⟩ := id hR
  obtain ⟨i1, i2⟩ := id hImg
  have e0 : k_rd σX 0 14 = (m_c σM).1 0 70 := (n_core_1 hx rfl).trans i1
  rcases i2 with i2 | ⟨i2, i3⟩
  · unfold f_X11_back f_X12_back
    rw [e0, i2, show k_rd σM 0 70 = 0 from (n_mI rfl).trans i2, n_ift rfl, n_ift rfl]
    exact ⟨_, _, _, rfl, rfl, hI⟩
  · obtain ⟨σ1, x1, e1, hx1, ⟨f1, f2, f3, f4, g1, g2, hxe⟩, hst⟩ := n_take16 hx i3
    have h0 : ¬ σM.1 0 70 = 0 := fun h => by
      rw [n_mI (σ := σM) (c := 0) (k := 70) rfl, i2] at h
      exact absurd h (by decide)
    obtain ⟨r, e2, s, hA, hr⟩ := n_back h0 (by rw [n_mI (σ := σM) (c := 0) (k := 68) rfl]; exact i3.2.2.2.1.2) (by rw [n_mI (σ := σM) (c := 0) (k := 69) rfl]; exact i3.2.2.2.2.1.2)
    obtain ⟨t, ht⟩ : ∃ t, s = n_mx i_Sback σM t := ⟨s, hA.1.mx⟩
    subst ht
    obtain ⟨hF, a1, a2, a3, a4⟩ := hA
    unfold f_X11_back
    rw [e0, i2, n_iff (show ¬ (1 : Int32) = 0 by decide), e1, n_bd, e2, hr]
    refine ⟨σM.1 0 71, σ1, _, ?_, rfl, z_close hx1 rfl ⟨?_, ?_, ?_, ?_, ?_, ?_, ?_, ?_, ?_⟩⟩
    · have e9 : k_rd σ1 16 6 = σM.1 0 71 := by
        rw [n_mI (σ := σM) (c := 0) (k := 71) rfl]
        exact (n_core_1 hx1 rfl).trans hst.2.2.2.2.2.2.1.1
      rw [e9]
    · rw [hxe]
      exact hTap
    · rw [hxe]
      exact hLak
    · refine r_st.cg hst (fun s hs => (a1 s hs).symm) (fun s hs => (a2 s hs).symm) rfl rfl rfl rfl rfl (fun i hi => ?_)
      obtain ⟨u1, u2, u3, u4, u5⟩ := a3 i hi
      exact ⟨u1.symm, u2.symm, u3.symm, u4.symm, u5.symm, fun j hj => (a4 (16 * i + j) (by omega)).symm⟩
    · rw [hxe]
      exact ⟨i1, Or.inr ⟨i2, i3⟩⟩
    · rw [hxe]
      exact hShf
    · rw [hxe]
      exact hSee
    · rw [hxe]
      exact hLrn
    · rw [hxe]
      exact hLaw
    · rw [hxe]
      exact hVal
