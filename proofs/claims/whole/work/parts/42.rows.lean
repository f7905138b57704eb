/-! TUGS, undo, shelve, set -/
def i_S7 (c : Nat) : Bool := match c with
  | 14 => true
  | 15 => true
  | 16 => true
  | _ => false
set_option maxRecDepth 20000 in
theorem q_s7 : g_s7 z_Inv := by
  intro σX σM hI a0
  obtain ⟨z, hz, rfl⟩ := iI_ex a0
  obtain ⟨x, hx, hR⟩ := z_openX hI
  obtain ⟨hTap, hLak, hNow, hImg, hShf, hSee, hLrn, hLaw, hVal⟩ := id hR
  obtain ⟨l1, l2, l3, l4, l5, l6⟩ := id hLak
  obtain ⟨h1, h2, h3, h4, h5, h6, h7, h8⟩ := id hNow
  have b1 := l1.2
  have b2 := l2.2
  have f2 : k_rd σM 0 21 = iI (vI (m_c σM) 0 21) := n_core_I rfl rfl
  have f3 : k_rd σM 0 22 = iI (vI (m_c σM) 0 22) := n_core_I rfl rfl
  unfold f_X11_tugs f_X12_tugs
  simp (disch := omega) only [iI_lit, n_lk hx (n_vI l1.1) l1.2, n_bd, f2, f3, n_rX hx rfl l2.1, n_jn, n_ib, n_ieq, n_tugsOf hz b2, iI_neg]
  by_cases c0 : 0 < vI (m_c σM) 0 21
  · rw [if_pos c0, if_neg (show ¬ vI (m_c σM) 0 21 = 0 by omega)]
    obtain ⟨⟨u, s⟩, e1, hu, hF, hA⟩ := n_spread (σ := σM) (a := 16) rfl hz (k := vI (m_c σM) 0 22) (by omega)
    obtain ⟨⟨u2, s2⟩, e2, hu2, hF2, hA2⟩ := n_spread (σ := s) (a := 14) rfl hz (k := vI (m_c σM) 0 22) (by omega)
    have hu : u = iB (n_okd z (vI (m_c σM) 0 22) 4) := hu
    have f4 : k_rd s 0 22 = iI (vI (m_c σM) 0 22) := by
      rw [← f3]
      show s.1 0 22 = σM.1 0 22
      rw [(hF 0 (by decide)).1]
    rw [e1, n_b2, hu, n_ib]
    by_cases c1 : n_okd z (vI (m_c σM) 0 22) 4
    · have c2 := n_okd4.mp c1
      have hd : r_4 (n_d4 z) := fun s hs => by
        have := c2.2.2 s hs
        have := n_d4r ⟨c2.1, c2.2.1⟩ s
        omega
      have hr := n_e4r hd
      rw [if_pos c1, if_pos c1, f4, e2, n_b2, n_ieq (by omega) (by omega), if_neg (show ¬ n_e4 (n_d4 z) = -1 by omega), n_nm]
      obtain ⟨t, ht⟩ : ∃ t, s2 = n_mx i_S7 σM t := ⟨s2, ((hF.mono (fun c hc => by rw [hc]; rfl)).tr (hF2.mono (fun c hc => by rw [hc]; rfl))).mx⟩
      subst ht
      have hT : ∀ s, s < 4 → ((m_c (n_mx i_S7 σM t)).1 14 s).toInt = n_d4 z s := fun s hs => by
        have e3 : (m_c (n_mx i_S7 σM t)).1 14 s = iI (n_d4 z s) := hA2 ⟨c2.1, c2.2.1⟩ s hs
        have := n_d4r ⟨c2.1, c2.2.1⟩ s
        rw [e3, iI_to (by omega)]
      refine ⟨_, _, _, rfl, rfl, z_close (n_cw hx rfl) rfl ⟨hTap, hLak, ⟨⟨fun s hs => ?_, ?_⟩, ?_, h3, h4, h5, h6, h7, h8⟩, hImg, hShf, hSee, hLrn, hLaw, hVal⟩⟩
      · show 0 ≤ ((m_c (n_mx i_S7 σM t)).1 14 s).toInt ∧ ((m_c (n_mx i_S7 σM t)).1 14 s).toInt < max (vI (m_c σM) 0 22) 1
        rw [hT s hs]
        have := c2.2.2 s hs
        have := n_d4r ⟨c2.1, c2.2.1⟩ s
        omega
      · show iI (n_e4 (n_d4 z)) = iI (n_e4 (fun s => ((m_c (n_mx i_S7 σM t)).1 14 s).toInt))
        exact congrArg iI (n_e4c (fun s hs => (hT s hs).symm))
      · exact h2.cg (fun s hs => by
          have e3 : t.1 15 = σM.1 15 := (hF2 15 (by decide)).1.trans (hF 15 (by decide)).1
          show (m_c σM).1 15 s = (m_c (n_mx i_S7 σM t)).1 15 s
          show σM.1 15 s = t.1 15 s
          rw [e3])
    · rw [if_neg c1, if_neg c1, n_ieq (by omega) (by omega), if_pos rfl]
      obtain ⟨t, ht⟩ : ∃ t, s = n_mx (fun c => c == 16) σM t := ⟨s, (hF.mono (fun c hc => by rw [hc]; rfl)).mx⟩
      subst ht
      exact ⟨_, _, _, rfl, rfl, z_close hx rfl hR⟩
  · rw [if_neg c0, if_pos (show vI (m_c σM) 0 21 = 0 by omega), n_ift trivial]
    exact ⟨_, _, _, rfl, rfl, hI⟩
