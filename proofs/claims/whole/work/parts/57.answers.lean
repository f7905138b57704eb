/-! answer, answerTo, copy -/
def i_SC (c : Nat) : Bool := c == 9 || (c == 10 || (c == 17 || c == 18))
theorem n_ans {σX σM x : k_St} (hx : x_c σX = x) (hR : r_all x (m_c σM)) (h0 : 0 < vI (m_c σM) 0 21) : ∃ v sX s1 s2, f_X0_answerOf (k_rd σX 16 0) σX = some (v, sX) ∧ x_c sX = x ∧ f_X12_layBrings 14 σM = some s1 ∧ f_X12_layAnswers s1 = some s2 ∧ m_c s2 = m_c σM ∧ n_Fr (fun c => i_SC c = true) σM s2 ∧ ∀ c, c < 16 → ∃ a : Nat, (a : Int) < vI (m_c σM) 0 21 ∧ o_pl v c = iI a ∧ s2.1 18 c = iI a := by
  obtain ⟨hTap, hLak, hNow, hImg, hShf, hSee, hLrn, hLaw, hVal⟩ := id hR
  obtain ⟨l1, l2, l3, l4, l5, l6⟩ := id hLak
  obtain ⟨h1, h2, h3, h4, h5, h6, h7, h8⟩ := id hNow
  obtain ⟨n, hk⟩ := hR.mk
  have b2 := l2.2
  have hn : 1 ≤ n := by
    have := hk.1
    omega
  have hf4 := h1.1.r4 b2.2
  obtain ⟨s1, e1, hF, hB⟩ := n_layBrings (σ := σM) (a := 14) (V := fun p => vI x 14 p) (f := fun s => ((m_c σM).1 14 s).toInt) rfl (by unfold i_SB; omega) rfl hk (fun s hs => ⟨iI_of (σM.1 14 s), hf4 s hs⟩)
  have hms : m_c s1 = m_c σM := n_frM hF i_SB_s
  obtain ⟨s2, e2, hG, hA⟩ := n_layAnswers hms hk hn hB
  have hms2 : m_c s2 = m_c σM := (n_frM hG (fun c hc k => by rw [hc]; rfl)).trans hms
  obtain ⟨⟨v, sX⟩, e3, hH, hQ⟩ := n_answerOf hx hk hLak hVal h4.1 h5.1 h6.1 hf4
  have e16 : k_rd σX 16 0 = iI (n_e4 (fun s => ((m_c σM).1 14 s).toInt)) := (n_core_1 hx rfl).trans h1.2
  refine ⟨v, sX, s1, s2, by rw [e16]; exact e3, (n_frX hH (fun c hc k => by rw [hc]; rfl)).trans hx, e1, e2, hms2, ?_, fun c hc => ⟨n_am (n_B (m_c σM) (fun p => vI x 14 p) (fun s => ((m_c σM).1 14 s).toInt) c) n, ?_, hQ c hc, hA c hc⟩⟩
  · refine (hF.mono (fun c hc => ?_)).tr (hG.mono (fun c hc => ?_))
    · rcases hc with rfl | rfl | rfl <;> rfl
    · rw [hc]; rfl
  · have := n_am_r (n_B (m_c σM) (fun p => vI x 14 p) (fun s => ((m_c σM).1 14 s).toInt) c) n
    rw [hk.1]
    omega
set_option maxRecDepth 20000 in
theorem q_s11 : g_s11 z_Inv := by
  intro σX σM hI a0 a1
  obtain ⟨a, ha, rfl⟩ := iI_ex a0
  obtain ⟨b, hb, rfl⟩ := iI_ex a1
  obtain ⟨x, hx, hR⟩ := z_openX hI
  obtain ⟨hTap, hLak, hNow, hImg, hShf, hSee, hLrn, hLaw, hVal⟩ := id hR
  obtain ⟨l1, l2, l3, l4, l5, l6⟩ := id hLak
  unfold f_X11_answerTo f_X12_answerTo
  simp (disch := omega) only [iI_lit, n_castX hx (n_vI l1.1) (n_vI l2.1) l1.2 l2.2 ha hb, n_castM (σ := σM) rfl rfl rfl l1.2 l2.2 ha hb, n_bd, n_ib]
  by_cases c1 : 0 < vI (m_c σM) 0 21 ∧ (0 ≤ a ∧ a ≤ 3) ∧ 0 ≤ b ∧ b ≤ vI (m_c σM) 0 22 - 1
  rotate_left
  · rw [if_neg c1, if_neg c1]
    exact ⟨_, _, _, rfl, rfl, hI⟩
  have b2 := l2.2
  obtain ⟨v, sX, s1, s2, e1, e2, e3, e4, e5, e6, e7⟩ := n_ans hx hR c1.1
  obtain ⟨l, rfl⟩ := Int.eq_ofNat_of_zero_le c1.2.1.1
  obtain ⟨s, rfl⟩ := Int.eq_ofNat_of_zero_le c1.2.2.1
  obtain ⟨q, q1, q2, q3⟩ := e7 (4 * l + s) (by omega)
  rw [if_pos c1, if_pos c1, e1, n_b2, n_placeOf (by omega) (by omega), n_bd, e3, n_bd, e4, n_bd, q2]
  rw [show (iI 4 * iI (l : Int) + iI (s : Int)) = iI ((4 * l + s : Nat) : Int) from (by simp only [iI_mul, iI_add]; congr 1), n_gix (by omega) (by omega), iI_cl (by omega)]
  exact ⟨_, _, _, rfl, by rw [show k_rd s2 18 ((4 * l + s : Nat) : Int).toNat = iI (q : Int) from q3], z_close e2 e5 hR⟩
set_option maxRecDepth 20000 in
theorem q_s10 : g_s10 z_Inv := by
  intro σX σM hI
  obtain ⟨x, hx, hR⟩ := z_openX hI
  obtain ⟨hTap, hLak, hNow, hImg, hShf, hSee, hLrn, hLaw, hVal⟩ := id hR
  obtain ⟨l1, l2, l3, l4, l5, l6⟩ := id hLak
  obtain ⟨h1, h2, h3, h4, h5, h6, h7, h8⟩ := id hNow
  have b1 := l1.2
  have f2 : k_rd σM 0 21 = iI (vI (m_c σM) 0 21) := n_core_I rfl rfl
  unfold f_X11_answer f_X12_answer
  simp (disch := omega) only [iI_lit, n_lk hx (n_vI l1.1) l1.2, n_bd, f2, n_ib, n_ieq]
  by_cases c0 : 0 < vI (m_c σM) 0 21
  rotate_left
  · rw [if_neg c0, if_pos (show vI (m_c σM) 0 21 = 0 by omega)]
    exact ⟨_, _, _, rfl, rfl, hI⟩
  rw [if_pos c0, if_neg (show ¬ vI (m_c σM) 0 21 = 0 by omega)]
  obtain ⟨v, sX, s1, s2, e1, e2, e3, e4, e5, e6, e7⟩ := n_ans hx hR c0
  rw [e1, n_b2, n_nm, e3, n_bd, e4, n_bd]
  obtain ⟨⟨r, w⟩, e8, hr, hG, hB⟩ : k_OK (k_loop (fun (g23 : Int32 × k_St → Option (Int32 × k_St)) (z23 : Int32 × k_St) => match z23 with
      | (v1_23, s_23) =>
        k_if (iI 16 ≤ v1_23)
          (some (iI 1, s_23))
          (k_gd (k_ix v1_23 16 = true) <|
          k_gd (k_ix v1_23 16 = true) <|
          k_nm (k_wr s_23 15 v1_23.toNatClampNeg (k_rd s_23 18 v1_23.toNatClampNeg)) fun s40 =>
          k_nm (v1_23 + iI 1) fun y41 =>
          g23 (y41, s40))) 100000 (iI 0, s2)) (fun r => r.1 = iI 1 ∧ n_Fr (fun c => c = 15) s2 r.2 ∧ ∀ j, j < 16 → r.2.1 15 j = s2.1 18 j) := by
    refine ok_for 16 (fun j (z : Int32 × k_St) => z.1 = iI j ∧ n_Fr (fun c => c = 15) s2 z.2 ∧ ∀ t, t < j → z.2.1 15 t = s2.1 18 t) ?_ (by omega) (j := 0) ⟨rfl, n_Fr.rf, fun t h => absurd h (by omega)⟩ (Nat.zero_le _)
    rintro g0 j ⟨v, s⟩ ⟨rfl, hF, hz⟩ hj hg0
    show k_OK (k_if _ _ _) _
    rw [n_ile (by omega) (by omega)]
    by_cases c0 : (16 : Int) ≤ j
    · rw [if_pos c0, ok_some]
      exact ⟨rfl, hF, fun t ht => hz t (by omega)⟩
    · rw [if_neg c0, n_gix (by omega) (by omega), n_gix (by omega) (by omega), iI_cl (by omega), show ((j : Int)).toNat = j from rfl, ok_nm, ok_nm]
      refine hg0 _ (by omega) ⟨by rw [iI_add]; rfl, n_Fr.wr hF rfl, fun t ht => ?_⟩
      show (k_wr s 15 j (s.1 18 j)).1 15 t = _
      by_cases e : t = j
      · subst e
        rw [wr_s, (hF 18 (by decide)).1]
      · rw [wr_k e]
        exact hz t (by omega)
  have hr : r = iI 1 := hr
  obtain ⟨t, ht⟩ : ∃ t, w = n_mx (fun c => i_SC c || c == 15) σM t := ⟨w, ((e6.mono (fun c hc => by rw [hc]; rfl)).tr (hG.mono (fun c hc => by rw [hc]; rfl))).mx⟩
  subst ht
  subst hr
  refine ⟨_, _, _, rfl, e8, z_close (n_cl e2 rfl) rfl ⟨hTap, hLak, ⟨h1, ?_, h3, h4, h5, h6, h7, h8⟩, hImg, hShf, hSee, hLrn, hLaw, hVal⟩⟩
  intro j hj
  obtain ⟨q, q1, q2, q3⟩ := e7 j hj
  have e15 : t.1 15 j = iI (q : Int) := (hB j hj).trans q3
  show o_pl v j = t.1 15 j ∧ 0 ≤ (t.1 15 j).toInt ∧ (t.1 15 j).toInt < max (vI (m_c σM) 0 21) 1
  rw [q2, e15, iI_to (by omega)]
  refine ⟨rfl, ?_⟩
  omega
