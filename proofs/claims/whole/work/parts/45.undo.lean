/-! undo -/
def i_S26 (c : Nat) : Bool := c == 0 || (c == 14 || c == 15)
set_option maxRecDepth 20000 in
theorem q_s26 : g_s26 z_Inv := by
  intro σX σM hI
  obtain ⟨x, hx, hR⟩ := z_openX hI
  obtain ⟨hTap, hLak, hNow, hImg, hShf, hSee, hLrn, hLaw, hVal⟩ := id hR
  obtain ⟨l1, l2, l3, l4, l5, l6⟩ := id hLak
  obtain ⟨h1, h2, h3, h4, h5, h6, h7, h8⟩ := id hNow
  have b1 := l1.2
  have b2 := l2.2
  have b7 : 0 ≤ vI (m_c σM) 0 59 ∧ vI (m_c σM) 0 59 ≤ 40 := h7.2
  have f1 := n_rX hx rfl h7.1
  have f2 : k_rd σM 0 59 = iI (vI (m_c σM) 0 59) := n_core_I rfl rfl
  have l2 : ∀ (s : k_St) (b c d : Nat) (v : Int32), b ≠ d → k_rd (k_wr s c b v) c d = k_rd s c d := fun s b c d v h => wr_k (fun q => h q.symm)
  have l1 : ∀ (s : k_St) (a b c d : Nat) (v : Int64), c ≠ a → k_rl (k_wl s a b v) c d = k_rl s c d := fun s a b c d v h => by
    show (k_wl s a b v).2 c d = _
    rw [wl_c h]
    rfl
  unfold f_X11_undo f_X12_undo f_X6_takeBackDay
  simp (disch := omega) only [iI_lit, f1, f2, n_within, n_bd, n_ib, n_ile, n_ieq, n_nm, n_rws, iI_sub, n_rwl, n_rlw]
  by_cases c0 : 1 ≤ vI (m_c σM) 0 59
  rotate_left
  · rw [if_neg c0, if_pos (show vI (m_c σM) 0 59 = 0 by omega)]
    exact ⟨_, _, _, rfl, rfl, hI⟩
  obtain ⟨d, hd⟩ : ∃ d : Nat, vI (m_c σM) 0 59 = (d : Int) + 1 := ⟨(vI (m_c σM) 0 59 - 1).toNat, by omega⟩
  have hdy := h8 d (by show (d : Int) < vI (m_c σM) 0 59; omega)
  obtain ⟨d1, d2, d3, d4, d5, d6⟩ := hdy
  rw [if_pos c0, if_neg (show ¬ vI (m_c σM) 0 59 = 0 by omega), if_pos (by omega), hd, show (d : Int) + 1 - 1 = (d : Int) by omega]
  simp (disch := omega) only [n_gix, iI_cl, Int.toNat_natCast, l2, l1, n_rwl, n_rws, n_rlw, n_rwc, n_bd]
  have e40 : k_rd σM 40 d = iI (((m_c σM).1 40 d).toInt) := iI_of (σM.1 40 d)
  rw [e40]
  obtain ⟨⟨u, s⟩, e1, hu, hF, hA⟩ := n_spread (σ := k_wl (k_wr σM 0 59 (iI (d : Int))) 0 60 (k_rl σM 38 d)) (a := 14) (z := ((m_c σM).1 40 d).toInt) (k := 4) rfl (by omega) (by omega)
  have hA := hA d4.2.1
  rw [e1, n_b2]
  have hF0 : n_Fr (fun c => i_S26 c = true) σM s := ((n_Fr.rf.wr (by decide)).wl (by decide)).tr (hF.mono (fun c hc => by rw [hc]; rfl))
  have z0 := (hF 0 (by decide))
  obtain ⟨⟨r, w⟩, e3, hr, hG, hB⟩ : k_OK (k_loop (fun (g52 : Int32 × k_St → Option (Int32 × k_St)) (z52 : Int32 × k_St) => match z52 with
      | (v1_52, s_52) =>
        k_if (iI 16 ≤ v1_52)
          (some ((k_rd s_52 0 59), s_52))
          (k_gd (k_ix ((iI 16 * (k_rd s_52 0 59)) + v1_52) 640 = true) <|
          k_gd (k_ix v1_52 16 = true) <|
          g52 (v1_52 + iI 1, k_wr s_52 15 v1_52.toNatClampNeg (k_rd s_52 39 ((iI 16 * (k_rd s_52 0 59)) + v1_52).toNatClampNeg)))) 100000 (iI 0, s)) (fun r => r.1 = iI (d : Int) ∧ n_Fr (fun c => c = 15) s r.2 ∧ ∀ j, j < 16 → r.2.1 15 j = σM.1 39 (16 * d + j)) := by
    refine ok_for 16 (fun n (v : Int32 × k_St) => v.1 = iI n ∧ n_Fr (fun c => c = 15) s v.2 ∧ ∀ j, j < n → v.2.1 15 j = σM.1 39 (16 * d + j)) ?_ (by omega) (j := 0) ⟨rfl, n_Fr.rf, fun j h => absurd h (by omega)⟩ (by omega)
    rintro g n ⟨v, w⟩ ⟨rfl, hG, hB⟩ hn hg
    have e59 : k_rd w 0 59 = iI (d : Int) := by
      show w.1 0 59 = _
      rw [(hG 0 (by decide)).1, z0.1]
      exact (wr_s : (k_wr σM 0 59 (iI (d : Int))).1 0 59 = iI (d : Int))
    show k_OK (k_if _ _ _) _
    rw [n_ile (by omega) (by omega)]
    by_cases c3 : (16 : Int) ≤ n
    · rw [if_pos c3, ok_some]
      have e4 : n = 16 := by omega
      subst e4
      exact ⟨e59, hG, hB⟩
    · rw [if_neg c3, e59]
      simp only [iI_mul, iI_add]
      rw [n_gix (by omega) (by omega), n_gix (by omega) (by omega), iI_cl (by omega), iI_cl (by omega)]
      refine hg _ (by omega) ⟨rfl, hG.wr rfl, fun j hj => ?_⟩
      have e39 : w.1 39 = σM.1 39 := (hG 39 (by decide)).1.trans (hF 39 (by decide)).1
      show (k_wr w 15 (n : Int).toNat (w.1 39 (16 * (d : Int) + (n : Int)).toNat)).1 15 j = _
      by_cases e : j = n
      · rw [show (n : Int).toNat = j by omega, wr_s, e39]
        exact congrArg (σM.1 39) (show (16 * (d : Int) + (n : Int)).toNat = 16 * d + j by omega)
      · rw [wr_k (by omega)]
        exact hB j (by omega)
  have hr : r = iI (d : Int) := hr
  have y14 : ∀ j, j < 4 → w.1 14 j = iI (n_d4 ((m_c σM).1 40 d).toInt j) := fun j hj => by
    rw [(hG 14 (by decide)).1]
    exact hA j hj
  subst hr
  -- what the core is now
  obtain ⟨t, ht⟩ : ∃ t, w = n_mx (fun c => c == 14 || c == 15) (k_wl (k_wr σM 0 59 (iI (d : Int))) 0 60 (k_rl σM 38 d)) t := ⟨w, ((hF.mono (fun c hc => by rw [hc]; rfl)).tr (hG.mono (fun c hc => by rw [hc]; rfl))).mx⟩
  subst ht
  have hT : ∀ s, s < 4 → (t.1 14 s).toInt = n_d4 ((m_c σM).1 40 d).toInt s := fun s hs => by
    have e3 : t.1 14 s = iI (n_d4 ((m_c σM).1 40 d).toInt s) := y14 s hs
    have := n_d4r d4.2.1 s
    rw [e3, iI_to (by omega)]
  refine ⟨_, _, _, rfl, e3, z_close (n_cl (n_cl (n_cw (n_cw hx rfl) rfl) rfl) rfl) rfl ⟨hTap, hLak, ⟨⟨fun s hs => ?_, ?_⟩, ?_, ?_, h4, h5, h6, ⟨?_, ?_⟩, fun i hi => ?_⟩, hImg, hShf, hSee, hLrn, hLaw, hVal⟩⟩
  · show 0 ≤ (t.1 14 s).toInt ∧ (t.1 14 s).toInt < max (vI (m_c σM) 0 22) 1
    rw [hT s hs]
    exact d4.1 s hs
  · show k_rd σX 20 d = iI (n_e4 (fun s => (t.1 14 s).toInt))
    rw [n_e4c (fun s hs => hT s hs)]
    exact (n_core_1 hx rfl).trans d4.2.2
  · show r_R (vI (m_c σM) 0 21) (fun s => t.1 15 s) (k_rl σX 21 d)
    rw [show k_rl σX 21 d = x.2 21 d from n_core_2 hx rfl]
    exact d5.cg (fun j hj => (hB j hj).symm)
  · show k_rl σX 22 d = σM.2 38 d
    exact (n_core_2 hx rfl).trans d6
  · rfl
  · show 0 ≤ (iI (d : Int)).toInt ∧ (iI (d : Int)).toInt ≤ 40
    rw [iI_to (by omega)]
    omega
  · have hi : (i : Int) < (iI (d : Int)).toInt := hi
    rw [iI_to (by omega)] at hi
    exact h8 i (by show (i : Int) < vI (m_c σM) 0 59; omega)
