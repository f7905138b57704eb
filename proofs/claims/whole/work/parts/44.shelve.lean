/-! shelve -/
set_option maxRecDepth 20000 in
theorem q_s18 : g_s18 z_Inv := by
  intro σX σM hI a0 a1 h01
  obtain ⟨z, hz, rfl⟩ := iI_ex a1
  obtain ⟨x, hx, hR⟩ := z_openX hI
  obtain ⟨hTap, hLak, hNow, hImg, hShf, hSee, hLrn, hLaw, hVal⟩ := id hR
  obtain ⟨l1, l2, l3, l4, l5, l6⟩ := id hLak
  obtain ⟨h1, h2, h3, h4, h5, h6, h7, h8⟩ := id hNow
  have b1 := l1.2
  have b2 := l2.2
  have f2 : k_rd σM 0 21 = iI (vI (m_c σM) 0 21) := n_core_I rfl rfl
  have e1 : k_rd σX 16 0 = iI (n_e4 (fun s => ((m_c σM).1 14 s).toInt)) := (n_core_1 hx rfl).trans h1.2
  have e2 : k_rl σX 16 1 = x.2 16 1 := n_core_2 hx rfl
  have hT4 := h1.1.r4 b2.2
  unfold f_X11_shelve f_X12_shelve f_X11_isShelf
  simp (disch := omega) only [iI_lit, n_lk hx (n_vI l1.1) l1.2, n_bd, f2, n_ib, n_in, n_within, n_ieq, n_gdt n_isB]
  by_cases c0 : 0 < vI (m_c σM) 0 21
  rotate_left
  · rw [if_neg c0, if_pos (show vI (m_c σM) 0 21 = 0 by omega)]
    exact ⟨_, _, _, rfl, rfl, hI⟩
  rw [if_pos c0, if_neg (show ¬ vI (m_c σM) 0 21 = 0 by omega)]
  by_cases c1 : 0 ≤ z ∧ z ≤ 3
  rotate_left
  · rw [if_neg c1, if_neg c1]
    exact ⟨_, _, _, rfl, rfl, hI⟩
  rw [if_pos c1, if_pos c1]
  obtain ⟨s, rfl⟩ := Int.eq_ofNat_of_zero_le c1.1
  simp (disch := omega) only [n_gix, iI_cl, n_nm, Int.toNat_natCast]
  by_cases c2 : a0 = iI 0
  · rw [n_ift c2, n_ift c2, n_packed (f := fun s => ((m_c σM).1 14 s).toInt) rfl (fun s hs => iI_of (σM.1 14 s)), n_bd, e1]
    refine ⟨_, _, _, rfl, rfl, z_close (n_cw hx rfl) (n_cw rfl rfl) ⟨hTap, hLak, hNow, hImg, fun j hj => ⟨?_, (hShf j hj).2⟩, hSee, hLrn, hLaw, hVal⟩⟩
    show ((k_wr (m_c σM) 22 s (iI (n_p4 (fun s => ((m_c σM).1 14 s).toInt)))).1 22 j = -1 ∧ (k_wr x 43 s (iI (n_e4 (fun s => ((m_c σM).1 14 s).toInt)))).1 43 j = -1 ∨ 0 < vI (m_c σM) 0 21 ∧ r_T (vI (m_c σM) 0 22) (n_d4 ((k_wr (m_c σM) 22 s (iI (n_p4 (fun s => ((m_c σM).1 14 s).toInt)))).1 22 j).toInt) ∧ (0 ≤ ((k_wr (m_c σM) 22 s (iI (n_p4 (fun s => ((m_c σM).1 14 s).toInt)))).1 22 j).toInt ∧ ((k_wr (m_c σM) 22 s (iI (n_p4 (fun s => ((m_c σM).1 14 s).toInt)))).1 22 j).toInt ≤ 9999) ∧ (k_wr x 43 s (iI (n_e4 (fun s => ((m_c σM).1 14 s).toInt)))).1 43 j = iI (n_e4 (n_d4 ((k_wr (m_c σM) 22 s (iI (n_p4 (fun s => ((m_c σM).1 14 s).toInt)))).1 22 j).toInt)))
    by_cases e : j = s
    · subst e
      have hp := n_p4r hT4
      rw [wr_s, wr_s, iI_to (by omega)]
      refine Or.inr ⟨c0, fun t ht => ?_, ⟨hp.1, by omega⟩, congrArg iI (n_e4c (fun t ht => (n_p4d hT4 ht).symm))⟩
      rw [n_p4d hT4 ht]
      exact h1.1 t ht
    · rw [wr_k e, wr_k e]
      exact (hShf j hj).1
  · rw [n_iff c2, n_iff c2, e2]
    obtain ⟨⟨r, w⟩, e3, hr, hF, hA, hB⟩ : k_OK (k_loop (fun (g31 : Int32 × k_St → Option (Int32 × k_St)) (z31 : Int32 × k_St) => match z31 with
          | (v3_31, s_31) =>
            k_if (iI 16 ≤ v3_31)
              (some (iI 1, s_31))
              (k_gd (k_ix v3_31 16 = true) <|
              k_gd (k_ix ((iI 16 * iI (s : Int)) + v3_31) 64 = true) <|
              g31 (v3_31 + iI 1, k_wr s_31 23 ((iI 16 * iI (s : Int)) + v3_31).toNatClampNeg (k_rd s_31 15 v3_31.toNatClampNeg)))) 100000 (iI 0, k_wr σM 24 s (iI 1))) (fun r => r.1 = iI 1 ∧ n_Fr (fun c => (c == 23 || c == 24) = true) σM r.2 ∧ (∀ j, (j = s → r.2.1 24 j = 1) ∧ (j ≠ s → r.2.1 24 j = σM.1 24 j)) ∧ ∀ j, (16 * s ≤ j ∧ j < 16 * s + 16 → r.2.1 23 j = σM.1 15 (j - 16 * s)) ∧ (¬ (16 * s ≤ j ∧ j < 16 * s + 16) → r.2.1 23 j = σM.1 23 j)) := by
      refine ok_for 16 (fun n (v : Int32 × k_St) => v.1 = iI n ∧ n_Fr (fun c => (c == 23 || c == 24) = true) σM v.2 ∧ (∀ j, (j = s → v.2.1 24 j = 1) ∧ (j ≠ s → v.2.1 24 j = σM.1 24 j)) ∧ ∀ j, (16 * s ≤ j ∧ j < 16 * s + n → v.2.1 23 j = σM.1 15 (j - 16 * s)) ∧ (¬ (16 * s ≤ j ∧ j < 16 * s + n) → v.2.1 23 j = σM.1 23 j)) ?_ (by omega) (j := 0) ⟨rfl, n_Fr.rf.wr (by decide), fun j => ⟨fun h => by rw [h]; exact wr_s, fun h => wr_k h⟩, fun j => ⟨fun h => absurd h (by omega), fun _ => rfl⟩⟩ (by omega)
      rintro g n ⟨v, w⟩ ⟨rfl, hF, hA, hB⟩ hn hg
      show k_OK (k_if _ _ _) _
      rw [n_ile (by omega) (by omega)]
      by_cases c3 : (16 : Int) ≤ n
      · rw [if_pos c3, ok_some]
        have e4 : n = 16 := by omega
        subst e4
        exact ⟨rfl, hF, hA, hB⟩
      · rw [if_neg c3, n_gix (by omega) (by omega)]
        simp only [iI_mul, iI_add]
        rw [n_gix (by omega) (by omega), iI_cl (by omega), iI_cl (by omega)]
        have hF15 := (hF 15 (by decide)).1
        refine hg _ (by omega) ⟨rfl, hF.wr (by decide), hA, fun j => ⟨fun h => ?_, fun h => ?_⟩⟩
        · show (k_wr w 23 (16 * (s : Int) + (n : Int)).toNat (w.1 15 (n : Int).toNat)).1 23 j = _
          by_cases e : j = 16 * s + n
          · rw [show (16 * (s : Int) + (n : Int)).toNat = j by omega, wr_s, hF15]
            exact congrArg (σM.1 15) (show (n : Int).toNat = j - 16 * s by omega)
          · rw [wr_k (by omega)]
            exact (hB j).1 (by omega)
        · show (k_wr w 23 (16 * (s : Int) + (n : Int)).toNat (w.1 15 (n : Int).toNat)).1 23 j = _
          rw [wr_k (by omega)]
          exact (hB j).2 (by omega)
    have hr : r = iI 1 := hr
    obtain ⟨t, ht⟩ : ∃ t, w = n_mx (fun c => c == 23 || c == 24) σM t := ⟨w, hF.mx⟩
    subst ht
    subst hr
    refine ⟨_, _, _, rfl, e3, z_close (n_cl hx rfl) rfl ⟨hTap, hLak, hNow, hImg, fun j hj => ⟨(hShf j hj).1, ?_⟩, hSee, hLrn, hLaw, hVal⟩⟩
    show t.1 24 j = 0 ∧ (k_wl x 44 s (x.2 16 1)).2 44 j = -1 ∨ t.1 24 j = 1 ∧ 0 < vI (m_c σM) 0 21 ∧ r_R (vI (m_c σM) 0 21) (fun i => t.1 23 (16 * j + i)) ((k_wl x 44 s (x.2 16 1)).2 44 j)
    by_cases e : j = s
    · subst e
      rw [wl_s]
      refine Or.inr ⟨(hA j).1 rfl, c0, h2.cg (fun i hi => ?_)⟩
      rw [show t.1 23 (16 * j + i) = _ from (hB (16 * j + i)).1 (by omega)]
      exact congrArg (σM.1 15) (show i = 16 * j + i - 16 * j by omega)
    · rw [wl_k e, show t.1 24 j = σM.1 24 j from (hA j).2 e]
      rcases (hShf j hj).2 with u | ⟨u1, u2, u3⟩
      · exact Or.inl u
      · refine Or.inr ⟨u1, u2, u3.cg (fun i hi => ?_)⟩
        exact ((hB (16 * j + i)).2 (by omega)).symm
