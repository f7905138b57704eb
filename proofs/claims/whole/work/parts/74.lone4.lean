/-! lone, whole -/
theorem n_s16 (G : Nat → Int) : n_sum G 16 = 0 + G 0 + G 1 + G 2 + G 3 + G 4 + G 5 + G 6 + G 7 + G 8 + G 9 + G 10 + G 11 + G 12 + G 13 + G 14 + G 15 := rfl
theorem n_lsum {G : Nat → Int} {w : Int} (h0 : w = 0 ∨ w = 1 → ∀ c, 4 ≤ c → G c = 0) (hw : 0 ≤ w ∧ w ≤ 2) : n_sum (fun i => n_sum (fun j => G (n_kn w i j).toNat) (if w = 0 then 1 else 4)) (if w = 1 then 1 else 4) = n_sum G 16 := by
  rw [n_s16]
  rcases (show w = 0 ∨ w = 1 ∨ w = 2 by omega) with rfl | rfl | rfl
  · have h := h0 (Or.inl rfl)
    have e : n_sum (fun i => n_sum (fun j => G (n_kn 0 i j).toNat) (if (0 : Int) = 0 then 1 else 4)) (if (0 : Int) = 1 then 1 else 4) = 0 + (0 + G 0) + (0 + G 1) + (0 + G 2) + (0 + G 3) := rfl
    rw [e, h 4 (by omega), h 5 (by omega), h 6 (by omega), h 7 (by omega), h 8 (by omega), h 9 (by omega), h 10 (by omega), h 11 (by omega), h 12 (by omega), h 13 (by omega), h 14 (by omega), h 15 (by omega)]
    omega
  · have h := h0 (Or.inr rfl)
    have e : n_sum (fun i => n_sum (fun j => G (n_kn 1 i j).toNat) (if (1 : Int) = 0 then 1 else 4)) (if (1 : Int) = 1 then 1 else 4) = 0 + (0 + G 0 + G 1 + G 2 + G 3) := rfl
    rw [e, h 4 (by omega), h 5 (by omega), h 6 (by omega), h 7 (by omega), h 8 (by omega), h 9 (by omega), h 10 (by omega), h 11 (by omega), h 12 (by omega), h 13 (by omega), h 14 (by omega), h 15 (by omega)]
    omega
  · have e : n_sum (fun i => n_sum (fun j => G (n_kn 2 i j).toNat) (if (2 : Int) = 0 then 1 else 4)) (if (2 : Int) = 1 then 1 else 4) = 0 + (0 + G 0 + G 1 + G 2 + G 3) + (0 + G 4 + G 5 + G 6 + G 7) + (0 + G 8 + G 9 + G 10 + G 11) + (0 + G 12 + G 13 + G 14 + G 15) := rfl
    rw [e]
    omega
set_option maxRecDepth 20000 in
theorem q_s28 : g_s28 z_Inv := by
  intro σX σM hI a0 a1
  obtain ⟨w, hw, rfl⟩ := iI_ex a0
  obtain ⟨z, hz, rfl⟩ := iI_ex a1
  obtain ⟨x, hx, hR⟩ := z_openX hI
  obtain ⟨hTap, hLak, hNow, hImg, hShf, hSee, hLrn, hLaw, hVal⟩ := id hR
  obtain ⟨l1, l2, l3, l4, l5, l6⟩ := id hLak
  obtain ⟨h1, h2, h3, h4, h5, h6, h7, h8⟩ := id hNow
  obtain ⟨n, hk⟩ := hR.mk
  have b1 := l1.2
  have k1 := hk.1
  have hn6 := hk.2.1
  have f2 : k_rd σM 0 21 = iI (vI (m_c σM) 0 21) := n_core_I rfl rfl
  unfold f_X11_lone f_X12_lone f_X11_isPart
  simp (disch := omega) only [iI_lit, n_lk hx (n_vI l1.1) l1.2, n_bd, f2, n_ib, n_in, n_within, n_ieq, n_gdt n_isB, n_jn, iI_neg]
  by_cases c0 : 0 < vI (m_c σM) 0 21
  rotate_left
  · rw [if_neg c0, if_pos (show vI (m_c σM) 0 21 = 0 by omega)]
    exact ⟨_, _, rfl, rfl, hI⟩
  rw [if_pos c0, if_neg (show ¬ vI (m_c σM) 0 21 = 0 by omega)]
  by_cases c1 : 0 ≤ w ∧ w ≤ 2
  rotate_left
  · rw [if_neg c1, if_neg c1]
    exact ⟨_, _, rfl, rfl, hI⟩
  rw [if_pos c1, if_pos c1]
  by_cases c2 : 0 ≤ z ∧ z ≤ 1
  rotate_left
  · rw [if_neg c2, if_neg c2]
    exact ⟨_, _, rfl, rfl, hI⟩
  rw [if_pos c2, if_pos c2]
  have hn : 1 ≤ n := by omega
  have hW := (l4 c0).2.2
  rw [k1, Int.toNat_natCast] at hW
  obtain ⟨s', e1, hF, hB⟩ := n_layLone (σ := σM) rfl hk c1
  have hms : m_c s' = m_c σM := n_frM hF i_SL_s
  have hsr : 0 ≤ m_sW (m_c σM) n ∧ m_sW (m_c σM) n ≤ n * 9 := n_sum_r (f := fun p => vI (m_c σM) 13 (4 * p)) (b := 9) (n := n) (fun p hp => (hk.2.2.2.2 p hp).1.1)
  have eW : k_rd σX 12 2 = iI (m_sW (m_c σM) n) := by
    rw [n_core_I hx rfl, l5, k1, Int.toNat_natCast]
  have hGs := n_sum_r (f := n_G (m_c σM) (fun p => vI x 14 p) w n) (b := 8991) (n := 16) (fun c _ => n_Gr hk hn w c)
  have els := n_lsum (G := n_G (m_c σM) (fun p => vI x 14 p) w n) (w := w) (fun q c hc => n_G0 hk hn q hc) c1
  obtain ⟨A, hA⟩ : ∃ A : Nat, 100 * n_sum (n_G (m_c σM) (fun p => vI x 14 p) w n) 16 = (A : Int) := Int.eq_ofNat_of_zero_le (by omega)
  have eM : f_X12_plain (iI (100 * n_sum (n_G (m_c σM) (fun p => vI x 14 p) w n) 16)) (iI z) s' = some (iI (n_fr A (100 * m_sW (m_c σM) n).toNat z : Nat)) := by
    rw [hA, n_plainM hms hk (by omega) hW c2]
  have eX : f_X11_plainMean (iL (100 * n_sum (n_G (m_c σM) (fun p => vI x 14 p) w n) 16)) (iI z) σX = some (iI (n_fr A (100 * m_sW (m_c σM) n).toNat z : Nat)) := by
    unfold f_X11_plainMean
    rw [hA, eW, iI_l (by omega), show (100 : Int64) = iL 100 from rfl, iL_mul, show 100 * m_sW (m_c σM) n = (((100 * m_sW (m_c σM) n).toNat : Nat) : Int) by omega, n_plainX (by omega) (by omega) c2, n_bd, Int.toNat_natCast, iL_i]
  refine ⟨iI (n_fr A (100 * m_sW (m_c σM) n).toNat z : Nat), s', ?_, ?_, z_close hx hms hR⟩
  · rw [← els] at eX
    rcases (show w = 0 ∨ w = 1 ∨ w = 2 by omega) with rfl | rfl | rfl
    · rw [if_pos (show (0 : Int) = 0 from rfl), if_neg (show ¬ (0 : Int) = 1 by decide)] at eX
      rw [if_neg (show ¬ (0 : Int) = 1 by decide), if_pos (show (0 : Int) = 0 from rfl)]
      exact n_loneSX (A := 4) (B := 1) hx hk hn hLak hVal h4.1 h5.1 c1 (by omega) (by omega) eX
    · rw [if_neg (show ¬ (1 : Int) = 0 by decide), if_pos (show (1 : Int) = 1 from rfl)] at eX
      rw [if_pos (show (1 : Int) = 1 from rfl), if_neg (show ¬ (1 : Int) = 0 by decide)]
      exact n_loneSX (A := 1) (B := 4) hx hk hn hLak hVal h4.1 h5.1 c1 (by omega) (by omega) eX
    · rw [if_neg (show ¬ (2 : Int) = 0 by decide), if_neg (show ¬ (2 : Int) = 1 by decide)] at eX
      rw [if_neg (show ¬ (2 : Int) = 1 by decide), if_neg (show ¬ (2 : Int) = 0 by decide)]
      exact n_loneSX (A := 4) (B := 4) hx hk hn hLak hVal h4.1 h5.1 c1 (by omega) (by omega) eX
  · rw [e1, n_bd]
    exact n_loneSM hms hk hn hB eM
