/-! tongues: the reference, and both -/
theorem n_s32 (G : Nat → Int) : n_sum G 32 = 0 + G 0 + G 1 + G 2 + G 3 + G 4 + G 5 + G 6 + G 7 + G 8 + G 9 + G 10 + G 11 + G 12 + G 13 + G 14 + G 15 + G 16 + G 17 + G 18 + G 19 + G 20 + G 21 + G 22 + G 23 + G 24 + G 25 + G 26 + G 27 + G 28 + G 29 + G 30 + G 31 := rfl
theorem n_s3216 {X Y : Nat → Int} (h : ∀ a y, a < 4 → y < 4 → X (8 * a + y) = Y (4 * a + y)) (h0 : ∀ a y, a < 4 → 4 ≤ y → y < 8 → X (8 * a + y) = 0) : n_sum X 32 = n_sum Y 16 := by
  rw [n_s32, n_s16]
  have a00 := h 0 0 (by decide) (by decide)
  have a01 := h 0 1 (by decide) (by decide)
  have a02 := h 0 2 (by decide) (by decide)
  have a03 := h 0 3 (by decide) (by decide)
  have a10 := h 1 0 (by decide) (by decide)
  have a11 := h 1 1 (by decide) (by decide)
  have a12 := h 1 2 (by decide) (by decide)
  have a13 := h 1 3 (by decide) (by decide)
  have a20 := h 2 0 (by decide) (by decide)
  have a21 := h 2 1 (by decide) (by decide)
  have a22 := h 2 2 (by decide) (by decide)
  have a23 := h 2 3 (by decide) (by decide)
  have a30 := h 3 0 (by decide) (by decide)
  have a31 := h 3 1 (by decide) (by decide)
  have a32 := h 3 2 (by decide) (by decide)
  have a33 := h 3 3 (by decide) (by decide)
  have b04 := h0 0 4 (by decide) (by decide) (by decide)
  have b05 := h0 0 5 (by decide) (by decide) (by decide)
  have b06 := h0 0 6 (by decide) (by decide) (by decide)
  have b07 := h0 0 7 (by decide) (by decide) (by decide)
  have b14 := h0 1 4 (by decide) (by decide) (by decide)
  have b15 := h0 1 5 (by decide) (by decide) (by decide)
  have b16 := h0 1 6 (by decide) (by decide) (by decide)
  have b17 := h0 1 7 (by decide) (by decide) (by decide)
  have b24 := h0 2 4 (by decide) (by decide) (by decide)
  have b25 := h0 2 5 (by decide) (by decide) (by decide)
  have b26 := h0 2 6 (by decide) (by decide) (by decide)
  have b27 := h0 2 7 (by decide) (by decide) (by decide)
  have b34 := h0 3 4 (by decide) (by decide) (by decide)
  have b35 := h0 3 5 (by decide) (by decide) (by decide)
  have b36 := h0 3 6 (by decide) (by decide) (by decide)
  have b37 := h0 3 7 (by decide) (by decide) (by decide)
  simp only [Nat.reduceMul, Nat.reduceAdd] at a00 a01 a02 a03 a10 a11 a12 a13 a20 a21 a22 a23 a30 a31 a32 a33 b04 b05 b06 b07 b14 b15 b16 b17 b24 b25 b26 b27 b34 b35 b36 b37
  omega
theorem n_bv_z : ∀ P, n_bv (fun _ => 0) P = 0
  | 0 => rfl
  | P + 1 => by
    rw [n_bv_s, n_bv_z P]
    rfl
/-- a tongue's mean, as the reference reckons it -/
theorem n_SM_A {m : k_St} {n : Nat} {V : Nat → Int} {f : Nat → Nat} (hk : n_mk m n V) (hn : 0 < n) (hf : ∀ s, s < 4 → f s < 4) : n_SM n (n_hN m (vI m 0 27)) (n_lN m (vI m 0 26)) (n_sN m V) (n_cs (vI m 0 23)) f 4 = n_A m V (fun s => (f s : Int)) (n_an m V (fun s => (f s : Int)) n) (vI m 0 26) (vI m 0 27) n := by
  rw [← n_AB hk (fun s hs => by have := hf s hs; omega) (fun c hc => (n_an_i hk hn c).2)]
  have e1 : n_sum (fun c => n_B m V (fun s => (f s : Int)) c (n_an m V (fun s => (f s : Int)) n c).toInt.toNat) 16 = n_sum (fun c => n_bv (n_B m V (fun s => (f s : Int)) c) n) 16 := n_sum_c (fun c hc => by
    rw [(n_an_i hk hn c).1, Int.toNat_natCast, n_bv_am (fun p hp => (n_B_r hk hp).1) n (Nat.le_refl _) hn])
  rw [e1]
  clear e1
  generalize hF : (fun s => (f s : Int)) = F
  unfold n_SM n_cB
  refine n_s3216 (fun a y ha hy => n_bv_c (fun p hp => ?_)) (fun a y ha hy hy8 => ?_)
  · have hh := hk.hd hp (vI m 0 27)
    have hs := hk.sn hp (vI m 0 26)
    have hfp := hf (n_hN m (vI m 0 27) p) (by unfold n_hN; omega)
    unfold n_cv n_B
    rw [show (8 * a + y) / 8 = a by omega, show (8 * a + y) % 8 = y by omega]
    have eh : (n_hd m (vI m 0 27) p).toNat = n_hN m (vI m 0 27) p := rfl
    have el : n_sn m (vI m 0 26) p = (n_lN m (vI m 0 26) p : Nat) := by unfold n_lN; omega
    have hl4 : n_lN m (vI m 0 26) p < 4 := by omega
    have hh4 : n_hN m (vI m 0 27) p < 4 := by unfold n_hN; omega
    have eF : F (n_hN m (vI m 0 27) p) = (f (n_hN m (vI m 0 27) p) : Nat) := by rw [← hF]
    rw [eh, el, eF]
    unfold n_sN n_cs n_t0
    clear eF
    generalize n_hN m (vI m 0 27) p = H at *
    generalize n_lN m (vI m 0 26) p = N at *
    generalize vI m 13 (4 * p) * V p = S at *
    generalize f H = Y at *
    generalize vI m 0 23 = G at *
    by_cases c1 : N = a
    · rw [if_pos ⟨hh4, c1⟩]
      by_cases c2 : y = 0
      · rw [if_neg (show ¬ Y < y by omega), if_pos c2, if_pos (show ((4 * a + y : Nat) : Int) = 4 * (N : Int) by omega)]
        by_cases c3 : Y = 0
        · rw [if_pos c3, if_pos (show ((4 * a + y : Nat) : Int) = 4 * (N : Int) + (Y : Int) by omega), if_pos (show (Y : Int) = 0 by omega)]
          omega
        · rw [if_neg c3, if_neg (show ¬ ((4 * a + y : Nat) : Int) = 4 * (N : Int) + (Y : Int) by omega), if_neg (show ¬ (Y : Int) = 0 by omega)]
          omega
      · rw [if_neg (show ¬ ((4 * a + y : Nat) : Int) = 4 * (N : Int) by omega)]
        by_cases c3 : y = Y
        · rw [if_neg (show ¬ Y < y by omega), if_neg c2, if_pos c3, if_pos (show ((4 * a + y : Nat) : Int) = 4 * (N : Int) + (Y : Int) by omega), if_neg (show ¬ (Y : Int) = 0 by omega)]
          omega
        · rw [if_neg (show ¬ ((4 * a + y : Nat) : Int) = 4 * (N : Int) + (Y : Int) by omega), if_neg c2, if_neg c3]
          by_cases c4 : Y < y
          · rw [if_pos c4]
            omega
          · rw [if_neg c4]
            omega
    · rw [if_neg (fun q => c1 q.2), if_neg (show ¬ ((4 * a + y : Nat) : Int) = 4 * (N : Int) + (Y : Int) by omega), if_neg (show ¬ ((4 * a + y : Nat) : Int) = 4 * (N : Int) by omega)]
      rfl
  · rw [n_bv_c (G := fun _ => 0) (fun p hp => ?_), n_bv_z]
    have hh := hk.hd hp (vI m 0 27)
    have hfp := hf (n_hN m (vI m 0 27) p) (by unfold n_hN; omega)
    unfold n_cv
    by_cases c1 : n_hN m (vI m 0 27) p < 4 ∧ n_lN m (vI m 0 26) p = (8 * a + y) / 8
    · rw [if_pos c1, show (8 * a + y) % 8 = y by omega]
      unfold n_cs
      rw [if_pos (show f (n_hN m (vI m 0 27) p) < y by omega), Int.mul_zero]
    · rw [if_neg c1]
theorem n_k4 (k : Nat) : k ^ 4 = k * k * k * k := by
  rw [Nat.pow_succ, Nat.pow_succ, Nat.pow_succ, Nat.pow_succ, Nat.pow_zero, Nat.one_mul]
theorem n_layT {σ m : k_St} {n k : Nat} {V : Nat → Int} (hm : m_c σ = m) (hk : n_mk m n V) (hn : 0 < n) (hkk : 1 ≤ k ∧ k ≤ 4) : k_OK (f_X12_layTongue (iI k) σ) (fun s => m_c s = m ∧ s.1 0 35 = iI (n_bm (n_Wj n k (n_hN m (vI m 0 27)) (n_lN m (vI m 0 26)) (n_sN m V) (n_cs (vI m 0 23))) (k ^ 4)) ∧ s.1 0 34 = iI (n_cd k (n_bs (n_Wj n k (n_hN m (vI m 0 27)) (n_lN m (vI m 0 26)) (n_sN m V) (n_cs (vI m 0 23))) (k ^ 4)))) := by
  have hK := n_K hkk
  have hWA : ∀ j, n_Wj n k (n_hN m (vI m 0 27)) (n_lN m (vI m 0 26)) (n_sN m V) (n_cs (vI m 0 23)) j = n_A m V (fun s => (n_dk k j s : Int)) (n_an m V (fun s => (n_dk k j s : Int)) n) (vI m 0 26) (vI m 0 27) n := fun j => n_SM_A hk hn (fun s hs => by have := n_dk_lt hkk.1 j s; omega)
  have hWr : ∀ j, 0 ≤ n_Wj n k (n_hN m (vI m 0 27)) (n_lN m (vI m 0 26)) (n_sN m V) (n_cs (vI m 0 23)) j ∧ n_Wj n k (n_hN m (vI m 0 27)) (n_lN m (vI m 0 26)) (n_sN m V) (n_cs (vI m 0 23)) j ≤ 5394600 := fun j => by
    rw [hWA]
    exact n_Ar hk
  generalize n_Wj n k (n_hN m (vI m 0 27)) (n_lN m (vI m 0 26)) (n_sN m V) (n_cs (vI m 0 23)) = W at *
  unfold f_X12_layTongue
  simp only [iI_lit, iI_neg]
  rw [ok_nm, n_k4]
  refine ok_for (k * k * k * k) (fun j (y : Int32 × k_St) => y.1 = iI j ∧ m_c y.2 = m ∧ y.2.1 0 35 = iI (n_bm W j) ∧ (0 < j → y.2.1 0 34 = iI (n_cd k (n_bs W j)))) ?_ (by omega) (j := 0) ⟨rfl, (n_core_w1 rfl).trans hm, wr_s, fun h => absurd h (by omega)⟩ (by omega)
  rintro g j ⟨v, s⟩ ⟨g1, g2, g3, g4⟩ hj hg
  have g1 : v = iI j := g1
  subst g1
  have g2 : m_c s = m := g2
  have g3 : s.1 0 35 = iI (n_bm W j) := g3
  have g4 : 0 < j → s.1 0 34 = iI (n_cd k (n_bs W j)) := g4
  have eK : iI (k : Int) * iI (k : Int) * iI (k : Int) * iI (k : Int) = iI ((k * k * k * k : Nat) : Int) := by
    simp only [iI_mul, Int.natCast_mul]
  show k_OK (k_if _ _ _) _
  rw [eK, n_ile (by omega) (by omega)]
  by_cases c1 : ((k * k * k * k : Nat) : Int) ≤ j
  · have ej : j = k * k * k * k := by omega
    rw [if_pos c1, ok_some, ← ej]
    exact ⟨g2, g3, g4 (by omega)⟩
  obtain ⟨s1, e1, hF1, hA1⟩ := n_nth (σ := s) (a := 16) (j := j) rfl hkk (by omega)
  have hm1 : m_c s1 = m := (n_frM hF1 (fun c hc k => by rw [hc]; rfl)).trans g2
  obtain ⟨s2, e2, hm2, hF2, hA2⟩ := n_ansBy (σ := s1) (a := 16) (f := fun s => (n_dk k j s : Int)) rfl (by unfold i_SB; omega) hm1 hk hn (fun t ht => ⟨hA1 t ht, n_dkr hkk⟩)
  rw [← hWA] at e2
  have e35 : k_rd s2 0 35 = iI (n_bm W j) := by
    show s2.1 0 35 = _
    rw [(hF2 0 (by decide)).1, (hF1 0 (by decide)).1]
    exact g3
  have hbb := n_bm_b (b := 5394600) (by omega) hWr j
  have hwj := hWr j
  have eb1 : n_bm W (j + 1) = if W j ≤ n_bm W j then n_bm W j else W j := rfl
  have eb2 : n_bs W (j + 1) = if W j ≤ n_bm W j then n_bs W j else (j : Int) := rfl
  rw [if_neg c1, e1, n_bd, e2, n_b2, e35, n_ile (by omega) (by omega)]
  by_cases c2 : W j ≤ n_bm W j
  · rw [if_pos c2] at eb1 eb2
    rw [if_pos c2, ok_nm, iI_add]
    have hj0 : 0 < j := by
      by_cases e : j = 0
      · rw [e] at c2 hwj
        have : n_bm W 0 = -1 := rfl
        omega
      · omega
    refine hg _ (by omega) ⟨rfl, hm2, ?_, fun _ => ?_⟩
    · rw [eb1]
      exact e35
    · show s2.1 0 34 = _
      rw [eb2, (hF2 0 (by decide)).1, (hF1 0 (by decide)).1]
      exact g4 hj0
  · rw [if_neg c2] at eb1 eb2
    have ep := n_packed (σ := k_wr s2 0 35 (iI (W j))) (a := 16) (f := fun s => (n_dk k j s : Int)) rfl (fun t ht => by
      show s2.1 16 t = _
      rw [(hF2 16 (by decide)).1]
      exact hA1 t ht)
    rw [if_neg c2, ok_nm, ep, n_bd, ok_nm, ok_nm, iI_add]
    refine hg _ (by omega) ⟨rfl, (n_core_w1 rfl).trans ((n_core_w1 rfl).trans hm2), ?_, fun _ => ?_⟩
    · rw [eb1]
      exact (wr_k (by decide)).trans wr_s
    · show (k_wr (k_wr s2 0 35 (iI (W j))) 0 34 _).1 0 34 = _
      rw [wr_s, eb2]
      unfold n_cd
      rw [if_neg (by omega), Int.toNat_natCast]
/-- the class's mean of a top, plain -/
theorem n_plX {s x m : k_St} {n A : Nat} {V : Nat → Int} {z : Int} (hxs : x_c s = x) (hl : r_lak x m) (hk : n_mk m n V) (hW : 0 < m_sW m n) (hz : 0 ≤ z ∧ z ≤ 1) (hA : (A : Int) < 9223372036854775808) : f_X11_plainMean (iL (A : Int)) (iI z) s = some (iI (n_fr A (100 * m_sW m n).toNat z : Nat)) := by
  have hn6 := hk.2.1
  have hsr : 0 ≤ m_sW m n ∧ m_sW m n ≤ n * 9 := n_sum_r (f := fun p => vI m 13 (4 * p)) (b := 9) (n := n) (fun p hp => (hk.2.2.2.2 p hp).1.1)
  have eW : k_rd s 12 2 = iI (m_sW m n) := by
    rw [n_core_I hxs rfl, hl.2.2.2.2.1, hk.1, Int.toNat_natCast]
  unfold f_X11_plainMean
  rw [eW, iI_l (by omega), show (100 : Int64) = iL 100 from rfl, iL_mul, show 100 * m_sW m n = (((100 * m_sW m n).toNat : Nat) : Int) by omega, n_plainX (by omega) (by omega) hz, n_bd, Int.toNat_natCast, iL_i]
theorem n_bm_0 {W : Nat → Int} (hW : ∀ j, 0 ≤ W j) {K : Nat} (hK : 0 < K) : 0 ≤ n_bm W K := by
  have := n_bm_ge (W := W) K 0 hK
  have := hW 0
  omega
set_option maxRecDepth 20000 in
theorem q_s13 : g_s13 z_Inv := by
  intro σX σM hI a0 a1
  obtain ⟨a, ha, rfl⟩ := iI_ex a0
  obtain ⟨z, hz, rfl⟩ := iI_ex a1
  obtain ⟨x, hx, hR⟩ := z_openX hI
  obtain ⟨hTap, hLak, hNow, hImg, hShf, hSee, hLrn, hLaw, hVal⟩ := id hR
  obtain ⟨l1, l2, l3, l4, l5, l6⟩ := id hLak
  obtain ⟨h1, h2, h3, h4, h5, h6, h7, h8⟩ := id hNow
  obtain ⟨n, hk⟩ := hR.mk
  have b1 := l1.2
  have k1 := hk.1
  have hn6 := hk.2.1
  have f2 : k_rd σM 0 21 = iI (vI (m_c σM) 0 21) := n_core_I rfl rfl
  unfold f_X11_tongue f_X12_tongue
  rw [n_rX hx rfl h4.1, n_rX hx rfl h5.1]
  simp (disch := omega) only [iI_lit, n_lk hx (n_vI l1.1) l1.2, n_bd, f2, n_ib, n_ieq, iI_neg, n_in, n_within]
  by_cases c0 : 0 < vI (m_c σM) 0 21
  rotate_left
  · rw [if_neg c0, if_pos (show vI (m_c σM) 0 21 = 0 by omega)]
    exact ⟨_, _, _, rfl, rfl, hI⟩
  rw [if_pos c0, if_neg (show ¬ vI (m_c σM) 0 21 = 0 by omega)]
  by_cases c1 : 1 ≤ a ∧ a ≤ 4
  rotate_left
  · rw [if_neg c1, if_neg c1]
    exact ⟨_, _, _, rfl, rfl, hI⟩
  rw [if_pos c1, if_pos c1]
  by_cases c2 : 0 ≤ z ∧ z ≤ 2
  rotate_left
  · rw [if_neg c2, if_neg c2]
    exact ⟨_, _, _, rfl, rfl, hI⟩
  rw [if_pos c2, if_pos c2]
  obtain ⟨k, rfl⟩ := Int.eq_ofNat_of_zero_le (show 0 ≤ a by omega)
  have hkk : 1 ≤ k ∧ k ≤ 4 := by omega
  have hK := n_K hkk
  have hn : 0 < n := by omega
  have hW := (l4 c0).2.2
  rw [k1, Int.toNat_natCast] at hW
  obtain ⟨sX, e1, hF1, t1, t2⟩ := n_bySigns (σ := σX) (k := k) hx hk hLak hVal h6.1 hkk (vI_rg (m_c σM) 0 26) (vI_rg (m_c σM) 0 27)
  have hxX : x_c sX = x := (n_frX hF1 i_SR_s).trans hx
  obtain ⟨sM, e2, hmM, t3, t4⟩ := n_layT (σ := σM) (k := k) rfl hk hn hkk
  have hWA : ∀ j, n_Wj n k (n_hN (m_c σM) (vI (m_c σM) 0 27)) (n_lN (m_c σM) (vI (m_c σM) 0 26)) (n_sN (m_c σM) (fun p => vI x 14 p)) (n_cs (vI (m_c σM) 0 23)) j = n_A (m_c σM) (fun p => vI x 14 p) (fun s => (n_dk k j s : Int)) (n_an (m_c σM) (fun p => vI x 14 p) (fun s => (n_dk k j s : Int)) n) (vI (m_c σM) 0 26) (vI (m_c σM) 0 27) n := fun j => n_SM_A hk hn (fun s hs => by have := n_dk_lt hkk.1 j s; omega)
  have hWr : ∀ j, 0 ≤ n_Wj n k (n_hN (m_c σM) (vI (m_c σM) 0 27)) (n_lN (m_c σM) (vI (m_c σM) 0 26)) (n_sN (m_c σM) (fun p => vI x 14 p)) (n_cs (vI (m_c σM) 0 23)) j ∧ n_Wj n k (n_hN (m_c σM) (vI (m_c σM) 0 27)) (n_lN (m_c σM) (vI (m_c σM) 0 26)) (n_sN (m_c σM) (fun p => vI x 14 p)) (n_cs (vI (m_c σM) 0 23)) j ≤ 5394600 := fun j => by
    rw [hWA]
    exact n_Ar hk
  generalize n_Wj n k (n_hN (m_c σM) (vI (m_c σM) 0 27)) (n_lN (m_c σM) (vI (m_c σM) 0 26)) (n_sN (m_c σM) (fun p => vI x 14 p)) (n_cs (vI (m_c σM) 0 23)) = W at *
  have hb := n_bm_b (b := 5394600) (by omega) hWr (k ^ 4)
  have hb0 := n_bm_0 (fun j => (hWr j).1) (show 0 < k ^ 4 by rw [n_k4]; omega)
  obtain ⟨A, hA⟩ := Int.eq_ofNat_of_zero_le hb0
  rw [hA] at t1 t3 hb
  rw [e1, n_bd, e2, n_bd, show k_rd sX 33 1 = _ from t2, show k_rl sX 33 0 = _ from t1, show k_rd sM 0 34 = _ from t4, show k_rd sM 0 35 = _ from t3]
  by_cases c3 : z = 0
  · rw [if_pos c3, if_pos c3]
    exact ⟨_, _, _, rfl, rfl, z_close hxX hmM hR⟩
  · rw [if_neg c3, if_neg c3, iI_sub, n_plX hxX hLak hk hW (by omega) (by omega), n_bd, n_plainM hmM hk (by omega) hW (by omega), n_bd]
    exact ⟨_, _, _, rfl, rfl, z_close hxX hmM hR⟩
