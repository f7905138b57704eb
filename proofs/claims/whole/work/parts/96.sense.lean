/-! sense, skill -/
def n_T (m : k_St) (V : Nat → Int) (n k : Nat) (u w : Int) : Int := n_bm (n_Wj n k (n_hN m w) (n_lN m u) (n_sN m V) (n_cs (vI m 0 23))) (k ^ 4)
theorem n_tW {m : k_St} {n k : Nat} {V : Nat → Int} {u w : Int} (hk : n_mk m n V) (hn : 0 < n) (hkk : 1 ≤ k ∧ k ≤ 4) (hu : 0 ≤ u ∧ u ≤ 1) (hw : 0 ≤ w ∧ w ≤ 1) (j : Nat) : n_Wj n k (n_hN m w) (n_lN m u) (n_sN m V) (n_cs (vI m 0 23)) j = n_A m V (fun s => (n_dk k j s : Int)) (n_an (k_wr (k_wr m 0 26 (iI u)) 0 27 (iI w)) V (fun s => (n_dk k j s : Int)) n) u w n := by
  have hk' : n_mk (k_wr (k_wr m 0 26 (iI u)) 0 27 (iI w)) n V := hk
  have e26 : vI (k_wr (k_wr m 0 26 (iI u)) 0 27 (iI w)) 0 26 = u := iI_to (z := u) (by omega)
  have e27 : vI (k_wr (k_wr m 0 26 (iI u)) 0 27 (iI w)) 0 27 = w := iI_to (z := w) (by omega)
  have := n_SM_A (f := n_dk k j) hk' hn (fun s hs => by have := n_dk_lt hkk.1 j s; omega)
  rw [e26, e27] at this
  exact this
theorem n_T_r {m : k_St} {n k : Nat} {V : Nat → Int} {u w : Int} (hk : n_mk m n V) (hn : 0 < n) (hkk : 1 ≤ k ∧ k ≤ 4) (hu : 0 ≤ u ∧ u ≤ 1) (hw : 0 ≤ w ∧ w ≤ 1) : 0 ≤ n_T m V n k u w ∧ n_T m V n k u w ≤ 5394600 := by
  have hK := n_K hkk
  have hWr : ∀ j, 0 ≤ n_Wj n k (n_hN m w) (n_lN m u) (n_sN m V) (n_cs (vI m 0 23)) j ∧ n_Wj n k (n_hN m w) (n_lN m u) (n_sN m V) (n_cs (vI m 0 23)) j ≤ 5394600 := fun j => by
    rw [n_tW hk hn hkk hu hw]
    exact n_Ar hk
  have hb := n_bm_b (b := 5394600) (by omega) hWr (k ^ 4)
  have hb0 := n_bm_0 (fun j => (hWr j).1) (show 0 < k ^ 4 by rw [n_k4]; omega)
  exact ⟨hb0, hb.2⟩
theorem n_bm_le {W : Nat → Int} {B : Int} (hB : -1 ≤ B) : ∀ K, (∀ j, j < K → W j ≤ B) → n_bm W K ≤ B
  | 0, _ => hB
  | K + 1, h => by
    have ih := n_bm_le hB K (fun j hj => h j (by omega))
    have := h K (by omega)
    show (if W K ≤ n_bm W K then n_bm W K else W K) ≤ B
    split <;> omega
/-- who sees and hears all does as well -/
theorem n_T_le {m : k_St} {n k : Nat} {V : Nat → Int} {u w : Int} (hk : n_mk m n V) (hn : 0 < n) (hkk : 1 ≤ k ∧ k ≤ 4) (hu : 0 ≤ u ∧ u ≤ 1) (hw : 0 ≤ w ∧ w ≤ 1) : n_T m V n k u w ≤ n_T m V n k 0 0 := by
  have h0 := n_T_r (u := 0) (w := 0) hk hn hkk (by omega) (by omega)
  refine n_bm_le (by omega) _ (fun j hj => ?_)
  rw [n_tW hk hn hkk hu hw]
  have hk0 : n_mk (k_wr (k_wr m 0 26 (iI 0)) 0 27 (iI 0)) n V := hk
  have hk' : n_mk (k_wr (k_wr m 0 26 (iI u)) 0 27 (iI w)) n V := hk
  have hRi := fun c => n_an_i (f := fun s => (n_dk k j s : Int)) hk' hn c
  generalize n_an (k_wr (k_wr m 0 26 (iI u)) 0 27 (iI w)) V (fun s => (n_dk k j s : Int)) n = R at *
  have hfr : ∀ s, 0 ≤ (n_dk k j s : Int) ∧ (n_dk k j s : Int) < k := fun s => n_dkk hkk.1
  generalize hf : (fun s => (n_dk k j s : Int)) = f at *
  have hfr : ∀ s, 0 ≤ f s ∧ f s < k := fun s => by rw [← hf]; exact hfr s
  obtain ⟨f', hf'⟩ : ∃ f' : Nat → Int, f' = fun s => if w = 0 then f s else f 0 := ⟨_, rfl⟩
  obtain ⟨R', hR'⟩ : ∃ R' : Nat → Int32, R' = fun c => if u = 0 then R c else R (c % 4) := ⟨_, rfl⟩
  have hfr' : ∀ s, 0 ≤ f' s ∧ f' s < k := fun s => by
    rw [hf']
    dsimp only
    split
    · exact hfr s
    · exact hfr 0
  have hRr' : ∀ c, c < 16 → 0 ≤ (R' c).toInt ∧ (R' c).toInt < n := fun c hc => by
    rw [hR']
    dsimp only
    split
    · exact (hRi c).2
    · exact (hRi (c % 4)).2
  have e1 : n_A m V f R u w n = n_A (k_wr (k_wr m 0 26 (iI 0)) 0 27 (iI 0)) V f' R' 0 0 n := by
    show n_A m V f R u w n = n_A m V f' R' 0 0 n
    refine n_sum_c (fun p hp => ?_)
    have hsn := hk.sn hp 0
    have hhd := hk.hd hp 0
    have ef : f (n_hd m w p).toNat = f' (n_hd m 0 p).toNat := by
      rw [hf']
      dsimp only
      by_cases c : w = 0
      · rw [if_pos c, c]
      · rw [if_neg c]
        unfold n_hd
        rw [if_neg c]
        rfl
    have hy := hfr' (n_hd m 0 p).toNat
    rw [ef]
    congr 1
    unfold n_hv
    by_cases c : u = 0
    · have eR : R' = R := by
        rw [hR']
        funext d
        exact if_pos c
      rw [eR, c]
    · have es : n_sn m u p = 0 := by
        unfold n_sn
        rw [if_neg c]
      have er : ∀ d, R' d = R (d % 4) := fun d => by
        rw [hR']
        exact if_neg c
      rw [es, er, er, show (4 * n_sn m 0 p + f' (n_hd m 0 p).toNat).toNat % 4 = (4 * 0 + f' (n_hd m 0 p).toNat).toNat by omega, show (4 * n_sn m 0 p).toNat % 4 = (4 * (0 : Int)).toNat by omega]
  have e00 : vI (k_wr (k_wr m 0 26 (iI 0)) 0 27 (iI 0)) 0 26 = 0 := rfl
  have e01 : vI (k_wr (k_wr m 0 26 (iI 0)) 0 27 (iI 0)) 0 27 = 0 := rfl
  have h1 := n_an_best (g := f') (R := R') hk0 hn (fun s hs => by have := hfr' s; omega) hRr'
  rw [e00, e01] at h1
  obtain ⟨o, ho, hgo⟩ := n_rk_ex (g := f') hkk (fun s hs => hfr' s)
  have h2 := n_bm_ge (W := n_Wj n k (n_hN m 0) (n_lN m 0) (n_sN m V) (n_cs (vI m 0 23))) (k ^ 4) o (by rw [n_k4]; exact ho)
  rw [n_tW hk hn hkk (by omega) (by omega), ← n_an_c hk0 hn hgo, ← n_A_c hk hgo] at h2
  rw [e1]
  have h3 : n_A (k_wr (k_wr m 0 26 (iI 0)) 0 27 (iI 0)) V f' (n_an (k_wr (k_wr m 0 26 (iI 0)) 0 27 (iI 0)) V f' n) 0 0 n = n_A m V f' (n_an (k_wr (k_wr m 0 26 (iI 0)) 0 27 (iI 0)) V f' n) 0 0 n := rfl
  rw [h3] at h1
  unfold n_T
  omega
theorem n_tsM {σ m : k_St} {n k : Nat} {V : Nat → Int} {u w : Int} (hm : m_c σ = m) (hk : n_mk m n V) (hn : 0 < n) (hkk : 1 ≤ k ∧ k ≤ 4) (hu : 0 ≤ u ∧ u ≤ 1) (hw : 0 ≤ w ∧ w ≤ 1) : ∃ s, f_X12_layTongue (iI k) (k_wr (k_wr σ 0 26 (iI u)) 0 27 (iI w)) = some s ∧ s.1 0 35 = iI (n_T m V n k u w) ∧ ∀ a b, m_c (k_wr (k_wr s 0 26 a) 0 27 b) = k_wr (k_wr m 0 26 a) 0 27 b := by
  have hk' : n_mk (k_wr (k_wr m 0 26 (iI u)) 0 27 (iI w)) n V := hk
  have e26 : vI (k_wr (k_wr m 0 26 (iI u)) 0 27 (iI w)) 0 26 = u := iI_to (z := u) (by omega)
  have e27 : vI (k_wr (k_wr m 0 26 (iI u)) 0 27 (iI w)) 0 27 = w := iI_to (z := w) (by omega)
  obtain ⟨s, e1, hms, t1, t2⟩ := n_layT (σ := k_wr (k_wr σ 0 26 (iI u)) 0 27 (iI w)) (k := k) (n_cw (n_cw hm rfl) rfl) hk' hn hkk
  rw [e26, e27] at t1
  exact ⟨s, e1, t1, fun a b => (n_cw (n_cw hms rfl) rfl).trans n_wr4⟩
theorem n_saX {σ x m : k_St} {n k : Nat} {u w : Int} (hx : x_c σ = x) (hk : n_mk m n (fun p => vI x 14 p)) (hl : r_lak x m) (hv : r_val x m) (hlo : x.1 16 5 = m.1 0 23) (hk22 : vI m 0 22 = k) (hkk : 1 ≤ k ∧ k ≤ 4) (hu : 0 ≤ u ∧ u ≤ 1) (hw : 0 ≤ w ∧ w ≤ 1) : ∃ s, f_X11_senseAbove (iI u) (iI w) σ = some (iL (n_T m (fun p => vI x 14 p) n k u w), s) ∧ x_c s = x := by
  obtain ⟨s, e1, hF, t1, t2⟩ := n_bySigns (σ := σ) (k := k) (fg := u) (th := w) hx hk hl hv hlo hkk (by omega) (by omega)
  unfold f_X11_senseAbove
  rw [n_rX hx rfl hl.2.1.1, hk22, e1, n_bd, show k_rl s 33 0 = _ from t1]
  exact ⟨s, rfl, (n_frX hF i_SR_s).trans hx⟩
set_option maxRecDepth 20000 in
theorem q_s14 : g_s14 z_Inv := by
  intro σX σM hI a0 a1 a2 hb0 hb1
  obtain ⟨u, hu, rfl⟩ : ∃ u : Int, (0 ≤ u ∧ u ≤ 1) ∧ a0 = iI u := by
    rcases hb0 with rfl | rfl
    · exact ⟨0, by omega, rfl⟩
    · exact ⟨1, by omega, rfl⟩
  obtain ⟨w, hw, rfl⟩ : ∃ w : Int, (0 ≤ w ∧ w ≤ 1) ∧ a1 = iI w := by
    rcases hb1 with rfl | rfl
    · exact ⟨0, by omega, rfl⟩
    · exact ⟨1, by omega, rfl⟩
  obtain ⟨z, hz, rfl⟩ := iI_ex a2
  obtain ⟨x, hx, hR⟩ := z_openX hI
  obtain ⟨hTap, hLak, hNow, hImg, hShf, hSee, hLrn, hLaw, hVal⟩ := id hR
  obtain ⟨l1, l2, l3, l4, l5, l6⟩ := id hLak
  obtain ⟨h1, h2, h3, h4, h5, h6, h7, h8⟩ := id hNow
  obtain ⟨n, hk⟩ := hR.mk
  have b1 := l1.2
  have b2 := l2.2
  have k1 := hk.1
  have hn6 := hk.2.1
  have f2 : k_rd σM 0 21 = iI (vI (m_c σM) 0 21) := n_core_I rfl rfl
  unfold f_X11_sense f_X12_sense f_X11_isPart
  simp (disch := omega) only [iI_lit, n_lk hx (n_vI l1.1) l1.2, n_bd, f2, n_ib, n_ieq, iI_neg, n_in, n_within, n_gdt n_isB]
  by_cases c0 : 0 < vI (m_c σM) 0 21
  rotate_left
  · rw [if_neg c0, if_pos (show vI (m_c σM) 0 21 = 0 by omega)]
    exact ⟨_, _, _, rfl, rfl, hI⟩
  rw [if_pos c0, if_neg (show ¬ vI (m_c σM) 0 21 = 0 by omega)]
  by_cases c1 : 0 ≤ z ∧ z ≤ 1
  rotate_left
  · rw [if_neg c1, if_neg c1]
    exact ⟨_, _, _, rfl, rfl, hI⟩
  rw [if_pos c1, if_pos c1]
  have hn : 0 < n := by omega
  have hW := (l4 c0).2.2
  rw [k1, Int.toNat_natCast] at hW
  have hk1 := (l4 c0).2.1
  obtain ⟨k, hk22⟩ := Int.eq_ofNat_of_zero_le b2.1
  have hkk : 1 ≤ k ∧ k ≤ 4 := by omega
  obtain ⟨sX, e1, hxX⟩ := n_saX (u := u) (w := w) hx hk hLak hVal h6.1 hk22 hkk hu hw
  obtain ⟨sM, e2, t1, hmM⟩ := n_tsM (σ := σM) (k := k) (u := u) (w := w) rfl hk hn hkk hu hw
  have hT := n_T_r hk hn hkk hu hw
  obtain ⟨A, hA⟩ := Int.eq_ofNat_of_zero_le hT.1
  rw [hA] at e1 t1 hT
  have m26 : k_rd σM 0 26 = (m_c σM).1 0 26 := n_core_1 rfl rfl
  have m27 : k_rd σM 0 27 = (m_c σM).1 0 27 := n_core_1 rfl rfl
  have m22 : k_rd (k_wr (k_wr σM 0 26 (iI u)) 0 27 (iI w)) 0 22 = iI (k : Int) := by
    have : k_rd σM 0 22 = iI (vI (m_c σM) 0 22) := n_core_I rfl rfl
    rw [hk22] at this
    exact this
  have hm5 : m_c (k_wr (k_wr sM 0 26 ((m_c σM).1 0 26)) 0 27 ((m_c σM).1 0 27)) = m_c σM := (hmM _ _).trans n_wr0
  have e35 : k_rd (k_wr (k_wr sM 0 26 ((m_c σM).1 0 26)) 0 27 ((m_c σM).1 0 27)) 0 35 = iI (A : Int) := t1
  rw [e1, n_b2, n_plX hxX hLak hk hW c1 (by omega), n_bd, n_nm, n_nm, n_gB hu, n_nm, n_gB hw, n_nm, m22, e2, n_bd, m26, m27, n_gdt (n_isB2 h4.2), n_nm, n_gdt (n_isB2 h5.2), n_nm, e35, n_plainM hm5 hk (by omega) hW c1, n_bd]
  exact ⟨_, _, _, rfl, rfl, z_close hxX hm5 hR⟩
theorem n_tsumM {σ m : k_St} {n k : Nat} {V : Nat → Int} {u w : Int} (hm : m_c σ = m) (hk : n_mk m n V) (hn : 0 < n) (hk22 : vI m 0 22 = k) (hkk : 1 ≤ k ∧ k ≤ 4) (hu : 0 ≤ u ∧ u ≤ 1) (hw : 0 ≤ w ∧ w ≤ 1) (hf : m.1 0 26 = 0 ∨ m.1 0 26 = 1) (ht : m.1 0 27 = 0 ∨ m.1 0 27 = 1) : ∃ s, f_X12_tongueSum (iI u) (iI w) σ = some (iI (n_T m V n k u w), s) ∧ m_c s = m := by
  obtain ⟨sM, e2, t1, hmM⟩ := n_tsM (σ := σ) (k := k) (u := u) (w := w) hm hk hn hkk hu hw
  have m26 : k_rd σ 0 26 = m.1 0 26 := n_core_1 hm rfl
  have m27 : k_rd σ 0 27 = m.1 0 27 := n_core_1 hm rfl
  have m22 : k_rd (k_wr (k_wr σ 0 26 (iI u)) 0 27 (iI w)) 0 22 = iI (k : Int) := by
    have : k_rd σ 0 22 = iI (vI m 0 22) := n_core_I hm rfl
    rw [hk22] at this
    exact this
  have hm5 : m_c (k_wr (k_wr sM 0 26 (m.1 0 26)) 0 27 (m.1 0 27)) = m := (hmM _ _).trans n_wr0
  have e35 : k_rd (k_wr (k_wr sM 0 26 (m.1 0 26)) 0 27 (m.1 0 27)) 0 35 = iI (n_T m V n k u w) := t1
  unfold f_X12_tongueSum
  rw [n_nm, n_nm, n_gB hu, n_nm, n_gB hw, n_nm, m22, e2, n_bd, m26, m27, n_gdt (n_isB2 hf), n_nm, n_gdt (n_isB2 ht), n_nm, e35]
  exact ⟨_, rfl, hm5⟩
set_option maxRecDepth 20000 in
theorem q_s33 : g_s33 z_Inv := by
  intro σX σM hI a0 a1
  obtain ⟨a, ha, rfl⟩ := iI_ex a0
  obtain ⟨z, hz, rfl⟩ := iI_ex a1
  obtain ⟨x, hx, hR⟩ := z_openX hI
  obtain ⟨hTap, hLak, hNow, hImg, hShf, hSee, hLrn, hLaw, hVal⟩ := id hR
  obtain ⟨l1, l2, l3, l4, l5, l6⟩ := id hLak
  obtain ⟨h1, h2, h3, h4, h5, h6, h7, h8⟩ := id hNow
  obtain ⟨n, hk⟩ := hR.mk
  have b1 := l1.2
  have b2 := l2.2
  have k1 := hk.1
  have hn6 := hk.2.1
  have f2 : k_rd σM 0 21 = iI (vI (m_c σM) 0 21) := n_core_I rfl rfl
  unfold f_X11_skill f_X12_skill f_X11_isPart
  simp (disch := omega) only [iI_lit, n_lk hx (n_vI l1.1) l1.2, n_bd, f2, n_ib, n_ieq, iI_neg, n_in, n_within, n_gdt n_isB, n_jn]
  by_cases c0 : 0 < vI (m_c σM) 0 21
  rotate_left
  · rw [if_neg c0, if_pos (show vI (m_c σM) 0 21 = 0 by omega)]
    exact ⟨_, _, _, rfl, rfl, hI⟩
  rw [if_pos c0, if_neg (show ¬ vI (m_c σM) 0 21 = 0 by omega)]
  by_cases c1 : 0 ≤ a ∧ a ≤ 2
  rotate_left
  · rw [if_neg c1, if_neg c1]
    exact ⟨_, _, _, rfl, rfl, hI⟩
  rw [if_pos c1, if_pos c1]
  by_cases c2 : 0 ≤ z ∧ z ≤ 1
  rotate_left
  · rw [if_neg c2, if_neg c2]
    exact ⟨_, _, _, rfl, rfl, hI⟩
  rw [if_pos c2, if_pos c2]
  have hn : 0 < n := by omega
  have hW := (l4 c0).2.2
  rw [k1, Int.toNat_natCast] at hW
  have hk1 := (l4 c0).2.1
  obtain ⟨k, hk22⟩ := Int.eq_ofNat_of_zero_le b2.1
  have hkk : 1 ≤ k ∧ k ≤ 4 := by omega
  obtain ⟨s1, e1, hx1⟩ := n_saX (u := 0) (w := 0) hx hk hLak hVal h6.1 hk22 hkk (by omega) (by omega)
  obtain ⟨s2, e2, hm2⟩ := n_tsumM (σ := σM) (u := 0) (w := 0) rfl hk hn hk22 hkk (by omega) (by omega) h4.2 h5.2
  have hT0 := n_T_r (u := 0) (w := 0) hk hn hkk (by omega) (by omega)
  have key : ∀ u w : Int, 0 ≤ u ∧ u ≤ 1 → 0 ≤ w ∧ w ≤ 1 → ∃ (r : Int32) (sX sM : k_St), (k_b2 (f_X11_senseAbove (iI u) (iI w) s1) fun v54 s54 => k_bd (f_X11_plainMean (iL (n_T (m_c σM) (fun p => vI x 14 p) n k 0 0) - v54) (iI z) s54) fun v59 => some (v59, s54)) = some (r, sX) ∧ (k_b2 (f_X12_tongueSum (iI u) (iI w) s2) fun v56 s56 => k_bd (f_X12_plain (iI (n_T (m_c σM) (fun p => vI x 14 p) n k 0 0) - v56) (iI z) s56) fun v61 => some (v61, s56)) = some (r, sM) ∧ z_Inv sX sM := fun u w hu hw => by
    obtain ⟨s3, e3, hx3⟩ := n_saX (u := u) (w := w) hx1 hk hLak hVal h6.1 hk22 hkk hu hw
    obtain ⟨s4, e4, hm4⟩ := n_tsumM (σ := s2) (u := u) (w := w) hm2 hk hn hk22 hkk hu hw h4.2 h5.2
    have hT := n_T_r hk hn hkk hu hw
    have hle := n_T_le hk hn hkk hu hw
    obtain ⟨A, hA⟩ := Int.eq_ofNat_of_zero_le (show 0 ≤ n_T (m_c σM) (fun p => vI x 14 p) n k 0 0 - n_T (m_c σM) (fun p => vI x 14 p) n k u w by omega)
    rw [e3, n_b2, e4, n_b2, iL_sub, iI_sub, hA, n_plX hx3 hLak hk hW c2 (by omega), n_bd, n_plainM hm4 hk (by omega) hW c2, n_bd]
    exact ⟨_, _, _, rfl, rfl, z_close hx3 hm4 hR⟩
  rw [e1, n_b2, e2, n_b2]
  by_cases a1 : a = 1
  · rw [if_pos a1, if_pos a1, if_neg (show ¬ a = 0 by omega), if_neg (show ¬ a = 0 by omega)]
    exact key 0 1 (by omega) (by omega)
  · rw [if_neg a1, if_neg a1]
    by_cases a0 : a = 0
    · rw [if_pos a0, if_pos a0]
      exact key 1 0 (by omega) (by omega)
    · rw [if_neg a0, if_neg a0]
      exact key 1 1 (by omega) (by omega)
