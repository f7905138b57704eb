/-! day, both -/
theorem n_mx0 {S : Nat → Bool} {σ s : k_St} {v : Int32} {w : Int64} (hS : S 0 = false) (hF : n_Fr (fun c => c = 0 ∨ S c = true) σ s) (h1 : ∀ j, s.1 0 j = if j = 59 then v else σ.1 0 j) (h2 : ∀ j, s.2 0 j = if j = 60 then w else σ.2 0 j) : s = k_wr (k_wl (n_mx S σ s) 0 60 w) 0 59 v := by
  refine Prod.ext (funext fun c => funext fun k => ?_) (funext fun c => funext fun k => ?_)
  · rw [wr_if]
    show _ = if c = 0 ∧ k = 59 then v else (if S c = true then s.1 c else σ.1 c) k
    by_cases e : c = 0
    · subst e
      rw [h1, hS]
      by_cases q : k = 59
      · rw [if_pos q, if_pos ⟨rfl, q⟩]
      · rw [if_neg q, if_neg (fun r => q r.2)]
        rfl
    · rw [if_neg (fun r => e r.1)]
      by_cases q : S c = true
      · rw [if_pos q]
      · rw [if_neg q, (hF c (fun r => r.elim e q)).1]
  · show s.2 c k = (k_wl (n_mx S σ s) 0 60 w).2 c k
    rw [wl_if]
    show _ = if c = 0 ∧ k = 60 then w else (if S c = true then s.2 c else σ.2 c) k
    by_cases e : c = 0
    · subst e
      rw [h2, hS]
      by_cases q : k = 60
      · rw [if_pos q, if_pos ⟨rfl, q⟩]
      · rw [if_neg q, if_neg (fun r => q r.2)]
        rfl
    · rw [if_neg (fun r => e r.1)]
      by_cases q : S c = true
      · rw [if_pos q]
      · rw [if_neg q, (hF c (fun r => r.elim e q)).2]
/-- the relation of what is now, a day later -/
theorem n_nowD {σX σM x : k_St} {sX sM : k_St} {n k d P H Y C came : Nat} {ct : Int} {TF : Nat → Int} {RF : Nat → Int32} {TX : Int32} {XF DF : Int64} (hx : x_c σX = x) (hN : r_now x (m_c σM)) (hn : vI (m_c σM) 0 21 = n) (hn6 : n ≤ 6) (hk22 : vI (m_c σM) 0 22 = k) (hk : 1 ≤ k ∧ k ≤ 4) (hd : vI (m_c σM) 0 59 = d) (hd40 : d < 40) (hP : P < n) (hcame : came < 4) (hct : 0 ≤ ct ∧ ct ≤ 999) (hH : H < 4) (hC : C < 16) (eX : n_eX σX sX d P came ct TX XF DF) (eM : n_eM σM sM d (n_p4 (fun s => ((m_c σM).1 14 s).toInt)) P came ct TF RF DF) (hT : (TX = σX.1 16 0 ∧ TF = fun s => ((m_c σM).1 14 s).toInt) ∨ (TX = iI (n_e4 (n_up (fun s => ((m_c σM).1 14 s).toInt) H (if Y + 1 < k then (Y : Int) + 1 else 0))) ∧ TF = n_up (fun s => ((m_c σM).1 14 s).toInt) H (if Y + 1 < k then (Y : Int) + 1 else 0))) (hRR : (XF = σX.2 16 1 ∧ ∀ j, RF j = (m_c σM).1 15 j) ∨ (XF = o_wp (σX.2 16 1) C (iI P) ∧ ∀ j, RF j = if j = C then iI P else (m_c σM).1 15 j)) : r_now (x_c sX) (m_c sM) := by
  obtain ⟨h1, h2, h3, h4, h5, h6, h7, h8⟩ := id hN
  obtain ⟨_, ⟨x0, x1, x2, x3, x4, x5, x6⟩, xd⟩ := eX
  obtain ⟨_, ⟨z1, z2⟩, zpb, z14, z15, zd⟩ := eM
  have hc : ∀ c j, m_scr c j = false → (m_c sM).1 c j = sM.1 c j := fun c j h => n_core_1 (σ := sM) rfl h |>.symm
  have hc2 : ∀ c j, m_scr c j = false → (m_c sM).2 c j = sM.2 c j := fun c j h => n_core_2 (σ := sM) rfl h |>.symm
  have gc : ∀ c j, m_scr c j = false → σM.1 c j = (m_c σM).1 c j := fun c j h => n_core_1 (σ := σM) rfl h
  have gc2 : ∀ c j, m_scr c j = false → σM.2 c j = (m_c σM).2 c j := fun c j h => n_core_2 (σ := σM) rfl h
  have ac : ∀ c j, x_scr c j = false → (x_c sX).1 c j = sX.1 c j := fun c j h => n_core_1 (σ := sX) rfl h |>.symm
  have ac2 : ∀ c j, x_scr c j = false → (x_c sX).2 c j = sX.2 c j := fun c j h => n_core_2 (σ := sX) rfl h |>.symm
  have bc : ∀ c j, x_scr c j = false → σX.1 c j = x.1 c j := fun c j h => n_core_1 hx h
  have bc2 : ∀ c j, x_scr c j = false → σX.2 c j = x.2 c j := fun c j h => n_core_2 hx h
  have m0 : ∀ j, m_scr 0 j = false → ¬ j = 59 → (m_c sM).1 0 j = (m_c σM).1 0 j := fun j h h2 => by
    rw [hc 0 j h, z1, if_neg h2, gc 0 j h]
  have e21 : vI (m_c sM) 0 21 = n := by
    unfold vI
    rw [m0 21 rfl (by decide)]
    exact hn
  have e22 : vI (m_c sM) 0 22 = k := by
    unfold vI
    rw [m0 22 rfl (by decide)]
    exact hk22
  rw [hn] at h2 h8
  rw [hk22] at h1 h8
  have hYr : 0 ≤ (if Y + 1 < k then (Y : Int) + 1 else 0) ∧ (if Y + 1 < k then (Y : Int) + 1 else 0) < max (k : Int) 1 := by
    split <;> omega
  have hTr : r_T k TF := by
    rcases hT with ⟨_, e⟩ | ⟨_, e⟩
    · rw [e]
      exact h1.1
    · rw [e]
      intro s hs
      unfold n_up
      by_cases q : s = H
      · rw [if_pos q]
        exact hYr
      · rw [if_neg q]
        exact h1.1 s hs
  have e14 : ∀ s, s < 4 → ((m_c sM).1 14 s).toInt = TF s := fun s hs => by
    have := hTr s hs
    rw [hc 14 s rfl, z14 s hs, iI_to (by omega)]
  have hTX : TX = iI (n_e4 TF) := by
    rcases hT with ⟨e1, e⟩ | ⟨e1, e⟩
    · rw [e1, e, bc 16 0 rfl]
      exact h1.2
    · rw [e1, e]
  have hRX : r_R n RF XF := by
    rcases hRR with ⟨e1, e⟩ | ⟨e1, e⟩
    · rw [e1, bc2 16 1 rfl]
      exact h2.cg (fun s hs => (e s).symm)
    · rw [e1, bc2 16 1 rfl, iI_nat P |>.symm]
      intro j hj
      rw [e j, o_pl_wp hC hj (by omega)]
      by_cases q : j = C
      · rw [if_pos q, if_pos q, iI_nat, iI_to (by omega)]
        exact ⟨rfl, by omega, by omega⟩
      · rw [if_neg q, if_neg q]
        exact h2 j hj
  unfold r_now
  rw [e21, e22]
  have e59 : (m_c sM).1 0 59 = iI ((d : Int) + 1) := by
    rw [hc 0 59 rfl, z1, if_pos rfl]
  refine ⟨⟨hTr.cg (fun s hs => (e14 s hs).symm), ?_⟩, ?_, ?_, ⟨?_, ?_⟩, ⟨?_, ?_⟩, ⟨?_, ?_⟩, ⟨?_, ?_⟩, fun i hi => ?_⟩
  · rw [ac 16 0 rfl, x0, hTX]
    congr 1
    exact n_e4c (fun s hs => (e14 s hs).symm)
  · rw [ac2 16 1 rfl, x1]
    exact hRX.cg (fun s hs => by rw [hc 15 s rfl, z15 s hs])
  · rw [ac2 16 2 rfl, hc2 0 60 rfl, x2, z2, if_pos rfl]
  · rw [ac 16 3 rfl, x3, bc 16 3 rfl, m0 26 rfl (by decide)]
    exact h4.1
  · rw [m0 26 rfl (by decide)]
    exact h4.2
  · rw [ac 16 4 rfl, x4, bc 16 4 rfl, m0 27 rfl (by decide)]
    exact h5.1
  · rw [m0 27 rfl (by decide)]
    exact h5.2
  · rw [ac 16 5 rfl, x5, bc 16 5 rfl, m0 23 rfl (by decide)]
    exact h6.1
  · rw [m0 23 rfl (by decide)]
    exact h6.2
  · rw [ac 16 6 rfl, x6, e59]
  · rw [e59, iI_to (by omega)]
    omega
  · rw [e59, iI_to (by omega)] at hi
    obtain ⟨⟨x17, x18, x19⟩, x20, x21, x22⟩ := xd i
    obtain ⟨p38, p40, p39⟩ := zpb i
    obtain ⟨p35, p36, p37⟩ := zd i
    unfold r_dy
    show ((x_c sX).1 17 i = (m_c sM).1 35 i ∧ _) ∧ ((x_c sX).1 18 i = (m_c sM).1 36 i ∧ _) ∧ ((x_c sX).1 19 i = (m_c sM).1 37 i ∧ _) ∧ (_ ∧ _ ∧ (x_c sX).1 20 i = _) ∧ r_R n (fun j => (m_c sM).1 39 (16 * i + j)) ((x_c sX).2 21 i) ∧ (x_c sX).2 22 i = (m_c sM).2 38 i
    rw [ac 17 i rfl, ac 18 i rfl, ac 19 i rfl, ac 20 i rfl, ac2 21 i rfl, ac2 22 i rfl, hc 35 i rfl, hc 36 i rfl, hc 37 i rfl, hc 40 i rfl, hc2 38 i rfl, x17, x18, x19, x20, x21, x22, p35, p36, p37, p38, p40]
    have e39 : ∀ j, j < 16 → (m_c sM).1 39 (16 * i + j) = if i = d then σM.1 15 j else σM.1 39 (16 * i + j) := fun j hj => by
      rw [hc 39 _ rfl, p39 j hj]
    by_cases e : i = d
    · subst e
      simp only [if_true] at e39 ⊢
      have hp4 := n_p4r (h1.1.r4 (by omega))
      rw [iI_to (z := (P : Int)) (by omega), iI_to (z := (came : Int)) (by omega), iI_to (z := ct) (by omega), iI_to (z := n_p4 _) (by omega)]
      have h4d := h1.1.r4 (show (k : Int) ≤ 4 by omega)
      refine ⟨⟨trivial, by omega, by omega⟩, ⟨trivial, by omega, by omega⟩, ⟨trivial, hct.1, hct.2⟩, ⟨h1.1.cg (fun s hs => (n_p4d h4d hs).symm), ⟨hp4.1, by omega⟩, ?_⟩, ?_, ?_⟩
      · rw [bc 16 0 rfl]
        exact h1.2.trans (congrArg iI (n_e4c (fun s hs => (n_p4d h4d hs).symm)))
      · rw [bc2 16 1 rfl]
        exact h2.cg (fun s hs => by rw [e39 s hs, gc 15 s rfl])
      · rw [bc2 16 2 rfl, gc2 0 60 rfl]
        exact h3
    · simp only [if_neg e] at e39 ⊢
      obtain ⟨d1, d2, d3, d4, d5, d6⟩ := h8 i (by
        show (i : Int) < vI (m_c σM) 0 59
        omega)
      rw [bc 17 i rfl, bc 18 i rfl, bc 19 i rfl, bc 20 i rfl, bc2 21 i rfl, bc2 22 i rfl, gc 35 i rfl, gc 36 i rfl, gc 37 i rfl, gc 40 i rfl, gc2 38 i rfl]
      exact ⟨d1, d2, d3, d4, d5.cg (fun s hs => by rw [e39 s hs, gc 39 _ rfl]), d6⟩
set_option maxRecDepth 20000 in
theorem q_s24 : g_s24 z_Inv := by
  intro σX σM hI
  obtain ⟨x, hx, hR⟩ := z_openX hI
  obtain ⟨hTap, hLak, hNow, hImg, hShf, hSee, hLrn, hLaw, hVal⟩ := id hR
  obtain ⟨l1, l2, l3, l4, l5, l6⟩ := id hLak
  obtain ⟨h1, h2, h3, h4, h5, h6, h7, h8⟩ := id hNow
  obtain ⟨n, hk⟩ := hR.mk
  have b1 := l1.2
  have b2 := l2.2
  have b7 : 0 ≤ vI (m_c σM) 0 59 ∧ vI (m_c σM) 0 59 ≤ 40 := h7.2
  have k1 := hk.1
  have hn6 := hk.2.1
  have f2 : k_rd σM 0 21 = iI (vI (m_c σM) 0 21) := n_core_I rfl rfl
  have f59 : k_rd σM 0 59 = iI (vI (m_c σM) 0 59) := n_core_I rfl rfl
  have f16 := n_rX hx rfl h7.1
  by_cases c0 : 0 < vI (m_c σM) 0 21
  rotate_left
  · unfold f_X11_day f_X12_day
    simp only [iI_lit]
    rw [n_lk hx (n_vI l1.1) l1.2, n_bd, n_ib, if_neg c0, f2, n_ieq (by omega) (by omega), if_pos (by omega)]
    exact ⟨_, _, _, rfl, rfl, hI⟩
  by_cases c1 : vI (m_c σM) 0 59 < 40
  rotate_left
  · unfold f_X11_day f_X12_day
    simp only [iI_lit]
    rw [n_lk hx (n_vI l1.1) l1.2, n_bd, n_ib, if_pos c0, f2, n_ieq (by omega) (by omega), if_neg (by omega), f16, f59, n_ilt (by omega) (by omega), if_neg c1, n_ieq (by omega) (by omega), if_pos (by omega)]
    exact ⟨_, _, _, rfl, rfl, hI⟩
  have hW0 := (l4 c0).2.2
  rw [k1, Int.toNat_natCast] at hW0
  have hk1 := (l4 c0).2.1
  obtain ⟨k, hk22⟩ := Int.eq_ofNat_of_zero_le b2.1
  obtain ⟨d, hd⟩ := Int.eq_ofNat_of_zero_le b7.1
  have hsr : 0 ≤ m_sW (m_c σM) n ∧ m_sW (m_c σM) n ≤ n * 9 := n_sum_r (f := fun p => vI (m_c σM) 13 (4 * p)) (b := 9) (n := n) (fun p hp => (hk.2.2.2.2 p hp).1.1)
  obtain ⟨W, hW⟩ := Int.eq_ofNat_of_zero_le hsr.1
  have eD : σX.2 16 2 = σM.2 0 60 := by
    rw [show σX.2 16 2 = x.2 16 2 from n_core_2 hx rfl, h3]
    exact (n_core_2 (σ := σM) rfl rfl).symm
  obtain ⟨r, hrW, hr⟩ := n_drw (n_nx (σM.2 0 60)) (W := W) (by omega)
  obtain ⟨r2, hr2b, hr2⟩ := n_drw (n_nx (n_nx (σM.2 0 60))) (W := 100) (by omega)
  obtain ⟨P, hP, hP1, hP2⟩ := n_sWx (m := m_c σM) (r := (r : Int)) (by omega) n (by omega)
  have hh := hk.hd hP (vI (m_c σM) 0 27)
  have hs := hk.sn hP (vI (m_c σM) 0 26)
  obtain ⟨H, hH⟩ := Int.eq_ofNat_of_zero_le hh.1
  obtain ⟨N, hN⟩ := Int.eq_ofNat_of_zero_le hs.1
  have hYr : 0 ≤ ((m_c σM).1 14 H).toInt ∧ ((m_c σM).1 14 H).toInt < max (vI (m_c σM) 0 22) 1 := h1.1 H (by omega)
  obtain ⟨Y, hY⟩ := Int.eq_ofNat_of_zero_le hYr.1
  obtain ⟨came, hcame⟩ : ∃ came : Nat, came = if Y = 0 then 0 else if (r2 : Int) < vI (m_c σM) 0 23 then 0 else Y := ⟨_, rfl⟩
  have hcr : came < 4 := by
    rw [hcame]
    split
    · omega
    · split <;> omega
  obtain ⟨ct, hct⟩ : ∃ ct : Int, ct = if (m_c σM).1 15 (4 * N + came) = iI P then vI x 14 P else 0 := ⟨_, rfl⟩
  have hctr : 0 ≤ ct ∧ ct ≤ 999 := by
    have := (hk.2.2.2.2 P hP).2.2
    have : 0 ≤ vI x 14 P ∧ vI x 14 P ≤ 999 := this
    rw [hct]
    split <;> omega
  obtain ⟨⟨rX, sX⟩, eX, hrX, heX⟩ := n_dayX hx hR hk hk22 (by omega) hd (by omega) hW (by omega) (by rw [eD]; exact hr) hrW hP hP1 hP2 hH hN hY (by rw [eD]; exact hr2) hr2b hcame hct rfl rfl rfl
  obtain ⟨⟨rM, sM⟩, eM, hrM, heM⟩ := n_dayM (σ := σM) rfl hR hk hk22 (by omega) (by omega) hd (by omega) hW (by omega) hr hrW hP hP1 hP2 hH hN hY hr2 hr2b hcame hct rfl rfl rfl rfl
  have hrX : rX = iI ct := hrX
  have hrM : rM = iI ct := hrM
  rw [eD] at heX
  have hNowF := n_nowD (sX := sX) (sM := sM) (Y := Y) (H := H) (C := 4 * N + came) hx hNow k1 hn6 hk22 (by omega) hd (by omega) hP hcr hctr (by omega) (by omega) heX heM (by
    by_cases c : (m_c σM).1 15 (4 * N + came) = iI (P : Int) ∨ (m_c σM).1 0 29 = 0
    · rw [if_pos c, if_pos c]
      exact Or.inl ⟨rfl, rfl⟩
    · rw [if_neg c, if_neg c]
      exact Or.inr ⟨rfl, rfl⟩) (by
    by_cases c : (m_c σM).1 15 (4 * N + came) = iI (P : Int) ∨ (m_c σM).1 0 28 = 0
    · rw [if_pos c]
      refine Or.inl ⟨rfl, fun j => ?_⟩
      exact if_neg (fun q => c.elim q.2.1 q.2.2)
    · rw [if_neg c]
      refine Or.inr ⟨rfl, fun j => ?_⟩
      by_cases e : j = 4 * N + came
      · rw [if_pos e]
        exact if_pos ⟨e, fun q => c (Or.inl q), fun q => c (Or.inr q)⟩
      · rw [if_neg e]
        exact if_neg (fun q => e q.1))
  rw [hrX] at eX
  rw [hrM] at eM
  have hFX := heX.1
  obtain ⟨hFM, ⟨z1, z2⟩, _⟩ := heM
  obtain ⟨tX, hX⟩ : ∃ t, sX = n_mx i_DX σX t := ⟨sX, hFX.mx⟩
  obtain ⟨tM, hM⟩ : ∃ t, sM = k_wr (k_wl (n_mx i_DM σM t) 0 60 _) 0 59 _ := ⟨sM, n_mx0 (S := i_DM) rfl hFM z1 z2⟩
  clear heX hFX hFM z1 z2
  refine ⟨iI ct, sX, sM, eX, eM, ?_⟩
  clear eX eM
  generalize (if Y = 0 then n_nx (σM.2 0 60) else n_nx (n_nx (σM.2 0 60))) = DD at hM
  subst hX
  subst hM
  subst hx
  exact z_close rfl rfl ⟨hTap, hLak, hNowF, hImg, hShf, hSee, hLrn, hLaw, hVal⟩
