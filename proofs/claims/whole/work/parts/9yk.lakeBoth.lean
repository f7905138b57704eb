/-! a lake's text on both sides -/
theorem y_lk {N : Nat} {b : Nat → Int} {σ : k_St} (hb : t_by b N) (hN : N ≤ 160) (h2 : σ.1 0 2 = iI (N : Int)) (h1 : ∀ j, j < N → σ.1 1 j = iI (b j)) : k_OK (f_X12_readLake σ) (fun r => y_H σ r.2 ∧ match l_lake b N with
    | .inl e => r.1 = iI (e : Int)
    | .inr K => r.1 = iI (-1) ∧ y_Q r.2 K) := by
  refine ok_mono (y_readLake hb hN h2 h1) ?_
  rintro r ⟨hH, hh⟩
  refine ⟨hH, ?_⟩
  unfold l_lake
  cases hq : l_cls b N 200 0 (0, false, (fun _ => 0), l_us 1) with
  | inl e =>
    rw [hq] at hh
    exact hh
  | inr K =>
    rw [hq] at hh
    exact hh
theorem n_lakeF {σX σM : k_St} (hI : z_Inv σX σM) : ∃ (e : Int) (sX sM : k_St), f_X2_faultOf σX = some (iI e, sX) ∧ f_X12_readLake σM = some (iI e, sM) ∧ (-1 ≤ e ∧ e ≤ 160) ∧ z_Inv sX sM ∧ (e = -1 → ∃ K : l_K, (2 ≤ K.1 ∧ 0 < n_sum (fun p => K.2.2.1 (4 * p)) K.1) ∧ l_OK K ∧ w_Q sX K ∧ y_Q sM K) := by
  obtain ⟨x, hx, hR⟩ := z_openX hI
  obtain ⟨N, b, hN, hb, -, -, t1, t2, t3, t4⟩ := n_tap hx hR.1
  obtain ⟨⟨rX, sX⟩, eX, ⟨fX1, fX2⟩, hX⟩ := u_lake hb hN t1 t2
  obtain ⟨⟨rM, sM⟩, eM, fM, hM⟩ := y_lk hb hN t3 t4
  have hl := l_lake_p hb hN
  have hc1 : x_c sX = x := by
    refine (n_core_fr (fun c k hc => ⟨?_, ?_⟩)).trans hx
    · refine fX2 c k (fun q => ?_)
      rcases q with rfl | rfl | rfl | rfl <;> exact Bool.noConfusion (show true = false from hc)
    · rw [show sX.2 = σX.2 from fX1]
  have hc2 : m_c sM = m_c σM := by
    refine n_core_fr (fun c k hc => ⟨?_, ?_⟩)
    · refine fM.2 c k (fun q => ?_) (fun q => ?_)
      · obtain ⟨rfl, rfl | rfl | rfl⟩ := q <;> exact Bool.noConfusion (show true = false from hc)
      · rcases q with rfl | rfl <;> exact Bool.noConfusion (show true = false from hc)
    · rw [show sM.2 = σM.2 from fM.1]
  have hI' : z_Inv sX sM := z_close hc1 hc2 hR
  cases hq : l_lake b N with
  | inl e =>
    rw [hq] at hX hM
    have hX : rX = iI (e : Int) ∧ e ≤ N := hX
    have hM : rM = iI (e : Int) := hM
    refine ⟨(e : Int), sX, sM, by rw [eX, hX.1], by rw [eM, hM], by omega, hI', fun z => absurd z (by omega)⟩
  | inr K =>
    rw [hq] at hX hM hl
    obtain ⟨hX, hQX⟩ := hX
    obtain ⟨hM, hQM⟩ := hM
    have hX : rX = iI (-1) := hX
    have hM : rM = iI (-1) := hM
    exact ⟨-1, sX, sM, by rw [eX, hX], by rw [eM, hM], by omega, hI', fun _ => ⟨K, hl.1, hl.2, hQX, hQM⟩⟩
theorem n_lakeM {σM : k_St} {K : l_K} (hK6 : K.1 ≤ 6) (hQ : y_Q σM K) : ∃ sG, f_X12_takeLake (k_wr σM 0 2 (iI 0)) = some (iI (K.1 : Int), sG) ∧ n_fM (m_c σM) (m_c sG) K := by
  obtain ⟨⟨r, sG⟩, eG, hr, z, hz, hT2, h15⟩ := y_takeLake (s := k_wr σM 0 2 (iI 0)) (K := K) hQ
  have hr : r = iI (K.1 : Int) := hr
  have hz : sG = _ := hz
  subst hr hz
  refine ⟨_, eG, ?_⟩
  obtain ⟨⟨⟨⟨h1, h2⟩, h3, h4, h5⟩, h6⟩, h7⟩ := hT2
  refine ⟨h2 0 2 (by omega) (by omega), ⟨h3, h4, h5, fun k hk => ?_⟩, h7, h15, ⟨rfl, rfl, rfl, rfl, rfl, rfl, rfl⟩, ?_, h2 0 13 (by omega) (by omega), h2 0 30 (by omega) (by omega), fun c k c1 c2 => ?_⟩
  · have h9 : z.1 13 k = σM.1 11 k := h6 k (by omega)
    exact h9.trans (hQ.2.1 k hk)
  · show z.2 0 60 = σM.2 0 60
    rw [h1]
    rfl
  · show (if m_scr c k = true then 0 else (k_wr (k_wr (k_wr (k_wr (k_wr (k_wr (k_wr z 0 26 (iI 0)) 0 27 (iI 0)) 0 28 (iI 0)) 0 29 (iI 0)) 0 52 (iI 0)) 0 59 (iI 0)) 0 70 (iI 0)).1 c k) = if m_scr c k = true then 0 else σM.1 c k
    rw [wr_c (by omega), wr_c (by omega), wr_c (by omega), wr_c (by omega), wr_c (by omega), wr_c (by omega), wr_c (by omega), h2 c k (by omega) (by omega), wr_c (by omega)]
theorem n_lakeX {σX x m : k_St} {K : l_K} (hx : x_c σX = x) (hlaw : r_law x m) (hK : l_OK K) (hQ : w_Q σX K) : ∃ sF, (k_nm (k_wr σX 1 1 (iI 0)) fun s24 =>
      k_bd (f_X1_takeFrom s24) fun s35 =>
      k_bd (f_X10_reckonFor s35) fun s46 =>
      k_bd (f_X11_forgetOtherLake s46) fun s50 =>
      some ((k_rd s50 12 0), s50)) = some (iI (K.1 : Int), sF) ∧ n_fX x (x_c sF) K (vI m 0 30) := by
  obtain ⟨s2, e2, ⟨f2a, f2b⟩, t0, t1, t2, t3⟩ := u_takeFrom (s := k_wr σX 1 1 (iI 0)) hK hQ
  have hw30 := hlaw.2.1
  have hw13 := hlaw.1.2
  have hxc : ∀ c k, x_scr c k = false → σX.1 c k = x.1 c k := fun c k h => n_core_1 hx h
  have h75 : s2.1 7 5 = iI (vI m 0 30) := by
    rw [f2b 7 5 (by omega), show (k_wr σX 1 1 (iI 0)).1 7 5 = x.1 7 5 from hxc 7 5 rfl, hw30.1]
    exact iI_of _
  generalize ha : vI m 0 30 = a at *
  obtain ⟨s3, e3, f3, fv⟩ := u_reckon (σ := s2) (n := K.1) (a := a) (Lf := l_Lf K) (W := l_W K x a) t0 hK.1 h75 (by omega) (fun p hp => ⟨t3 (4 * p + 3) (by omega), rfl, t3 (4 * p + 1) (by omega), t3 (4 * p + 2) (by omega), t3 (4 * p) (by omega)⟩) (fun p hp => l_Lf_b hK hp) (fun q p hp => if_pos q) (fun q => by
    obtain ⟨r1, r2⟩ := hlaw.2.2 a.toNat (by omega)
    obtain ⟨-, -, r3⟩ := r2 (fun _ => 0) (fun _ _ => ⟨(by decide : (0 : Int) ≤ 0), (by decide : (0 : Int) ≤ 99)⟩)
    obtain ⟨g1, cs, g2, g3⟩ := n_ev_ok r3
    refine ⟨(vI x 10 a.toNat).toNat, n_cut (fun j => vI x 9 (160 * a.toNat + j)) (vI x 10 a.toNat).toNat, cs, ?_, by omega, g1, fun j hj => ?_, g2, fun p hp => ?_⟩
    · rw [f2b 10 _ (by omega), show (k_wr σX 1 1 (iI 0)).1 10 a.toNat = x.1 10 a.toNat from hxc 10 _ rfl, show (((vI x 10 a.toNat).toNat : Nat) : Int) = vI x 10 a.toNat by omega]
      exact iI_of _
    · rw [f2b 9 _ (by omega), show (k_wr σX 1 1 (iI 0)).1 9 (160 * a.toNat + j) = x.1 9 (160 * a.toNat + j) from hxc 9 _ rfl, n_cut_at hj]
      exact iI_of _
    · obtain ⟨-, r4, r5⟩ := r2 (l_Lf K p) (l_Lf_b hK hp)
      rw [g3] at r4 r5
      unfold l_W
      rw [if_neg (by omega), g3]
      exact ⟨rfl, r4, r5⟩)
  have eL : f_X2_toldLost s3 = some (iI (K.2.2.2 1)) := by
    unfold f_X2_toldLost
    simp only [iI_lit]
    rw [n_gix (by decide) (by decide)]
    exact congrArg some ((f3.2 6 1 (by omega) (by omega)).trans ((f2b 6 1 (by omega)).trans (hQ.2.2.2 1 (by decide))))
  have eS : f_X6_startLake 16 (iI (K.2.2.2 1)) s3 = some (k_wr (k_wr (k_wr (k_wr (k_wl (k_wr s3 16 0 (iI 0)) 16 1 (iL 0)) 16 3 (iI 0)) 16 4 (iI 0)) 16 5 (iI (K.2.2.2 1))) 16 6 (iI 0)) := by
    unfold f_X6_startLake
    simp only [iI_lit, iL_lit]
    rfl
  obtain ⟨s5, e5, ⟨f5a, f5b⟩, f5c⟩ := u_clear (s := k_wr (k_wr (k_wr (k_wr (k_wl (k_wr s3 16 0 (iI 0)) 16 1 (iL 0)) 16 3 (iI 0)) 16 4 (iI 0)) 16 5 (iI (K.2.2.2 1))) 16 6 (iI 0))
  have eF : f_X11_forgetOtherLake s3 = some (k_wr (k_wr (k_wr (k_wr s5 0 13 (iI 0)) 0 14 (iI 0)) 0 15 (iI 0)) 0 16 (iI 0)) := by
    unfold f_X11_forgetOtherLake
    simp only [iI_lit]
    rw [eL, n_bd, eS, n_bd, e5, n_bd, n_nm, n_nm, n_nm, n_nm]
  have hcell : ∀ c k, ¬ (c = 0 ∨ c = 1 ∨ c = 12 ∨ c = 13 ∨ c = 14 ∨ c = 15 ∨ c = 16 ∨ c = 43) → ¬ (c = 7 ∧ (k = 1 ∨ k = 2 ∨ k = 3 ∨ k = 9 ∨ k = 10)) → ¬ (c = 8 ∨ c = 11) → s5.1 c k = σX.1 c k := fun c k q1 q2 q3 => by
    rw [f5a c k (by omega), wr_c (by omega), wr_c (by omega), wr_c (by omega), wr_c (by omega), show ∀ (s : k_St) (x : Int64), (k_wl s 16 1 x).1 c k = s.1 c k from fun _ _ => rfl, wr_c (by omega), f3.2 c k (by omega) (by omega), f2b c k (by omega), wr_c (by omega)]
  have h3 : ∀ c k, c = 12 ∨ c = 13 ∨ c = 1 → s5.1 c k = s2.1 c k := fun c k q => by
    rw [f5a c k (by omega), wr_c (by omega), wr_c (by omega), wr_c (by omega), wr_c (by omega), show ∀ (s : k_St) (x : Int64), (k_wl s 16 1 x).1 c k = s.1 c k from fun _ _ => rfl, wr_c (by omega), f3.2 c k (by omega) (by omega)]
  have h4 : ∀ c k, c = 14 ∨ c = 15 → s5.1 c k = s3.1 c k := fun c k q => by
    rw [f5a c k (by omega), wr_c (by omega), wr_c (by omega), wr_c (by omega), wr_c (by omega), show ∀ (s : k_St) (x : Int64), (k_wl s 16 1 x).1 c k = s.1 c k from fun _ _ => rfl, wr_c (by omega)]
  have e12 : k_rd (k_wr (k_wr (k_wr (k_wr s5 0 13 (iI 0)) 0 14 (iI 0)) 0 15 (iI 0)) 0 16 (iI 0)) 12 0 = iI (K.1 : Int) := (h3 12 0 (by omega)).trans t0
  refine ⟨_, by rw [n_nm, e2, n_bd, e3, n_bd, eF, n_bd, e12], ?_⟩
  refine ⟨(h3 1 1 (by omega)).trans (f2b 1 1 (by omega)), ⟨(h3 12 0 (by omega)).trans t0, (h3 12 1 (by omega)).trans t1, (h3 12 2 (by omega)).trans t2, fun k hk => (h3 13 k (by omega)).trans (t3 k hk)⟩, fun p hp => ⟨(h4 14 p (by omega)).trans (fv p hp).1, (h4 15 p (by omega)).trans (fv p hp).2⟩, ⟨f5a 16 0 (by decide), f5b 16 1 (by decide), ?_, f5a 16 3 (by decide), f5a 16 4 (by decide), f5a 16 5 (by decide), f5a 16 6 (by decide)⟩, f5c, ⟨rfl, rfl, rfl, rfl⟩, ⟨?_, ?_, fun k => ⟨?_, ?_⟩⟩⟩
  · refine (f5b 16 2 (by decide)).trans ?_
    show s3.2 16 2 = x.2 16 2
    rw [f3.1, f2a]
    show σX.2 16 2 = x.2 16 2
    exact n_core_2 hx rfl
  · exact (hcell 7 4 (by omega) (by omega) (by omega)).trans (hxc 7 4 rfl)
  · exact (hcell 7 5 (by omega) (by omega) (by omega)).trans (hxc 7 5 rfl)
  · exact (hcell 9 k (by omega) (by omega) (by omega)).trans (hxc 9 k rfl)
  · exact (hcell 10 k (by omega) (by omega) (by omega)).trans (hxc 10 k rfl)
