/-! crossed, whole -/
theorem n_partsM {s m : k_St} {n p a sh : Nat} {V f : Nat → Int} (ha : k_nM a = 4) (hs : m_c s = m) (hk : n_mk m n V) (hp : p < n) (hsh : sh < 4) (hf : ∀ t, t < 4 → s.1 a t = iI (f t) ∧ 0 ≤ f t ∧ f t < 4) : f_X12_partsThere a (iI sh) (iI p) s = some (iI (n_hv (fun j => m.1 23 (16 * sh + j)) (n_sn m (vI m 0 26) p) (f (n_hd m (vI m 0 27) p).toNat) (vI m 0 23) p)) := by
  have hn6 := hk.2.1
  have hg := hk.2.2.1
  have hh := hk.hd hp (vI m 0 27)
  have hN := hk.sn hp (vI m 0 26)
  obtain ⟨H, hH⟩ := Int.eq_ofNat_of_zero_le hh.1
  obtain ⟨N, hNN⟩ := Int.eq_ofNat_of_zero_le hN.1
  have hfH := hf H (by omega)
  obtain ⟨Y, hY⟩ := Int.eq_ofNat_of_zero_le hfH.2.1
  have e23 : k_rd s 0 23 = iI (vI m 0 23) := n_core_I hs rfl
  have er : ∀ j, k_rd s 23 j = iI ((m.1 23 j).toInt) := fun j => (n_core_1 hs rfl : s.1 23 j = m.1 23 j).trans (iI_of _)
  have rr := fun j => iI_rg (m.1 23 j)
  unfold f_X12_partsThere
  rw [n_heardM (by omega), n_bd, hs, hH, ha, n_gix (by omega) (by omega), iI_cl (by omega), Int.toNat_natCast, show k_rd s a H = _ from hfH.1, hY, n_nm, n_seenM (by omega), n_bd, hs, hNN]
  simp only [iI_lit, iI_mul, iI_add, n_nm, n_jn]
  rw [n_ieq (by omega) (by omega)]
  have e1 : 16 * (sh : Int) + 4 * (N : Int) + (Y : Int) = ((16 * sh + (4 * N + Y) : Nat) : Int) := by omega
  have e2 : 16 * (sh : Int) + 4 * (N : Int) = ((16 * sh + 4 * N : Nat) : Int) := by omega
  rw [e1, e2]
  have r1 := rr (16 * sh + (4 * N + Y))
  have r2 := rr (16 * sh + 4 * N)
  simp (disch := omega) only [n_gix, iI_cl, Int.toNat_natCast, er, e23, n_ieq, iI_sub, iI_add]
  unfold n_hv n_t0
  rw [show (4 * (N : Int) + (Y : Int)).toNat = 4 * N + Y by omega, show (4 * (N : Int)).toNat = 4 * N by omega]
  by_cases c0 : (Y : Int) = 0
  · rw [if_pos c0]
    simp only [if_pos c0]
    by_cases c1 : (m.1 23 (16 * sh + (4 * N + Y))).toInt = p
    · rw [if_pos c1, if_pos c1]
      by_cases c2 : (m.1 23 (16 * sh + 4 * N)).toInt = p
      · rw [if_pos c2, if_pos c2]
      · rw [if_neg c2, if_neg c2]
    · rw [if_neg c1, if_neg c1]
      by_cases c2 : (m.1 23 (16 * sh + 4 * N)).toInt = p
      · rw [if_pos c2, if_pos c2]
      · rw [if_neg c2, if_neg c2]
  · rw [if_neg c0]
    simp only [if_neg c0]
    by_cases c1 : (m.1 23 (16 * sh + (4 * N + Y))).toInt = p
    · rw [if_pos c1, if_pos c1]
      by_cases c2 : (m.1 23 (16 * sh + 4 * N)).toInt = p
      · rw [if_pos c2, if_pos c2]
      · rw [if_neg c2, if_neg c2]
    · rw [if_neg c1, if_neg c1]
      by_cases c2 : (m.1 23 (16 * sh + 4 * N)).toInt = p
      · rw [if_pos c2, if_pos c2]
      · rw [if_neg c2, if_neg c2]
theorem n_gainM {σX s σM x : k_St} {n a b c d : Nat} (hx : x_c σX = x) (hs : m_c s = m_c σM) (hR : r_all x (m_c σM)) (hk : n_mk (m_c σM) n (fun p => vI x 14 p)) (ha : a < 4) (hb : b < 4) (hc : c < 4) (hd : d < 4) (c1 : 0 ≤ n_Fi (m_c σM) (fun p => vI x 14 p) n a b) (c2 : 0 ≤ n_Fi (m_c σM) (fun p => vI x 14 p) n c d) : ∃ s', f_X12_gainOf (iI a) (iI b) (iI c) (iI d) s = some (iL (n_gx (m_c σM) (fun p => vI x 14 p) n a b c d), s') ∧ m_c s' = m_c σM := by
  have hn6 := hk.2.1
  obtain ⟨⟨t1, t2, t3⟩, t4⟩ := n_shT hx hR hk ha hb c1
  obtain ⟨⟨u1, u2, u3⟩, u4⟩ := n_shT hx hR hk hc hd c2
  have e22 : ∀ w j, m_c w = m_c σM → k_rd w 22 j = iI (vI (m_c σM) 22 j) := fun w j h => n_core_I h rfl
  unfold f_X12_gainOf n_gx
  rw [if_pos ⟨c1, c2⟩, n_gix (by omega) (by omega), iI_cl (by omega), Int.toNat_natCast, e22 s a hs, show (4 : Int32) = iI 4 from rfl]
  obtain ⟨⟨v1, s1⟩, e1, hv1, hF1, hA1⟩ := n_spread (σ := s) (a := 29) rfl (z := vI (m_c σM) 22 a) (k := 4) (by omega) (by omega)
  have hA1 := hA1 t3
  have hF1 : n_Fr (fun c => c = 29) s s1 := hF1
  have hm1 : m_c s1 = m_c σM := (n_frM hF1 (fun c hc k => by rw [hc]; rfl)).trans hs
  rw [e1, n_b2, n_gix (by omega) (by omega), iI_cl (by omega), Int.toNat_natCast, e22 s1 c hm1]
  obtain ⟨⟨v2, s2⟩, e2, hv2, hF2, hA2⟩ := n_spread (σ := s1) (a := 30) rfl (z := vI (m_c σM) 22 c) (k := 4) (by omega) (by omega)
  have hA2 := hA2 u3
  have hF2 : n_Fr (fun c => c = 30) s1 s2 := hF2
  have hm2 : m_c s2 = m_c σM := (n_frM hF2 (fun c hc k => by rw [hc]; rfl)).trans hm1
  rw [e2, n_b2]
  simp only [iI_lit]
  unfold n_ga
  suffices h : k_OK (k_loop (fun (g36 : Int64 × Int32 × k_St → Option (Int64 × k_St)) (z36 : Int64 × Int32 × k_St) => match z36 with
    | (v5_36, v7_36, s_36) =>
      k_if ((k_rd s_36 0 21) ≤ v7_36)
        (some (v5_36, s_36))
        (k_bd (f_X12_partsThere 29 (iI (b : Int)) v7_36 s_36) fun v53 =>
        k_bd (f_X12_partsThere 30 (iI (d : Int)) v7_36 s_36) fun v67 =>
        k_b2 (f_X12_worthAt v7_36 s_36) fun v75 s75 =>
        k_bd (f_X12_of v7_36 (iI 0) s75) fun v86 =>
        k_nm ((v5_36 + ((v86.toInt64 * v53.toInt64) * ((v67 * (v75 / iI 2)) + ((iI 100 - v67) * v75)).toInt64))) fun y113 =>
        k_nm (v7_36 + iI 1) fun y115 =>
        g36 (y113, y115, s75))) 100000 ((0 : Int64), iI 0, s2)) (fun r => r.1 = iL (n_sum (fun p => n_gp (m_c σM) (fun p => vI x 14 p) a b c d p * vI (m_c σM) 13 (4 * p)) n) ∧ m_c r.2 = m_c σM) by
    obtain ⟨⟨r, s3⟩, e3, hr, hm3⟩ := h
    have hr : r = _ := hr
    rw [hr] at e3
    exact ⟨s3, e3, hm3⟩
  refine ok_for n (fun p (y : Int64 × Int32 × k_St) => y.1 = iL (n_sum (fun p => n_gp (m_c σM) (fun p => vI x 14 p) a b c d p * vI (m_c σM) 13 (4 * p)) p) ∧ y.2.1 = iI p ∧ m_c y.2.2 = m_c σM ∧ (∀ t, t < 4 → y.2.2.1 29 t = iI (n_d4 (vI (m_c σM) 22 a) t)) ∧ ∀ t, t < 4 → y.2.2.1 30 t = iI (n_d4 (vI (m_c σM) 22 c) t)) ?_ (by omega) (j := 0) ⟨rfl, rfl, hm2, fun t ht => by
    show s2.1 29 t = _
    rw [(hF2 29 (by decide)).1]
    exact hA1 t ht, hA2⟩ (by omega)
  rintro g p ⟨w5, w7, s3⟩ ⟨q1, q2, q3, q4, q5⟩ hp hg
  have q1 : w5 = iL (n_sum (fun p => n_gp (m_c σM) (fun p => vI x 14 p) a b c d p * vI (m_c σM) 13 (4 * p)) p) := q1
  subst q1
  have q2 : w7 = iI p := q2
  subst q2
  have q3 : m_c s3 = m_c σM := q3
  have q4 : ∀ t, t < 4 → s3.1 29 t = iI (n_d4 (vI (m_c σM) 22 a) t) := q4
  have q5 : ∀ t, t < 4 → s3.1 30 t = iI (n_d4 (vI (m_c σM) 22 c) t) := q5
  show k_OK (k_if _ _ _) _
  rw [n_core_I q3 (c := 0) (k := 21) rfl, hk.1, n_ile (by omega) (by omega)]
  by_cases c3 : (n : Int) ≤ p
  · rw [if_pos c3, ok_some, show p = n by omega]
    exact ⟨rfl, q3⟩
  have hpn : p < n := by omega
  obtain ⟨⟨hw, _, _⟩, hVs, hV⟩ := hk.2.2.2.2 p hpn
  have hV : 0 ≤ vI x 14 p ∧ vI x 14 p ≤ 999 := hV
  have hh1 := n_hvr (R := fun j => (m_c σM).1 23 (16 * b + j)) (sn := n_sn (m_c σM) (vI (m_c σM) 0 26) p) (y := n_d4 (vI (m_c σM) 22 a) (n_hd (m_c σM) (vI (m_c σM) 0 27) p).toNat) (p := p) hk.2.2.1
  have hh2 := n_hvr (R := fun j => (m_c σM).1 23 (16 * d + j)) (sn := n_sn (m_c σM) (vI (m_c σM) 0 26) p) (y := n_d4 (vI (m_c σM) 22 c) (n_hd (m_c σM) (vI (m_c σM) 0 27) p).toNat) (p := p) hk.2.2.1
  obtain ⟨s4, e4, e5, hG⟩ := n_worthAt (σ := s3) (p := p) (v := vI x 14 p) (by omega) (by rw [q3]; exact hk.2.2.2.1) (by rw [q3]; exact hVs)
  have hm4 : m_c s4 = m_c σM := e5.trans q3
  have ew : f_X12_of (iI (p : Int)) (iI 0) s4 = some (iI (vI (m_c σM) 13 (4 * p))) := by
    rw [show iI 0 = iI ((0 : Nat) : Int) from rfl, n_of (by omega) (by omega)]
    exact congrArg some (n_core_I hm4 (c := 13) (k := 4 * p) rfl)
  have es : n_sum (fun p => n_gp (m_c σM) (fun p => vI x 14 p) a b c d p * vI (m_c σM) 13 (4 * p)) (p + 1) = n_sum (fun p => n_gp (m_c σM) (fun p => vI x 14 p) a b c d p * vI (m_c σM) 13 (4 * p)) p + n_gp (m_c σM) (fun p => vI x 14 p) a b c d p * vI (m_c σM) 13 (4 * p) := rfl
  have eg : n_gp (m_c σM) (fun p => vI x 14 p) a b c d p = n_hv (fun j => (m_c σM).1 23 (16 * b + j)) (n_sn (m_c σM) (vI (m_c σM) 0 26) p) (n_d4 (vI (m_c σM) 22 a) (n_hd (m_c σM) (vI (m_c σM) 0 27) p).toNat) (vI (m_c σM) 0 23) p * n_hv (fun j => (m_c σM).1 23 (16 * d + j)) (n_sn (m_c σM) (vI (m_c σM) 0 26) p) (n_d4 (vI (m_c σM) 22 c) (n_hd (m_c σM) (vI (m_c σM) 0 27) p).toNat) (vI (m_c σM) 0 23) p * (vI x 14 p / 2) + n_hv (fun j => (m_c σM).1 23 (16 * b + j)) (n_sn (m_c σM) (vI (m_c σM) 0 26) p) (n_d4 (vI (m_c σM) 22 a) (n_hd (m_c σM) (vI (m_c σM) 0 27) p).toNat) (vI (m_c σM) 0 23) p * (100 - n_hv (fun j => (m_c σM).1 23 (16 * d + j)) (n_sn (m_c σM) (vI (m_c σM) 0 26) p) (n_d4 (vI (m_c σM) 22 c) (n_hd (m_c σM) (vI (m_c σM) 0 27) p).toNat) (vI (m_c σM) 0 23) p) * vI x 14 p := rfl
  rw [if_neg c3, n_partsM rfl q3 hk hpn hb (fun t ht => ⟨q4 t ht, t2 t ht⟩), n_bd, n_partsM rfl q3 hk hpn hd (fun t ht => ⟨q5 t ht, u2 t ht⟩), n_bd, e4, n_b2, ew, n_bd]
  generalize n_hv (fun j => (m_c σM).1 23 (16 * b + j)) (n_sn (m_c σM) (vI (m_c σM) 0 26) p) (n_d4 (vI (m_c σM) 22 a) (n_hd (m_c σM) (vI (m_c σM) 0 27) p).toNat) (vI (m_c σM) 0 23) p = A at *
  generalize n_hv (fun j => (m_c σM).1 23 (16 * d + j)) (n_sn (m_c σM) (vI (m_c σM) 0 26) p) (n_d4 (vI (m_c σM) 22 c) (n_hd (m_c σM) (vI (m_c σM) 0 27) p).toNat) (vI (m_c σM) 0 23) p = B at *
  have r1 := n_mulr hh2 (show 0 ≤ vI x 14 p / 2 ∧ vI x 14 p / 2 ≤ 499 by omega)
  have r2 := n_mulr (show 0 ≤ 100 - B ∧ 100 - B ≤ 100 by omega) hV
  rw [iI_div2 (by omega) (by omega), Int.tdiv_eq_ediv_of_nonneg (by omega)]
  simp only [iI_mul, iI_sub, iI_add]
  rw [iI_l (by omega), iI_l (by omega), iI_l (by omega)]
  simp only [iL_mul, iL_add]
  rw [ok_nm, ok_nm]
  refine hg _ (by omega) ⟨?_, rfl, hm4, fun t ht => ?_, fun t ht => ?_⟩
  · show iL _ = iL _
    rw [es, eg]
    congr 2
    simp only [Int.mul_add, Int.add_mul]
    congr 1
    · ac_rfl
    · ac_rfl
  · show s4.1 29 t = _
    rw [(hG 29 (by decide)).1]
    exact q4 t ht
  · show s4.1 30 t = _
    rw [(hG 30 (by decide)).1]
    exact q5 t ht
set_option maxRecDepth 20000 in
theorem q_s36 : g_s36 z_Inv := by
  intro σX σM hI a0 a1 a2
  obtain ⟨u, hu, rfl⟩ := iI_ex a0
  obtain ⟨w, hw, rfl⟩ := iI_ex a1
  obtain ⟨z, hz, rfl⟩ := iI_ex a2
  obtain ⟨x, hx, hR⟩ := z_openX hI
  obtain ⟨hTap, hLak, hNow, hImg, hShf, hSee, hLrn, hLaw, hVal⟩ := id hR
  obtain ⟨l1, l2, l3, l4, l5, l6⟩ := id hLak
  obtain ⟨n, hk⟩ := hR.mk
  have b1 := l1.2
  have k1 := hk.1
  have hn6 := hk.2.1
  have f2 : k_rd σM 0 21 = iI (vI (m_c σM) 0 21) := n_core_I rfl rfl
  have hBX := fun z hz => n_isBoX (z := z) hx hR hk hz
  have hBM := fun z hz => n_isBoM (s := σM) (z := z) hx rfl hR hk hz
  have hS0 : ∀ a b, a < 4 → 0 ≤ n_Fi (m_c σM) (fun p => vI x 14 p) n a b → 0 < vI (m_c σM) 0 21 := fun a b ha h => by
    obtain ⟨c1, c2⟩ := (n_Fi_0 hk a b).mp h
    rcases (hShf a ha).1 with ⟨s1, s2⟩ | ⟨s1, s2, s3, s4⟩
    · exact absurd (show vI (m_c σM) 22 a = -1 by unfold vI; rw [s1]; rfl) c1
    · exact s1
  unfold f_X11_crossed f_X12_crossed f_X11_isPart
  rw [f2, hBX u hu, n_bd, hBM u hu, n_bd, hBX w hw, hBM w hw]
  simp (disch := omega) only [iI_lit, n_ieq, n_ib, n_bd, n_in, n_within, n_gdt n_isB]
  by_cases c1 : n_bo (n_Fi (m_c σM) (fun p => vI x 14 p) n) u
  rotate_left
  · rw [if_neg c1, if_neg c1]
    refine ⟨_, _, rfl, ?_, hI⟩
    split <;> rfl
  have c0 := hS0 (u / 10).toNat (u % 10).toNat (by have := c1.1; have := c1.2.1; omega) c1.2.2.2
  rw [if_pos c1, if_pos c1, if_neg (show ¬ vI (m_c σM) 0 21 = 0 by omega)]
  by_cases c2 : n_bo (n_Fi (m_c σM) (fun p => vI x 14 p) n) w
  rotate_left
  · rw [if_neg c2, if_neg c2]
    exact ⟨_, _, rfl, rfl, hI⟩
  rw [if_pos c2, if_pos c2]
  by_cases c3 : 0 ≤ z ∧ z ≤ 1
  rotate_left
  · rw [if_neg c3, if_neg c3]
    exact ⟨_, _, rfl, rfl, hI⟩
  rw [if_pos c3, if_pos c3]
  obtain ⟨u0, u1, u2, u3⟩ := c1
  obtain ⟨w0, w1, w2, w3⟩ := c2
  obtain ⟨a, ha⟩ := Int.eq_ofNat_of_zero_le (show 0 ≤ u / 10 by omega)
  obtain ⟨b, hb⟩ := Int.eq_ofNat_of_zero_le (show 0 ≤ u % 10 by omega)
  obtain ⟨c, hc⟩ := Int.eq_ofNat_of_zero_le (show 0 ≤ w / 10 by omega)
  obtain ⟨d, hd⟩ := Int.eq_ofNat_of_zero_le (show 0 ≤ w % 10 by omega)
  rw [ha, hb, Int.toNat_natCast, Int.toNat_natCast] at u3
  rw [hc, hd, Int.toNat_natCast, Int.toNat_natCast] at w3
  have eX := n_gainX (a := a) (b := b) (c := c) (d := d) hx hR hk (by omega) (by omega) (by omega) (by omega)
  rw [show 10 * (a : Int) + (b : Int) = u by omega, show 10 * (c : Int) + (d : Int) = w by omega] at eX
  obtain ⟨s', eM, hm'⟩ := n_gainM (s := σM) (a := a) (b := b) (c := c) (d := d) hx rfl hR hk (by omega) (by omega) (by omega) (by omega) u3 w3
  have hgr := n_gx_r hk a b c d
  have hg0 : 0 ≤ n_gx (m_c σM) (fun p => vI x 14 p) n a b c d := by
    have := n_ga_r (a := a) (b := b) (c := c) (d := d) hk n (Nat.le_refl _)
    unfold n_gx n_ga
    rw [if_pos ⟨u3, w3⟩]
    exact this.1
  obtain ⟨G, hG⟩ := Int.eq_ofNat_of_zero_le hg0
  rw [hG] at eX eM hgr
  have hW := (l4 c0).2.2
  rw [k1, Int.toNat_natCast] at hW
  have hsr : 0 ≤ m_sW (m_c σM) n ∧ m_sW (m_c σM) n ≤ n * 9 := n_sum_r (f := fun p => vI (m_c σM) 13 (4 * p)) (b := 9) (n := n) (fun p hp => (hk.2.2.2.2 p hp).1.1)
  have eW : k_rd σX 12 2 = iI (m_sW (m_c σM) n) := by
    rw [n_core_I hx rfl, l5, k1, Int.toNat_natCast]
  obtain ⟨W, hW2⟩ : ∃ W : Nat, 10000 * m_sW (m_c σM) n = (W : Int) := Int.eq_ofNat_of_zero_le (by omega)
  have eB := n_belowBy (k := 2) hm' hk (by omega)
  rw [show m_sW (m_c σM) n * n_h100 2 = (W : Int) by
    rw [← hW2]
    show m_sW (m_c σM) n * (1 * 100 * 100) = _
    omega] at eB
  rw [iI_div2 hu (by omega), iI_rem2 hu (by omega), iI_div2 hw (by omega), iI_rem2 hw (by omega), Int.tdiv_eq_ediv_of_nonneg u0, Int.tmod_eq_emod_of_nonneg u0, Int.tdiv_eq_ediv_of_nonneg w0, Int.tmod_eq_emod_of_nonneg w0, ha, hb, hc, hd, eX, n_bd, eM, n_b2, show iI 2 = iI ((2 : Nat) : Int) from rfl, eB, n_bd, n_plainLong (by omega) (by omega) c3, n_bd, eW, iI_l (by omega), show (10000 : Int64) = iL 10000 from rfl, iL_mul, hW2, n_plainX (by omega) (by omega) c3, n_bd]
  exact ⟨_, _, rfl, rfl, z_close hx hm' hR⟩
