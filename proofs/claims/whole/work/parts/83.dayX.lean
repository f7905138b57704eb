/-! the class's day, whole -/
theorem n_heardY {s m : k_St} {p : Nat} {t : Int} (hp : p < 6) (ht : -2147483648 ≤ t ∧ t ≤ 2147483647) (h : s.1 13 (4 * p + 1) = iI (vI m 13 (4 * p + 1))) : f_X1_heard (iI p) (iI t) s = some (iI (n_hd m t p)) := by
  unfold f_X1_heard n_hd
  simp (disch := omega) only [iI_lit, n_ieq]
  by_cases c : t = 0
  · rw [if_pos c, if_pos c, show iI 1 = iI ((1 : Nat) : Int) from rfl, n_told hp (by omega), n_bd, h]
  · rw [if_neg c, if_neg c]
theorem n_seenY {s m : k_St} {p : Nat} {t : Int} (hp : p < 6) (ht : -2147483648 ≤ t ∧ t ≤ 2147483647) (h : s.1 13 (4 * p + 2) = iI (vI m 13 (4 * p + 2))) : f_X1_seen (iI p) (iI t) s = some (iI (n_sn m t p)) := by
  unfold f_X1_seen n_sn
  simp (disch := omega) only [iI_lit, n_ieq]
  by_cases c : t = 0
  · rw [if_pos c, if_pos c, show iI 2 = iI ((2 : Nat) : Int) from rfl, n_told hp (by omega), n_bd, h]
  · rw [if_neg c, if_neg c]
set_option maxRecDepth 20000 in
theorem n_dayX {σ x m : k_St} {n k d P W r H N Y r2 came : Nat} {ct : Int} (hx : x_c σ = x) (hR : r_all x m) (hk : n_mk m n (fun p => vI x 14 p)) (hk22 : vI m 0 22 = k) (hn : 1 ≤ n) (hd : vI m 0 59 = d) (hd40 : d < 40) (hW : m_sW m n = W) (hWr : 1 ≤ W ∧ W ≤ 100) (hr : (o_lrem (o_lushr (n_nx (σ.2 16 2)) 33) (iI W).toInt64).toInt32 = iI r) (hrW : r < W) (hP : P < n) (hP1 : m_sW m P ≤ r) (hP2 : (r : Int) < m_sW m (P + 1)) (hH : n_hd m (vI m 0 27) P = H) (hN : n_sn m (vI m 0 26) P = N) (hY : (m.1 14 H).toInt = Y) (hr2 : (o_lrem (o_lushr (n_nx (n_nx (σ.2 16 2))) 33) (iI ((100 : Nat) : Int)).toInt64).toInt32 = iI r2) (hr2b : r2 < 100) (hcame : came = if Y = 0 then 0 else if (r2 : Int) < vI m 0 23 then 0 else Y) (hct : ct = if m.1 15 (4 * N + came) = iI P then vI x 14 P else 0) {TF : Int32} {XF DF : Int64} (hTF : TF = if m.1 15 (4 * N + came) = iI P ∨ m.1 0 29 = 0 then σ.1 16 0 else iI (n_e4 (n_up (fun s => (m.1 14 s).toInt) H (if Y + 1 < k then (Y : Int) + 1 else 0)))) (hXF : XF = if m.1 15 (4 * N + came) = iI P ∨ m.1 0 28 = 0 then σ.2 16 1 else o_wp (σ.2 16 1) (4 * N + came) (iI P)) (hDF : DF = if Y = 0 then n_nx (σ.2 16 2) else n_nx (n_nx (σ.2 16 2))) : k_OK (f_X11_day σ) (fun q => q.1 = iI ct ∧ n_eX σ q.2 d P came ct TF XF DF) := by
  obtain ⟨hTap, hLak, hNow, hImg, hShf, hSee, hLrn, hLaw, hVal⟩ := id hR
  obtain ⟨l1, l2, l3, l4, l5, l6⟩ := id hLak
  obtain ⟨h1, h2, h3, h4, h5, h6, h7, h8⟩ := id hNow
  have b1 := l1.2
  have b2 := l2.2
  have k1 := hk.1
  have hn6 := hk.2.1
  have hg := hk.2.2.1
  have hf4 := h1.1.r4 b2.2
  have hh := hk.hd hP (vI m 0 27)
  have hs := hk.sn hP (vI m 0 26)
  have hYr : 0 ≤ (m.1 14 H).toInt ∧ (m.1 14 H).toInt < max (vI m 0 22) 1 := h1.1 H (by omega)
  have hcr : came < 4 := by
    rw [hcame]
    split
    · omega
    · split <;> omega
  have x1 : ∀ c k, x_scr c k = false → σ.1 c k = x.1 c k := fun c k h => n_core_1 hx h
  have e6 : σ.1 16 6 = iI d := by
    rw [x1 16 6 rfl, h7.1, ← hd]
    exact iI_of _
  have e0 : σ.1 16 0 = iI (n_e4 (fun s => (m.1 14 s).toInt)) := by
    rw [x1 16 0 rfl]
    exact h1.2
  have e3 : σ.1 16 3 = iI (vI m 0 26) := by
    rw [x1 16 3 rfl, h4.1]
    exact iI_of _
  have e4 : σ.1 16 4 = iI (vI m 0 27) := by
    rw [x1 16 4 rfl, h5.1]
    exact iI_of _
  have e5 : σ.1 16 5 = iI (vI m 0 23) := by
    rw [x1 16 5 rfl, h6.1]
    exact iI_of _
  have eX : σ.2 16 1 = x.2 16 1 := n_core_2 hx rfl
  have e12 : σ.1 12 0 = iI n := by
    rw [x1 12 0 rfl, l1.1, ← k1]
    exact iI_of _
  have e121 : σ.1 12 1 = iI k := by
    rw [x1 12 1 rfl, l2.1, ← hk22]
    exact iI_of _
  have e122 : σ.1 12 2 = iI W := by
    rw [x1 12 2 rfl, ← hW, ← show vI x 12 2 = m_sW m n by rw [l5, k1, Int.toNat_natCast]]
    exact iI_of _
  have e13 : ∀ p, p < n → ∀ j, j < 4 → σ.1 13 (4 * p + j) = iI (vI m 13 (4 * p + j)) := fun p hp j hj => by
    rw [x1 13 _ rfl, (l6 p (by omega)).1 j hj]
    exact iI_of _
  have e14 : σ.1 14 P = iI (vI x 14 P) := by
    rw [x1 14 P rfl]
    exact iI_of _
  have e015 : σ.1 0 15 = m.1 0 28 := (x1 0 15 rfl).trans hLrn.1.1
  have e016 : σ.1 0 16 = m.1 0 29 := (x1 0 16 rfl).trans hLrn.2.1
  obtain ⟨s1, es1, hs1⟩ := n_startX e6 hd40
  have ed1 := n_drawX (σ := s1) (W := W) hs1.2.1.2.2 hWr hr
  have hs2 := hs1.dr (D' := n_nx (σ.2 16 2))
  have ed2 := n_drawX (σ := k_wl s1 16 2 (n_nx (σ.2 16 2))) (W := 100) hs2.2.1.2.2 (by omega) hr2
  have hs3 := hs2.dr (D' := n_nx (n_nx (σ.2 16 2)))
  generalize hz2 : k_wl s1 16 2 (n_nx (σ.2 16 2)) = s2 at *
  generalize hz3 : k_wl s2 16 2 (n_nx (n_nx (σ.2 16 2))) = s3 at *
  have f12 : ∀ {s D}, n_sX σ s d D → s.1 12 = σ.1 12 ∧ s.1 13 = σ.1 13 ∧ s.1 14 = σ.1 14 ∧ s.1 0 = σ.1 0 := fun h => ⟨(h.1 12 (by decide)).1, (h.1 13 (by decide)).1, (h.1 14 (by decide)).1, (h.1 0 (by decide)).1⟩
  obtain ⟨u1, u2, u3, u4⟩ := f12 hs2
  have epl : f_X1_placeOfDraw (iI (r : Int)) s2 = some (iI (P : Int)) := n_pofX hk (by rw [u1]; exact e12) (fun p hp => by rw [u2]; exact e13 p hp 0 (by omega)) hP hP1 hP2 (by omega)
  have ehd : f_X1_heard (iI (P : Int)) (iI (vI m 0 27)) s2 = some (iI (H : Int)) := by
    rw [n_heardY (m := m) (by omega) (vI_rg _ _ _) (by rw [u2]; exact e13 P hP 1 (by omega)), hH]
  have esn : f_X1_seen (iI (P : Int)) (iI (vI m 0 26)) s2 = some (iI (N : Int)) := by
    rw [n_seenY (m := m) (by omega) (vI_rg _ _ _) (by rw [u2]; exact e13 P hP 2 (by omega)), hN]
  have esg : f_X11_signOf (iI (n_e4 (fun s => (m.1 14 s).toInt))) (iI (H : Int)) = some (iI (Y : Int)) := by
    rw [n_sign hf4 (by omega)]
    show some (iI (m.1 14 H).toInt) = _
    rw [hY]
  have g4 : k_rd s2 16 4 = iI (vI m 0 27) := (congrFun hs2.2.1.1 4).trans e4
  have g3 : k_rd s2 16 3 = iI (vI m 0 26) := (congrFun hs2.2.1.1 3).trans e3
  have g0 : k_rd s2 16 0 = iI (n_e4 (fun s => (m.1 14 s).toInt)) := (congrFun hs2.2.1.1 0).trans e0
  have g5 : k_rd s3 16 5 = iI (vI m 0 23) := (congrFun hs3.2.1.1 5).trans e5
  have gW : k_rd s1 12 2 = iI (W : Int) := by
    show s1.1 12 2 = _
    rw [(f12 hs1).1]
    exact e122
  unfold f_X11_day
  simp only [iI_lit]
  rw [n_lk hx (n_vI l1.1) l1.2, n_bd, n_ib, if_pos (by omega), show k_rd σ 16 6 = iI (d : Int) from e6, n_ilt (by omega) (by omega), if_pos (by omega), es1, n_bd, gW, ed1, n_b2, epl, n_bd, g4, ehd, n_bd, g3, esn, n_bd, g0, esg, n_bd]
  refine ok_jnI (fun j => ∀ s, n_sX σ s d DF → k_OK (j (iI (came : Int)) s) (fun q => q.1 = iI ct ∧ n_eX σ q.2 d P came ct TF XF DF)) ?_ ?_
  rotate_left
  · intro j hj
    rw [ok_jn, n_ieq (by omega) (by omega)]
    by_cases cy : Y = 0
    · rw [if_pos cy] at hcame hDF
      rw [if_pos (by omega)]
      have e : iI (Y : Int) = iI (came : Int) := by rw [hcame, cy]
      show k_OK (j (iI (Y : Int)) s2) _
      rw [e]
      exact hj s2 (by rw [hDF]; exact hs2)
    · rw [if_neg cy] at hcame hDF
      rw [if_neg (by omega), show iI 100 = iI ((100 : Nat) : Int) from rfl, ed2, n_b2, g5, n_ile (by omega) (by omega)]
      have := hj s3 (by rw [hDF]; exact hs3)
      by_cases cl : (r2 : Int) < vI m 0 23
      · rw [if_pos cl] at hcame
        rw [if_neg (by omega)]
        have e : iI 0 = iI (came : Int) := by rw [hcame]; rfl
        rw [e]
        exact this
      · rw [if_neg cl] at hcame
        rw [if_pos (by omega)]
        have e : iI (Y : Int) = iI (came : Int) := by rw [hcame]
        show k_OK (j (iI (Y : Int)) s3) _
        rw [e]
        exact this
  intro s hss
  clear hDF
  generalize DF = D at *
  obtain ⟨v1, v2, v3, v4⟩ := f12 hss
  have r15 := h2 (4 * N + came) (by omega)
  show k_OK (k_bd (f_X11_placeOf (k_rl s 16 1) (iI (N : Int)) (iI (came : Int))) _) _
  have ew : f_X1_worthOf (iI (P : Int)) s = some (iI (vI x 14 P)) := by
    unfold f_X1_worthOf
    simp (disch := omega) only [iI_lit, n_ilt, n_ile, n_gix, iI_cl, Int.toNat_natCast]
    rw [if_neg (by omega), if_neg (by omega)]
    show some (s.1 14 P) = _
    rw [v3, e14]
  rw [show k_rl s 16 1 = σ.2 16 1 from hss.2.1.2.1, n_placeOf (by omega) hcr, n_bd, eX, r15.1]
  simp only [n_jn, n_kT, n_k10]
  by_cases ct1 : m.1 15 (4 * N + came) = iI (P : Int)
  · rw [if_pos ct1] at hct
    obtain ⟨s', e', hs'⟩ := n_endX (P := P) (came := came) (ct := ct) hss e6 hd40
    rw [n_ift ct1, ew, n_bd, ← hct, e', n_bd, ok_some]
    rw [if_pos (Or.inl ct1)] at hTF hXF
    rw [hTF, hXF]
    exact ⟨rfl, hs'⟩
  rw [if_neg ct1] at hct
  subst hct
  obtain ⟨s', e', hs'⟩ := n_endX (P := P) (came := came) (ct := 0) hss e6 hd40
  have J : ∀ w (X' : Int64), n_eX σ w d P came 0 (σ.1 16 0) X' D → k_OK (k_if ((k_rd w 0 16) = iI 0) (some (iI 0, w)) (k_if ((k_rd w 12 1) ≤ (iI (Y : Int) + iI 1)) (k_bd (f_X11_withSign (k_rd w 16 0) (iI (H : Int)) (iI 0)) fun v261 => k_nm (k_wr w 16 0 v261) fun s264 => some (iI 0, s264)) (k_bd (f_X11_withSign (k_rd w 16 0) (iI (H : Int)) (iI (Y : Int) + iI 1)) fun v261 => k_nm (k_wr w 16 0 v261) fun s264 => some (iI 0, s264)))) (fun q => q.1 = iI 0 ∧ n_eX σ q.2 d P came 0 TF X' D) := fun w X' hw => by
    have w0 : k_rd w 0 16 = m.1 0 29 := by
      show w.1 0 16 = _
      rw [(hw.1 0 (by decide)).1]
      exact e016
    have w12 : k_rd w 12 1 = iI (k : Int) := by
      show w.1 12 1 = _
      rw [(hw.1 12 (by decide)).1]
      exact e121
    have w16 : k_rd w 16 0 = iI (n_e4 (fun s => (m.1 14 s).toInt)) := hw.2.1.1.trans e0
    rw [w0, w12, w16, iI_add]
    by_cases c29 : m.1 0 29 = 0
    · rw [if_pos (Or.inr c29)] at hTF
      rw [n_ift (show m.1 0 29 = iI 0 from c29), ok_some, hTF]
      exact ⟨rfl, hw⟩
    · rw [if_neg (show ¬ (m.1 15 (4 * N + came) = iI (P : Int) ∨ m.1 0 29 = 0) from fun q => q.elim ct1 c29)] at hTF
      rw [n_iff (show ¬ m.1 0 29 = iI 0 from c29), n_ile (by omega) (by omega)]
      by_cases ck : Y + 1 < k
      · rw [if_neg (by omega), n_wsign hf4 (by omega) (by omega), n_bd, ok_nm, ok_some]
        rw [if_pos ck] at hTF
        rw [hTF]
        exact ⟨rfl, hw.dT⟩
      · rw [if_pos (by omega), n_wsign hf4 (by omega) (by omega), n_bd, ok_nm, ok_some]
        rw [if_neg ck] at hTF
        rw [hTF]
        exact ⟨rfl, hw.dT⟩
  have w0 : k_rd s' 0 15 = m.1 0 28 := by
    show s'.1 0 15 = _
    rw [(hs'.1 0 (by decide)).1]
    exact e015
  rw [n_iff ct1, e', n_bd, w0]
  by_cases c28 : m.1 0 28 = 0
  · rw [if_pos (Or.inr c28)] at hXF
    rw [n_ift (show m.1 0 28 = iI 0 from c28), hXF]
    exact J s' _ hs'
  · rw [n_iff (show ¬ m.1 0 28 = iI 0 from c28), show k_rl s' 16 1 = σ.2 16 1 from hs'.2.1.2.1, n_withPlace (by omega) hcr, n_bd, n_nm]
    rw [if_neg (show ¬ (m.1 15 (4 * N + came) = iI (P : Int) ∨ m.1 0 28 = 0) from fun q => q.elim ct1 c28)] at hXF
    rw [hXF]
    exact J _ _ hs'.dX
