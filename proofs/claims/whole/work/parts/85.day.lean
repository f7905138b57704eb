/-! day, whole -/
theorem n_belowZ {s m : k_St} {n : Nat} (hn : n ≤ 6) (h21 : s.1 0 21 = iI n) (h13 : ∀ p, p < n → s.1 13 (4 * p) = iI (vI m 13 (4 * p))) : f_X12_below s = some (iI (100 * m_sW m n)) := by
  unfold f_X12_below
  rw [show k_rd s 0 21 = _ from h21]
  simp only [iI_lit]
  refine ok_eq.mp (ok_for n (fun j (z : Int32 × Int32) => z = (iI (m_sW m j), iI j)) ?_ (by omega) (j := 0) rfl (by omega))
  rintro g j _ rfl hj hg
  show k_OK (k_if _ _ _) _
  rw [n_ile (by omega) (by omega)]
  by_cases c : (n : Int) ≤ j
  · rw [if_pos c, ok_some, show j = n by omega, iI_mul]
  · rw [if_neg c, show iI 0 = iI ((0 : Nat) : Int) from rfl, n_of (by omega) (by omega), n_bd]
    simp only [iI_add, n_nm]
    refine hg _ (by omega) ?_
    rw [show s.1 13 (4 * j + 0) = iI (vI m 13 (4 * j)) from h13 j (by omega), iI_add]
    rfl
theorem n_tM.dr {σ s : k_St} {d : Nat} {t : Int} {T : Nat → Int} {R : Nat → Int32} {D D' : Int64} (h : n_tM σ s d t T R D) : n_tM σ (k_wl s 0 60 D') d t T R D' := by
  obtain ⟨y1, ⟨y2, y3⟩, y4, y5, y6, y7, y8, y9⟩ := h
  refine ⟨y1.wl (Or.inl rfl), ⟨y2, fun j => ?_⟩, y4, y5, y6, y7, y8, y9⟩
  rw [wl_if, n_iff_eq, y3 j]
  by_cases e : j = 60
  · rw [if_pos e, if_pos e]
  · rw [if_neg e, if_neg e, if_neg e]
set_option maxRecDepth 20000 in
theorem n_dayM {σ x m : k_St} {n k d P W r H N Y r2 came : Nat} {ct t : Int} (hm : m_c σ = m) (hR : r_all x m) (hk : n_mk m n (fun p => vI x 14 p)) (hk22 : vI m 0 22 = k) (hk1 : 1 ≤ k) (hn : 1 ≤ n) (hd : vI m 0 59 = d) (hd40 : d < 40) (hW : m_sW m n = W) (hWr : 1 ≤ W ∧ W ≤ 100) (hr : (o_lrem (o_lushr (n_nx (σ.2 0 60)) 33) (iI W).toInt64).toInt32 = iI r) (hrW : r < W) (hP : P < n) (hP1 : m_sW m P ≤ r) (hP2 : (r : Int) < m_sW m (P + 1)) (hH : n_hd m (vI m 0 27) P = H) (hN : n_sn m (vI m 0 26) P = N) (hY : (m.1 14 H).toInt = Y) (hr2 : (o_lrem (o_lushr (n_nx (n_nx (σ.2 0 60))) 33) (iI ((100 : Nat) : Int)).toInt64).toInt32 = iI r2) (hr2b : r2 < 100) (hcame : came = if Y = 0 then 0 else if (r2 : Int) < vI m 0 23 then 0 else Y) (hct : ct = if m.1 15 (4 * N + came) = iI P then vI x 14 P else 0) (ht : t = n_p4 (fun s => (m.1 14 s).toInt)) {TF : Nat → Int} {RF : Nat → Int32} {DF : Int64} (hTF : TF = if m.1 15 (4 * N + came) = iI P ∨ m.1 0 29 = 0 then (fun s => (m.1 14 s).toInt) else n_up (fun s => (m.1 14 s).toInt) H (if Y + 1 < k then (Y : Int) + 1 else 0)) (hRF : RF = fun j => if j = 4 * N + came ∧ ¬ m.1 15 (4 * N + came) = iI P ∧ ¬ m.1 0 28 = 0 then iI P else m.1 15 j) (hDF : DF = if Y = 0 then n_nx (σ.2 0 60) else n_nx (n_nx (σ.2 0 60))) : k_OK (f_X12_day σ) (fun q => q.1 = iI ct ∧ n_eM σ q.2 d t P came ct TF RF DF) := by
  obtain ⟨hTap, hLak, hNow, hImg, hShf, hSee, hLrn, hLaw, hVal⟩ := id hR
  obtain ⟨l1, l2, l3, l4, l5, l6⟩ := id hLak
  obtain ⟨h1, h2, h3, h4, h5, h6, h7, h8⟩ := id hNow
  have b1 := l1.2
  have b2 := l2.2
  have k1 := hk.1
  have hn6 := hk.2.1
  have hg := hk.2.2.1
  have hf4 := h1.1.r4 b2.2
  have hh := hk.hd hP (vI m 0 27)
  have hs := hk.sn hP (vI m 0 26)
  have hYr : 0 ≤ (m.1 14 H).toInt ∧ (m.1 14 H).toInt < max (vI m 0 22) 1 := h1.1 H (by omega)
  have hcr : came < 4 := by
    rw [hcame]
    split
    · omega
    · split <;> omega
  have x1 : ∀ c k, m_scr c k = false → σ.1 c k = m.1 c k := fun c k h => n_core_1 hm h
  have e0 : ∀ j, m_scr 0 j = false → σ.1 0 j = iI (vI m 0 j) := fun j h => by
    rw [x1 0 j h]
    exact iI_of _
  have e59 : σ.1 0 59 = iI d := by rw [e0 59 rfl, hd]
  have e13 : ∀ j, σ.1 13 j = iI (vI m 13 j) := fun j => by
    rw [x1 13 j rfl]
    exact iI_of _
  have e14 : ∀ j, σ.1 14 j = iI ((m.1 14 j).toInt) := fun j => by
    rw [x1 14 j rfl]
    exact iI_of _
  have e15 : ∀ j, σ.1 15 j = m.1 15 j := fun j => x1 15 j rfl
  unfold f_X12_day
  rw [show k_rd σ 0 21 = iI (n : Int) from (e0 21 rfl).trans (by rw [k1]), show k_rd σ 0 59 = iI (d : Int) from e59]
  simp only [iI_lit]
  rw [n_ieq (by omega) (by omega), if_neg (by omega), n_ieq (by omega) (by omega), if_neg (by omega), n_gix (by omega) (by omega), iI_cl (by omega), Int.toNat_natCast, n_nm]
  have ep := n_packed (σ := k_wl σ 38 d (k_rl σ 0 60)) (a := 14) (f := fun s => (m.1 14 s).toInt) rfl (fun s _ => e14 s)
  rw [← ht] at ep
  rw [ep, n_bd]
  have e59a : k_rd (k_wl σ 38 d (k_rl σ 0 60)) 0 59 = iI (d : Int) := e59
  rw [e59a, n_gix (by omega) (by omega), iI_cl (by omega), Int.toNat_natCast, n_nm]
  refine ok_for 16 (fun j (y : Int32 × k_St) => y.1 = iI j ∧ n_Fr i_DN σ y.2 ∧ (y.2.1 0 = σ.1 0 ∧ y.2.2 0 = σ.2 0 ∧ y.2.1 14 = σ.1 14 ∧ y.2.1 15 = σ.1 15 ∧ y.2.1 35 = σ.1 35 ∧ y.2.1 36 = σ.1 36 ∧ y.2.1 37 = σ.1 37) ∧ ∀ i, y.2.2 38 i = (if i = d then σ.2 0 60 else σ.2 38 i) ∧ y.2.1 40 i = (if i = d then iI t else σ.1 40 i) ∧ ∀ u, u < 16 → y.2.1 39 (16 * i + u) = if i = d ∧ u < j then σ.1 15 u else σ.1 39 (16 * i + u)) ?_ (by omega) (j := 0) ⟨rfl, (n_Fr.rf.wl (Or.inr rfl)).wr (Or.inr rfl), ⟨rfl, rfl, rfl, rfl, rfl, rfl, rfl⟩, fun i => ⟨by
    show (k_wl σ 38 d (k_rl σ 0 60)).2 38 i = _
    rw [wl_if, n_iff_eq]
    rfl, by
    show (k_wr (k_wl σ 38 d (k_rl σ 0 60)) 40 d (iI t)).1 40 i = _
    rw [wr_if, n_iff_eq]
    rfl, fun u hu => by
    rw [if_neg (by omega)]
    rfl⟩⟩ (by omega)
  rintro g0 j ⟨v, s⟩ ⟨hv, hF, ⟨z0, z02, z14, z15, z35, z36, z37⟩, hpb⟩ hj hg0
  have hv : v = iI j := hv
  subst hv
  have hF : n_Fr i_DN σ s := hF
  have z0 : s.1 0 = σ.1 0 := z0
  have z02 : s.2 0 = σ.2 0 := z02
  have z14 : s.1 14 = σ.1 14 := z14
  have z15 : s.1 15 = σ.1 15 := z15
  have z35 : s.1 35 = σ.1 35 := z35
  have z36 : s.1 36 = σ.1 36 := z36
  have z37 : s.1 37 = σ.1 37 := z37
  have hpb : ∀ i, s.2 38 i = (if i = d then σ.2 0 60 else σ.2 38 i) ∧ s.1 40 i = (if i = d then iI t else σ.1 40 i) ∧ ∀ u, u < 16 → s.1 39 (16 * i + u) = if i = d ∧ u < j then σ.1 15 u else σ.1 39 (16 * i + u) := hpb
  show k_OK (k_if _ _ _) _
  rw [n_ile (by omega) (by omega)]
  by_cases c0 : (16 : Int) ≤ j
  rotate_left
  · have e59b : k_rd s 0 59 = iI (d : Int) := (congrFun z0 59).trans e59
    rw [if_neg c0, e59b, iI_mul, iI_add, n_gix (by omega) (by omega), n_gix (by omega) (by omega), iI_cl (by omega), iI_cl (by omega), Int.toNat_natCast, ok_nm, ok_nm, iI_add, show (16 * (d : Int) + (j : Int)).toNat = 16 * d + j by omega]
    refine hg0 _ (by omega) ⟨rfl, hF.wr (Or.inr rfl), ⟨z0, z02, z14, z15, z35, z36, z37⟩, fun i => ⟨(hpb i).1, (hpb i).2.1, fun u hu => ?_⟩⟩
    show (k_wr s 39 (16 * d + j) (k_rd s 15 j)).1 39 (16 * i + u) = _
    have q := (hpb i).2.2 u hu
    by_cases e : 16 * i + u = 16 * d + j
    · have ei : i = d := by omega
      have eu : u = j := by omega
      subst ei
      subst eu
      rw [wr_s, if_pos ⟨rfl, by omega⟩]
      exact congrFun z15 u
    · rw [wr_k e, q]
      by_cases q2 : i = d ∧ u < j
      · rw [if_pos q2, if_pos ⟨q2.1, by omega⟩]
      · rw [if_neg q2, if_neg (by omega)]
  rw [if_pos c0]
  clear hg0
  have z13 : s.1 13 = σ.1 13 := (hF 13 (by unfold i_DN; decide)).1
  rw [n_belowZ (m := m) hn6 (by rw [z0, e0 21 rfl, k1]) (fun p hp => by rw [z13]; exact e13 _), n_bd, hW, iI_div2 (by omega) (by omega), show (100 * (W : Int)).tdiv 100 = W by rw [Int.mul_comm, Int.mul_tdiv_cancel _ (by decide)]]
  have ed1 := n_drawM (σ := s) (W := W) (congrFun z02 60) hWr hr
  rw [ed1, n_b2]
  have hs2 : n_tM σ (k_wl s 0 60 (n_nx (σ.2 0 60))) d t (fun s => (m.1 14 s).toInt) (m.1 15) (n_nx (σ.2 0 60)) := ⟨hF.wl (Or.inl rfl), ⟨z0, fun j => by
    rw [wl_if, n_iff_eq, z02]⟩, fun i => ⟨(hpb i).1, (hpb i).2.1, fun u hu => by
    have q := (hpb i).2.2 u hu
    show s.1 39 (16 * i + u) = _
    rw [q]
    by_cases e : i = d
    · rw [if_pos ⟨e, by omega⟩, if_pos e]
    · rw [if_neg (fun r => e r.1), if_neg e]⟩, fun j hj => by
    show s.1 14 j = _
    rw [z14]
    exact e14 j, fun j hj => by
    show s.1 15 j = _
    rw [z15]
    exact e15 j, z35, z36, z37⟩
  have ed2 := n_drawM (σ := k_wl s 0 60 (n_nx (σ.2 0 60))) (W := 100) (wl_s) (by omega) hr2
  have hs3 := hs2.dr (D' := n_nx (n_nx (σ.2 0 60)))
  generalize hz2 : k_wl s 0 60 (n_nx (σ.2 0 60)) = s2 at *
  generalize hz3 : k_wl s2 0 60 (n_nx (n_nx (σ.2 0 60))) = s3 at *
  clear hz2 hz3 ed1 hpb z0 z02 z14 z15 z35 z36 z37 z13 hF c0
  -- cells of such states
  have c00 : ∀ {s T R D}, n_tM σ s d t T R D → (∀ j, m_scr 0 j = false → s.1 0 j = iI (vI m 0 j)) ∧ ∀ j, s.1 13 j = iI (vI m 13 j) := fun h => ⟨fun j hj => by
    rw [h.2.1.1]
    exact e0 j hj, fun j => by
    rw [(h.1 13 (by unfold i_DN; decide)).1]
    exact e13 j⟩
  refine ok_for P (fun j (y : Int32 × Int32) => y = (iI (r - m_sW m j), iI j)) ?_ (by omega) (j := 0) (by
    show _ = (iI ((r : Int) - 0), _)
    rw [Int.sub_zero]
    rfl) (by omega)
  rintro g j _ rfl hj hg
  have hsm : 0 ≤ m_sW m j := n_sWm (P := 0) (fun p hp => (hk.2.2.2.2 p hp).1.1.1) j (by omega) (by omega)
  have hs1 := n_sWm (P := j) (fun p hp => (hk.2.2.2.2 p hp).1.1.1) P (by omega) (by omega)
  have hw := (hk.2.2.2.2 j (by omega)).1.1
  have es := n_sWs (m := m) j
  have eof : f_X12_of (iI (j : Int)) (iI 0) s2 = some (iI (vI m 13 (4 * j))) := by
    rw [show iI 0 = iI ((0 : Nat) : Int) from rfl, n_of (by omega) (by omega)]
    exact congrArg some ((c00 hs2).2 (4 * j))
  show k_OK (k_bd _ _) _
  rw [eof, n_bd, n_ilt (by omega) (by omega)]
  by_cases ej : j = P
  rotate_left
  · have := n_sWm (P := j + 1) (fun p hp => (hk.2.2.2.2 p hp).1.1.1) P (by omega) (by omega)
    rw [if_neg (by omega), n_bd, iI_sub, ok_nm, ok_nm, iI_add]
    refine hg _ (by omega) ?_
    rw [es, show (r : Int) - (m_sW m j + vI m 13 (4 * j)) = r - m_sW m j - vI m 13 (4 * j) by omega]
    rfl
  subst ej
  rw [if_pos (by omega), n_heardZ (m := m) (by omega) ((c00 hs2).1 27 rfl) ((c00 hs2).2 _), n_bd, hH, n_gix (by omega) (by omega), iI_cl (by omega), Int.toNat_natCast, ok_nm]
  have eY : k_rd s2 14 H = iI (Y : Int) := by
    show s2.1 14 H = _
    exact (hs2.2.2.2.1 H (by omega)).trans (by show iI (m.1 14 H).toInt = _; rw [hY])
  rw [eY]
  refine ok_jnI (fun f => ∀ s, n_tM σ s d t (fun s => (m.1 14 s).toInt) (m.1 15) DF → k_OK (f (iI (came : Int)) s) (fun q => q.1 = iI ct ∧ n_eM σ q.2 d t j came ct TF RF DF)) ?_ ?_
  rotate_left
  · intro f hj
    rw [n_ieq (by omega) (by omega)]
    by_cases cy : Y = 0
    · rw [if_pos cy] at hcame hDF
      rw [if_pos (by omega)]
      have e : iI (Y : Int) = iI (came : Int) := by rw [hcame, cy]
      rw [e]
      exact hj s2 (by rw [hDF]; exact hs2)
    · rw [if_neg cy] at hcame hDF
      have e23 : k_rd s3 0 23 = iI (vI m 0 23) := (c00 hs3).1 23 rfl
      rw [if_neg (by omega), show iI 100 = iI ((100 : Nat) : Int) from rfl, ed2, n_b2, e23, n_ile (by omega) (by omega)]
      have := hj s3 (by rw [hDF]; exact hs3)
      by_cases cl : (r2 : Int) < vI m 0 23
      · rw [if_pos cl] at hcame
        rw [if_neg (by omega)]
        have e : iI 0 = iI (came : Int) := by rw [hcame]; rfl
        rw [e]
        exact this
      · rw [if_neg cl] at hcame
        rw [if_pos (by omega)]
        have e : iI (Y : Int) = iI (came : Int) := by rw [hcame]
        rw [e]
        exact this
  clear ed2 hs2 hs3 eof eY hg
  intro s hss
  obtain ⟨y1, ⟨y2, y3⟩, y4, y5, y6, y7, y8, y9⟩ := id hss
  show k_OK (k_bd (f_X12_seenAt _ s) _) _
  rw [n_seenZ (m := m) (by omega) ((c00 hss).1 26 rfl) ((c00 hss).2 _), n_bd, hN, iI_mul, iI_add, ok_nm, n_gix (by omega) (by omega), iI_cl (by omega), show (4 * (N : Int) + (came : Int)).toNat = 4 * N + came by omega]
  have e15C : k_rd s 15 (4 * N + came) = m.1 15 (4 * N + came) := y6 _ (by omega)
  have e28 : k_rd s 0 28 = m.1 0 28 := by
    show s.1 0 28 = _
    rw [y2]
    exact x1 0 28 rfl
  obtain ⟨b, hb⟩ : ∃ b : Bool, b = decide (m.1 15 (4 * N + came) = iI (j : Int)) := ⟨_, rfl⟩
  refine ok_jnI (fun f => k_OK (f (if b = true then iI 1 else iI 0)) (fun q => q.1 = iI ct ∧ n_eM σ q.2 d t j came ct TF RF DF)) ?_ ?_
  rotate_left
  · intro f hf
    rw [e15C, ok_if]
    refine ⟨fun q => ?_, fun q => ?_⟩
    · rw [decide_eq_true q] at hb
      rw [hb] at hf
      exact hf
    · rw [decide_eq_false q] at hb
      rw [hb] at hf
      exact hf
  show k_OK (k_jn _ _) _
  refine ok_jnI (fun f => k_OK (f (RF (4 * N + came))) (fun q => q.1 = iI ct ∧ n_eM σ q.2 d t j came ct TF RF DF)) ?_ ?_
  rotate_left
  · intro f hf
    rw [e28, ok_if]
    refine ⟨fun q => ?_, fun q => ?_⟩
    · rw [n_gix (by omega) (by omega), e15C]
      have e : RF (4 * N + came) = m.1 15 (4 * N + came) := by
        rw [hRF]
        exact if_neg (fun r => r.2.2 q)
      rw [e] at hf
      exact hf
    · have e : RF (4 * N + came) = iI (j : Int) := by
        rw [hRF]
        show (if _ ∧ _ then _ else _) = _
        by_cases c : m.1 15 (4 * N + came) = iI (j : Int)
        · rw [if_neg (fun r => r.2.1 c), c]
        · rw [if_pos ⟨rfl, c, q⟩]
      rw [e] at hf
      exact hf
  show k_OK (k_gd _ _) _
  rw [n_gix (by omega) (by omega), ok_nm]
  have hs4 : n_tM σ (k_wr s 15 (4 * N + came) (RF (4 * N + came))) d t (fun s => (m.1 14 s).toInt) RF DF := by
    refine ⟨y1.wr (Or.inr rfl), ⟨y2, y3⟩, y4, y5, fun u hu => ?_, y7, y8, y9⟩
    by_cases e : u = 4 * N + came
    · rw [e, wr_s]
    · rw [wr_k e, y6 u hu, hRF]
      exact (if_neg (fun r => e r.1)).symm
  generalize k_wr s 15 (4 * N + came) (RF (4 * N + came)) = s4 at *
  refine ok_jnI (fun f => ∀ s, n_tM σ s d t TF RF DF → k_OK (f s) (fun q => q.1 = iI ct ∧ n_eM σ q.2 d t j came ct TF RF DF)) ?_ ?_
  · intro s5 hs5
    exact n_dayE (b := b) (V := fun p => vI x 14 p) hm hk e59 hd40 hP hs5 (by
      rw [hct, hb]
      by_cases c : m.1 15 (4 * N + came) = iI (j : Int)
      · rw [if_pos c, if_pos (decide_eq_true c)]
      · rw [if_neg c, if_neg (by rw [decide_eq_false c]; decide)]) rfl
  · intro f hf
    have e29 : k_rd s4 0 29 = m.1 0 29 := by
      show s4.1 0 29 = _
      rw [hs4.2.1.1]
      exact x1 0 29 rfl
    rw [e29, ok_if]
    refine ⟨fun q => ?_, fun q => ?_⟩
    · rw [if_pos (Or.inr (show m.1 0 29 = 0 from q))] at hTF
      exact hf s4 (by rw [hTF]; exact hs4)
    · by_cases c : m.1 15 (4 * N + came) = iI (j : Int)
      · rw [if_pos (Or.inl c)] at hTF
        rw [decide_eq_true c] at hb
        rw [hb, n_iff (show ¬ (if true = true then iI 1 else iI 0) = iI 0 from n_10)]
        exact hf s4 (by rw [hTF]; exact hs4)
      · rw [if_neg (show ¬ (m.1 15 (4 * N + came) = iI (j : Int) ∨ m.1 0 29 = 0) from fun r => r.elim c q)] at hTF
        rw [decide_eq_false c] at hb
        have e22 : k_rd s4 0 22 = iI (k : Int) := by rw [show k_rd s4 0 22 = _ from (c00 hs4).1 22 rfl, hk22]
        have eY : k_rd s4 14 H = iI (Y : Int) := by
          show s4.1 14 H = _
          exact (hs4.2.2.2.1 H (by omega)).trans (by show iI (m.1 14 H).toInt = _; rw [hY])
        have hk0 : ¬ iI (k : Int) = iI 0 := fun q => by
          have := (iI_eq (a := k) (b := 0) (by omega) (by omega)).mp q
          omega
        rw [hb, n_ift (show (if false = true then iI 1 else iI 0) = iI 0 from rfl), n_heardZ (m := m) (by omega) ((c00 hs4).1 27 rfl) ((c00 hs4).2 _), n_bd, n_bd, hH, n_gix (by omega) (by omega), e22, n_gdt hk0, n_gix (by omega) (by omega), iI_cl (by omega), Int.toNat_natCast, eY, iI_add, iI_rem2 (by omega) (by omega), ok_nm]
        refine hf _ ?_
        obtain ⟨w1, ⟨w2, w3⟩, w4, w5, w6, w7, w8, w9⟩ := hs4
        refine ⟨w1.wr (Or.inr rfl), ⟨w2, w3⟩, w4, fun u hu => ?_, w6, w7, w8, w9⟩
        rw [hTF]
        unfold n_up
        by_cases e : u = H
        · rw [e, wr_s, if_pos rfl]
          congr 1
          by_cases ck : Y + 1 < k
          · rw [if_pos ck]
            exact Int.tmod_eq_of_lt (by omega) (by omega)
          · rw [if_neg ck, show (Y : Int) + 1 = k by omega, Int.tmod_self]
        · rw [wr_k e, if_neg e]
          exact w5 u hu
