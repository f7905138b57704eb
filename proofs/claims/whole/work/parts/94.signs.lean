/-! tongues: the class -/
theorem n_fillL {σ : k_St} : k_OK (f_J7_fill_d0a16 35 (0 : Int64) σ) (fun s => n_Fr (fun c => c = 35) σ s ∧ ∀ t, t < 160 → s.2 35 t = iL 0) := by
  unfold f_J7_fill_d0a16
  rw [show (Int32.ofNat (k_nX 35)) = iI 160 from rfl, show k_nX 35 = 160 from rfl, ok_nm]
  simp only [iI_lit]
  refine ok_for 160 (fun j (z : Int32 × k_St) => z.1 = iI j ∧ n_Fr (fun c => c = 35) σ z.2 ∧ ∀ t, t < j → z.2.2 35 t = iL 0) ?_ (by omega) (j := 0) ⟨rfl, n_Fr.rf, fun t h => absurd h (by omega)⟩ (Nat.zero_le _)
  rintro g0 j ⟨v, s⟩ ⟨hv, hF, hz⟩ hj hg0
  have hv : v = iI j := hv
  subst hv
  show k_OK (k_if _ _ _) _
  rw [n_ile (by omega) (by omega)]
  by_cases c0 : (160 : Int) ≤ j
  · rw [if_pos c0, ok_some]
    exact ⟨hF, fun t ht => hz t (by omega)⟩
  · rw [if_neg c0, n_gix (by omega) (by omega), iI_cl (by omega), show ((j : Int)).toNat = j from rfl, ok_nm, ok_nm]
    refine hg0 _ (by omega) ⟨by rw [iI_add]; rfl, n_Fr.wl hF rfl, fun t ht => ?_⟩
    show (k_wl s 35 j 0).2 35 t = iL 0
    by_cases e : t = j
    · subst e
      rw [wl_s]
      rfl
    · rw [wl_k e]
      exact hz t (by omega)
def i_SR (c : Nat) : Prop := c = 33 ∨ c = 34 ∨ c = 35 ∨ c = 36 ∨ c = 37 ∨ c = 38
theorem i_SR_s : ∀ c, i_SR c → ∀ k, x_scr c k = true := fun c hc k => by
  rcases hc with rfl | rfl | rfl | rfl | rfl | rfl <;> rfl
def n_hN (m : k_St) (th : Int) (p : Nat) : Nat := (n_hd m th p).toNat
def n_lN (m : k_St) (fg : Int) (p : Nat) : Nat := (n_sn m fg p).toNat
def n_sN (m : k_St) (V : Nat → Int) (p : Nat) : Int := vI m 13 (4 * p) * V p
theorem n_prep {σ x m : k_St} {n sz : Nat} {fg th : Int} (hx : x_c σ = x) (hk : n_mk m n (fun p => vI x 14 p)) (hl : r_lak x m) (hv : r_val x m) (h1 : -2147483648 ≤ fg ∧ fg ≤ 2147483647) (h2 : -2147483648 ≤ th ∧ th ≤ 2147483647) : k_OK (f_X4_prepare (iI sz) (iI fg) (iI th) σ) (fun s => n_Fr i_SR σ s ∧ s.1 33 10 = iI n ∧ s.1 33 11 = iI sz ∧ (∀ p, p < n → s.1 36 p = iI (n_hN m th p) ∧ s.1 37 p = iI (n_lN m fg p) ∧ s.2 38 p = iL (n_sN m (fun p => vI x 14 p) p)) ∧ ∀ c, c < 160 → s.2 35 c = iL 0) := by
  have hn6 := hk.2.1
  unfold f_X4_prepare
  simp only [iI_lit]
  have e12 : k_rd (k_wr σ 33 11 (iI (sz : Int))) 12 0 = iI (n : Int) := by
    show σ.1 12 0 = _
    exact (n_rX hx rfl hl.1.1).trans (by rw [hk.1])
  rw [ok_nm, e12, iI_min (by omega) (by omega), show min (6 : Int) (n : Int) = n by omega, ok_nm]
  refine ok_for n (fun p (z : Int32 × k_St) => z.1 = iI p ∧ n_Fr i_SR σ z.2 ∧ z.2.1 33 10 = iI n ∧ z.2.1 33 11 = iI sz ∧ ∀ q, q < p → z.2.1 36 q = iI (n_hN m th q) ∧ z.2.1 37 q = iI (n_lN m fg q) ∧ z.2.2 38 q = iL (n_sN m (fun p => vI x 14 p) q)) ?_ (by omega) (j := 0) ⟨rfl, (n_Fr.rf.wr (Or.inl rfl)).wr (Or.inl rfl), wr_s, (wr_k (by decide)).trans wr_s, fun q hq => absurd hq (by omega)⟩ (by omega)
  rintro g p ⟨v, s⟩ ⟨g1, g2, g3, g4, g5⟩ hp hg
  have g1 : v = iI p := g1
  subst g1
  have g2 : n_Fr i_SR σ s := g2
  have g3 : s.1 33 10 = iI n := g3
  have g4 : s.1 33 11 = iI sz := g4
  have g5 : ∀ q, q < p → s.1 36 q = iI (n_hN m th q) ∧ s.1 37 q = iI (n_lN m fg q) ∧ s.2 38 q = iL (n_sN m (fun p => vI x 14 p) q) := g5
  show k_OK (k_if _ _ _) _
  rw [show k_rd s 33 10 = _ from g3, n_ile (by omega) (by omega)]
  by_cases c0 : (n : Int) ≤ p
  · rw [if_pos c0, ok_bd]
    refine ok_mono n_fillL (fun s2 hs2 => ok_some.mpr ?_)
    obtain ⟨f1, f2⟩ := hs2
    refine ⟨g2.tr (f1.mono (fun c hc => Or.inr (Or.inr (Or.inl hc)))), ?_, ?_, fun q hq => ?_, f2⟩
    · rw [(f1 33 (by decide)).1]
      exact g3
    · rw [(f1 33 (by decide)).1]
      exact g4
    · rw [(f1 36 (by decide)).1, (f1 37 (by decide)).1, (f1 38 (by decide)).2]
      exact g5 q (by omega)
  have hpn : p < n := by omega
  have hxs : x_c s = x := (n_frX g2 i_SR_s).trans hx
  have hh := hk.hd hpn th
  have hs := hk.sn hpn fg
  obtain ⟨⟨a1, _, _⟩, _, a2⟩ := hk.2.2.2.2 p hpn
  have hS : 0 ≤ vI m 13 (4 * p) * vI x 14 p ∧ vI m 13 (4 * p) * vI x 14 p ≤ 9 * 999 := n_mulr a1 a2
  have hv15 := (hv p (by rw [hk.1]; omega)).2.2
  have hF1 : n_Fr i_SR σ (k_wr s 36 p (iI (n_hd m th p))) := g2.wr (by unfold i_SR; omega)
  have hx1 : x_c (k_wr s 36 p (iI (n_hd m th p))) = x := (n_frX hF1 i_SR_s).trans hx
  have hF2 : n_Fr i_SR σ (k_wr (k_wr s 36 p (iI (n_hd m th p))) 37 p (iI (n_sn m fg p))) := hF1.wr (by unfold i_SR; omega)
  have hx2 : x_c (k_wr (k_wr s 36 p (iI (n_hd m th p))) 37 p (iI (n_sn m fg p))) = x := (n_frX hF2 i_SR_s).trans hx
  have es : f_X1_stakeOf (iI (p : Int)) (k_wr (k_wr s 36 p (iI (n_hd m th p))) 37 p (iI (n_sn m fg p))) = some (iI (vI m 13 (4 * p) * vI x 14 p)) := by
    unfold f_X1_stakeOf
    simp (disch := omega) only [iI_lit, n_ilt, n_ile, n_gix, iI_cl, Int.toNat_natCast]
    rw [if_neg (by omega), if_neg (by omega), n_core_I hx2 rfl, hv15, Int.mul_comm]
  rw [if_neg c0, n_heardX hxs hk hl hpn h2, n_bd, n_gix (by omega) (by omega), iI_cl (by omega), Int.toNat_natCast, ok_nm, n_seenX hx1 hk hl hpn h1, n_bd, n_gix (by omega) (by omega), ok_nm, es, n_bd, n_gix (by omega) (by omega), iI_l (by omega), ok_nm, ok_nm, iI_add]
  refine hg _ (by omega) ⟨rfl, hF2.wl (by unfold i_SR; omega), g3, g4, fun q hq => ⟨?_, ?_, ?_⟩⟩
  · show (k_wr s 36 p (iI (n_hd m th p))).1 36 q = _
    by_cases e : q = p
    · rw [e, wr_s]
      unfold n_hN
      congr 1
      omega
    · rw [wr_k e]
      exact (g5 q (by omega)).1
  · show (k_wr (k_wr s 36 p (iI (n_hd m th p))) 37 p (iI (n_sn m fg p))).1 37 q = _
    by_cases e : q = p
    · rw [e, wr_s]
      unfold n_lN
      congr 1
      omega
    · rw [wr_k e]
      exact (g5 q (by omega)).2.1
  · show (k_wl (k_wr (k_wr s 36 p (iI (n_hd m th p))) 37 p (iI (n_sn m fg p))) 38 p (iL (vI m 13 (4 * p) * vI x 14 p))).2 38 q = _
    by_cases e : q = p
    · rw [e, wl_s]
      rfl
    · rw [wl_k e]
      exact (g5 q (by omega)).2.2
/-- the chances of signs -/
def n_cs (g : Int) (w c : Nat) : Int := if w < c then 0 else if c = 0 then (if w = 0 then 100 else g) else if c = w then 100 - g else 0
theorem n_pRs {m : k_St} {n k : Nat} {V : Nat → Int} (hk : n_mk m n V) (hkk : 1 ≤ k ∧ k ≤ 4) (fg th : Int) : n_pR n k (n_hN m th) (n_lN m fg) (n_sN m V) (n_cs (vI m 0 23)) := by
  have hg := hk.2.2.1
  refine ⟨hk.2.1, by omega, fun p hp => ?_, fun w c _ _ => ⟨?_, fun h => ?_⟩⟩
  · have hh := hk.hd hp th
    have hs := hk.sn hp fg
    obtain ⟨⟨a1, _, _⟩, _, a2⟩ := hk.2.2.2.2 p hp
    have := n_mulr a1 a2
    unfold n_hN n_lN n_sN
    omega
  · unfold n_cs
    repeat' split
    all_goals omega
  · unfold n_cs
    rw [if_pos h]
theorem n_bySigns {σ x m : k_St} {n k : Nat} {fg th : Int} (hx : x_c σ = x) (hk : n_mk m n (fun p => vI x 14 p)) (hl : r_lak x m) (hv : r_val x m) (hlo : x.1 16 5 = m.1 0 23) (hkk : 1 ≤ k ∧ k ≤ 4) (h1 : -2147483648 ≤ fg ∧ fg ≤ 2147483647) (h2 : -2147483648 ≤ th ∧ th ≤ 2147483647) : k_OK (f_X4_bySigns (iI k) (iI fg) (iI th) σ) (fun s => n_Fr i_SR σ s ∧ n_tp n k (n_hN m th) (n_lN m fg) (n_sN m (fun p => vI x 14 p)) (n_cs (vI m 0 23)) s (k ^ 4)) := by
  have hr := n_pRs (V := fun p => vI x 14 p) hk hkk fg th
  have hg0 := hk.2.2.1
  unfold f_X4_bySigns
  simp only [iI_lit]
  rw [iI_min (by omega) (by omega), show min (4 : Int) (k : Int) = k by omega, ok_bd]
  refine ok_mono (n_prep hx hk hl hv h1 h2) (fun s1 hs1 => ?_)
  obtain ⟨hF1, p10, p11, pp, p35⟩ := hs1
  have hF2 : n_Fr i_SR σ s1 := hF1
  refine ok_for k (fun w (z : Int32 × k_St) => z.1 = iI w ∧ n_Fr i_SR σ z.2 ∧ (z.2.1 33 10 = iI n ∧ z.2.1 33 11 = iI k ∧ (∀ p, p < n → z.2.1 36 p = iI (n_hN m th p) ∧ z.2.1 37 p = iI (n_lN m fg p) ∧ z.2.2 38 p = iL (n_sN m (fun p => vI x 14 p) p)) ∧ ∀ c, c < 160 → z.2.2 35 c = iL 0) ∧ ∀ w' c, w' < w → c ≤ w' → z.2.2 34 (8 * w' + c) = iL (n_cs (vI m 0 23) w' c)) ?_ (by omega) (j := 0) ⟨rfl, hF2, ⟨p10, p11, pp, p35⟩, fun w' c hw => absurd hw (by omega)⟩ (by omega)
  clear hF1 p10 p11 pp p35 hF2
  rintro g w ⟨v, s⟩ ⟨g1, g2, g3, g4⟩ hw hg
  have g1 : v = iI w := g1
  subst g1
  have g2 : n_Fr i_SR σ s := g2
  obtain ⟨p10, p11, pp, p35⟩ : s.1 33 10 = iI n ∧ s.1 33 11 = iI k ∧ (∀ p, p < n → s.1 36 p = iI (n_hN m th p) ∧ s.1 37 p = iI (n_lN m fg p) ∧ s.2 38 p = iL (n_sN m (fun p => vI x 14 p) p)) ∧ ∀ c, c < 160 → s.2 35 c = iL 0 := g3
  have g4 : ∀ w' c, w' < w → c ≤ w' → s.2 34 (8 * w' + c) = iL (n_cs (vI m 0 23) w' c) := g4
  show k_OK (k_if _ _ _) _
  rw [show k_rd s 33 11 = _ from p11, n_ile (by omega) (by omega)]
  by_cases c0 : (k : Int) ≤ w
  · have hps : n_pS s n k (n_hN m th) (n_lN m fg) (n_sN m (fun p => vI x 14 p)) (n_cs (vI m 0 23)) := ⟨p10, p11, pp, fun w' c hw' hc => g4 w' c (by omega) hc⟩
    rw [if_pos c0, ok_bd]
    refine ok_mono (n_findTop hps hr (fun c hc => p35 c (by omega))) (fun s2 hs2 => ok_some.mpr ?_)
    exact ⟨g2.tr (hs2.1.mono (fun c hc => by
      rcases hc with rfl | rfl
      · exact Or.inl rfl
      · exact Or.inr (Or.inr (Or.inl rfl)))), hs2.2.2⟩
  have hxs : x_c s = x := (n_frX g2 i_SR_s).trans hx
  have e165 : ∀ s', x_c s' = x → k_rd s' 16 5 = iI (vI m 0 23) := fun s' h => n_rX h rfl hlo
  rw [if_neg c0]
  refine ok_jnI (fun j => k_OK (j (iL (if w = 0 then 100 else vI m 0 23))) (fun s => n_Fr i_SR σ s ∧ n_tp n k (n_hN m th) (n_lN m fg) (n_sN m (fun p => vI x 14 p)) (n_cs (vI m 0 23)) s (k ^ 4))) ?_ ?_
  rotate_left
  · intro j hj
    rw [n_ieq (by omega) (by omega)]
    by_cases e : w = 0
    · rw [if_pos e] at hj
      rw [if_pos (by omega)]
      exact hj
    · rw [if_neg e] at hj
      rw [if_neg (by omega), e165 s hxs, iI_l (by omega)]
      exact hj
  show k_OK (k_gd _ _) _
  rw [iI_mul, n_gix (by omega) (by omega), iI_cl (by omega), show ((w : Int) * 8).toNat = 8 * w by omega, ok_nm]
  refine ok_for (k - 1) (fun t (z : Int32 × k_St) => z.1 = iI ((t + 1 : Nat) : Int) ∧ n_Fr i_SR σ z.2 ∧ (z.2.1 33 10 = iI n ∧ z.2.1 33 11 = iI k ∧ (∀ p, p < n → z.2.1 36 p = iI (n_hN m th p) ∧ z.2.1 37 p = iI (n_lN m fg p) ∧ z.2.2 38 p = iL (n_sN m (fun p => vI x 14 p) p)) ∧ ∀ c, c < 160 → z.2.2 35 c = iL 0) ∧ (∀ w' c, w' < w → c ≤ w' → z.2.2 34 (8 * w' + c) = iL (n_cs (vI m 0 23) w' c)) ∧ ∀ c, c ≤ t → c ≤ w → z.2.2 34 (8 * w + c) = iL (n_cs (vI m 0 23) w c)) ?_ (by omega) (j := 0) ⟨rfl, g2.wl (Or.inr (Or.inl rfl)), ⟨p10, p11, pp, p35⟩, fun w' c hw' hc => by
    show (k_wl s 34 (8 * w) _).2 34 (8 * w' + c) = _
    rw [wl_k (by omega)]
    exact g4 w' c hw' hc, fun c hc hc2 => by
    show (k_wl s 34 (8 * w) _).2 34 (8 * w + c) = _
    rw [show c = 0 by omega, Nat.add_zero, wl_s]
    unfold n_cs
    rw [if_neg (show ¬ w < 0 by omega), if_pos (show (0 : Nat) = 0 from rfl)]⟩ (by omega)
  clear g2 p10 p11 pp p35 g4 hxs
  rintro g2 t ⟨v, s2⟩ ⟨k1, k2, k3, k4, k5⟩ ht hg2
  have k1 : v = iI ((t + 1 : Nat) : Int) := k1
  subst k1
  have k2 : n_Fr i_SR σ s2 := k2
  obtain ⟨p10, p11, pp, p35⟩ : s2.1 33 10 = iI n ∧ s2.1 33 11 = iI k ∧ (∀ p, p < n → s2.1 36 p = iI (n_hN m th p) ∧ s2.1 37 p = iI (n_lN m fg p) ∧ s2.2 38 p = iL (n_sN m (fun p => vI x 14 p) p)) ∧ ∀ c, c < 160 → s2.2 35 c = iL 0 := k3
  have k4 : ∀ w' c, w' < w → c ≤ w' → s2.2 34 (8 * w' + c) = iL (n_cs (vI m 0 23) w' c) := k4
  have k5 : ∀ c, c ≤ t → c ≤ w → s2.2 34 (8 * w + c) = iL (n_cs (vI m 0 23) w c) := k5
  have hxs2 : x_c s2 = x := (n_frX k2 i_SR_s).trans hx
  show k_OK (k_if _ _ _) _
  rw [show k_rd s2 33 11 = _ from p11, n_ile (by omega) (by omega)]
  by_cases c1 : (k : Int) ≤ ((t + 1 : Nat) : Int)
  · rw [if_pos c1, ok_nm, iI_add]
    refine hg _ (by omega) ⟨rfl, k2, ⟨p10, p11, pp, p35⟩, fun w' c hw' hc => ?_⟩
    show s2.2 34 (8 * w' + c) = _
    by_cases e : w' = w
    · rw [e]
      exact k5 c (by omega) (by omega)
    · exact k4 w' c (by omega) hc
  have fin : ∀ v : Int64, (t + 1 ≤ w → v = iL (n_cs (vI m 0 23) w (t + 1))) → k_OK (g2 (iI (((t + 1 : Nat) : Int) + 1), k_wl s2 34 (8 * w + (t + 1)) v)) (fun s => n_Fr i_SR σ s ∧ n_tp n k (n_hN m th) (n_lN m fg) (n_sN m (fun p => vI x 14 p)) (n_cs (vI m 0 23)) s (k ^ 4)) := fun v hv => hg2 _ (by omega) ⟨rfl, k2.wl (Or.inr (Or.inl rfl)), ⟨p10, p11, pp, p35⟩, fun w' c hw' hc => by
    show (k_wl s2 34 (8 * w + (t + 1)) v).2 34 (8 * w' + c) = _
    rw [wl_k (by omega)]
    exact k4 w' c hw' hc, fun c hc hc2 => by
    show (k_wl s2 34 (8 * w + (t + 1)) v).2 34 (8 * w + c) = _
    by_cases e : c = t + 1
    · rw [e, wl_s]
      exact hv (by omega)
    · rw [wl_k (by omega)]
      exact k5 c (by omega) hc2⟩
  rw [if_neg c1, n_ieq (by omega) (by omega)]
  by_cases c2 : ((t + 1 : Nat) : Int) = w
  · rw [if_pos c2, iI_add, n_gix (by omega) (by omega), iI_cl (by omega), show ((w : Int) * 8 + ((t + 1 : Nat) : Int)).toNat = 8 * w + (t + 1) by omega, e165 s2 hxs2, iI_sub, iI_l (by omega), ok_nm, ok_nm, iI_add]
    refine fin _ (fun _ => ?_)
    unfold n_cs
    rw [if_neg (by omega), if_neg (by omega), if_pos (by omega)]
  · rw [if_neg c2, iI_add, n_gix (by omega) (by omega), iI_cl (by omega), show ((w : Int) * 8 + ((t + 1 : Nat) : Int)).toNat = 8 * w + (t + 1) by omega, ok_nm, ok_nm, iI_add]
    refine fin _ (fun _ => ?_)
    unfold n_cs
    rw [if_neg (by omega), if_neg (by omega), if_neg (by omega)]
    rfl
