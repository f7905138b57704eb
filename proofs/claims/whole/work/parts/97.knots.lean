/-! knots: the class -/
def n_ckf (g : Int) (w c t : Nat) : Int := if w / 2 ^ t % 2 = 1 then (if c / 2 ^ t % 2 = 1 then 100 - g else g) else (if c / 2 ^ t % 2 = 1 then 0 else 100)
def n_ckp (g : Int) (w c : Nat) : Nat → Int
  | 0 => 1
  | t + 1 => n_ckp g w c t * n_ckf g w c t
def n_ck (g : Int) (nn w c : Nat) : Int := if w < c then 0 else n_ckp g w c nn
theorem n_ckf_r {g : Int} (hg : 0 ≤ g ∧ g ≤ 99) (w c t : Nat) : 0 ≤ n_ckf g w c t ∧ n_ckf g w c t ≤ 100 := by
  unfold n_ckf
  repeat' split
  all_goals omega
theorem n_ckp_r {g : Int} (hg : 0 ≤ g ∧ g ≤ 99) (w c : Nat) : ∀ t, 0 ≤ n_ckp g w c t ∧ n_ckp g w c t ≤ n_h100 t
  | 0 => by
    show 0 ≤ (1 : Int) ∧ (1 : Int) ≤ 1
    omega
  | t + 1 => n_mulr (n_ckp_r hg w c t) (n_ckf_r hg w c t)
theorem n_h100_r {k : Nat} (hk : k ≤ 3) : 1 ≤ n_h100 k ∧ n_h100 k ≤ 1000000 := by
  rcases (show k = 0 ∨ k = 1 ∨ k = 2 ∨ k = 3 by omega) with rfl | rfl | rfl | rfl <;> decide
theorem n_ckp_z {g : Int} {w c t : Nat} (h : n_ckf g w c t = 0) : ∀ {N : Nat}, t < N → n_ckp g w c N = 0
  | 0, ht => absurd ht (by omega)
  | N + 1, ht => by
    show n_ckp g w c N * n_ckf g w c N = 0
    by_cases e : t = N
    · rw [← e, h, Int.mul_zero]
    · rw [n_ckp_z h (show t < N by omega), Int.zero_mul]
theorem n_bzD {nn c w : Nat} (hn : nn < 4) (hc : c < 2 ^ nn) (h : w < c) : (0 < nn ∧ c / 2 ^ 0 % 2 = 1 ∧ ¬ w / 2 ^ 0 % 2 = 1) ∨ (1 < nn ∧ c / 2 ^ 1 % 2 = 1 ∧ ¬ w / 2 ^ 1 % 2 = 1) ∨ (2 < nn ∧ c / 2 ^ 2 % 2 = 1 ∧ ¬ w / 2 ^ 2 % 2 = 1) := by
  rcases (show nn = 0 ∨ nn = 1 ∨ nn = 2 ∨ nn = 3 by omega) with rfl | rfl | rfl | rfl
  · omega
  · omega
  · omega
  · have e1 : c / 2 ^ 1 % 2 = c / 2 % 2 := rfl
    have e2 : c / 2 ^ 2 % 2 = c / 4 % 2 := rfl
    have e3 : w / 2 ^ 1 % 2 = w / 2 % 2 := rfl
    have e4 : w / 2 ^ 2 % 2 = w / 4 % 2 := rfl
    have e5 : c / 2 ^ 0 % 2 = c % 2 := by rw [Nat.pow_zero, Nat.div_one]
    have e6 : w / 2 ^ 0 % 2 = w % 2 := by rw [Nat.pow_zero, Nat.div_one]
    rw [e1, e2, e3, e4, e5, e6]
    omega
theorem n_ckp_w {g : Int} {nn w c : Nat} (hn : nn ≤ 3) (hc : c < 8) (hc2 : c < 2 ^ nn) (h : w < c) : n_ckp g w c nn = 0 := by
  have z : ∀ t, t < nn → c / 2 ^ t % 2 = 1 → ¬ w / 2 ^ t % 2 = 1 → n_ckp g w c nn = 0 := fun t h1 h2 h3 => n_ckp_z (t := t) (by
    unfold n_ckf
    rw [if_neg h3, if_pos h2]) h1
  rcases n_bzD (by omega) hc2 h with ⟨a1, a2, a3⟩ | ⟨a1, a2, a3⟩ | ⟨a1, a2, a3⟩
  · exact z 0 a1 a2 a3
  · exact z 1 a1 a2 a3
  · exact z 2 a1 a2 a3
theorem n_usD : ∀ w, w < 8 → ∀ t, t < 3 → (o_ushr (nI w) (nI t) &&& 1) = nI (w / 2 ^ t % 2) := by decide +kernel
theorem n_us {w t : Nat} (hw : w < 8) (ht : t < 3) : (o_ushr (iI w) (iI t) &&& iI 1) = iI ((w / 2 ^ t % 2 : Nat) : Int) := by
  have := n_usD w hw t ht
  rw [iI_nat, iI_nat, iI_nat] at this
  exact this
theorem n_hasD8 : ∀ h, h < 8 → ∀ b, b < 3 → f_X12_has (nI h) (nI b) = some (nI (h / 2 ^ b % 2)) := by decide +kernel
theorem n_has8 {w t : Nat} (hw : w < 8) (ht : t < 3) : f_X12_has (iI w) (iI t) = some (iI ((w / 2 ^ t % 2 : Nat) : Int)) := by
  rw [← iI_nat, ← iI_nat, n_hasD8 w hw t ht, iI_nat]
theorem n_knotCh {s : k_St} {g : Int} {nn w c : Nat} (hg : 0 ≤ g ∧ g ≤ 99) (hn : nn ≤ 3) (hw : w < 8) (hc : c < 8) (h5 : s.1 16 5 = iI g) : f_X4_knotChance (iI nn) (iI w) (iI c) s = some (iL (n_ckp g w c nn)) := by
  unfold f_X4_knotChance
  simp only [iI_lit]
  refine ok_eq.mp (ok_for nn (fun t (y : Int64 × Int32) => y = (iL (n_ckp g w c t), iI t)) ?_ (by omega) (j := 0) rfl (by omega))
  rintro gg t _ rfl ht hg2
  show k_OK (k_if _ _ _) _
  rw [n_ile (by omega) (by omega)]
  by_cases c0 : (nn : Int) ≤ t
  · rw [if_pos c0, ok_some, show t = nn by omega]
  have hb1 := Nat.mod_lt (w / 2 ^ t) (show 0 < 2 by omega)
  have hb2 := Nat.mod_lt (c / 2 ^ t) (show 0 < 2 by omega)
  have es : n_ckp g w c (t + 1) = n_ckp g w c t * n_ckf g w c t := rfl
  have ef : n_ckf g w c t = if w / 2 ^ t % 2 = 1 then (if c / 2 ^ t % 2 = 1 then 100 - g else g) else (if c / 2 ^ t % 2 = 1 then 0 else 100) := rfl
  rw [if_neg c0, n_us hw (by omega), n_us hc (by omega), ok_nm, ok_nm, n_ieq (by omega) (by omega), show k_rd s 16 5 = _ from h5, iI_sub, iI_l (by omega), iI_l (by omega), iI_l (by omega), iI_l (by omega), iL_mul, iL_mul, iL_mul, iL_mul, n_ieq (by omega) (by omega), n_ieq (by omega) (by omega)]
  by_cases c1 : w / 2 ^ t % 2 = 1
  · rw [if_pos c1] at ef
    rw [if_pos (by omega)]
    by_cases c2 : c / 2 ^ t % 2 = 1
    · rw [if_pos c2] at ef
      rw [if_pos (by omega), ok_nm, ok_nm, iI_add]
      exact hg2 _ (by omega) (by rw [es, ef]; rfl)
    · rw [if_neg c2] at ef
      rw [if_neg (by omega), ok_nm, ok_nm, iI_add]
      exact hg2 _ (by omega) (by rw [es, ef]; rfl)
  · rw [if_neg c1] at ef
    rw [if_neg (by omega)]
    by_cases c2 : c / 2 ^ t % 2 = 1
    · rw [if_pos c2] at ef
      rw [if_pos (by omega), ok_nm, ok_nm, iI_add]
      exact hg2 _ (by omega) (by rw [es, ef]; rfl)
    · rw [if_neg c2] at ef
      rw [if_neg (by omega), ok_nm, ok_nm, iI_add]
      exact hg2 _ (by omega) (by rw [es, ef]; rfl)
theorem n_p8 {nn : Nat} (h : 1 ≤ nn ∧ nn ≤ 3) : 1 ≤ 2 ^ nn ∧ 2 ^ nn ≤ 8 := ⟨Nat.one_le_two_pow, Nat.pow_le_pow_right (by decide) h.2⟩
theorem n_pRk {m : k_St} {n nn : Nat} {V : Nat → Int} (hk : n_mk m n V) (hnn : 1 ≤ nn ∧ nn ≤ 3) (fg th : Int) : n_pR n (2 ^ nn) (n_hN m th) (n_lN m fg) (n_sN m V) (n_ck (vI m 0 23) nn) := by
  have hg := hk.2.2.1
  have h1 := n_h100_r hnn.2
  refine ⟨hk.2.1, n_p8 hnn, fun p hp => ?_, fun w c _ _ => ⟨?_, fun h => ?_⟩⟩
  · have hh := hk.hd hp th
    have hs := hk.sn hp fg
    obtain ⟨⟨a1, _, _⟩, _, a2⟩ := hk.2.2.2.2 p hp
    have := n_mulr a1 a2
    unfold n_hN n_lN n_sN
    omega
  · have := n_ckp_r hg w c nn
    unfold n_ck
    split <;> omega
  · unfold n_ck
    rw [if_pos h]
/-- what stands ready for the search -/
def n_rdy (s : k_St) (m : k_St) (V : Nat → Int) (n sz : Nat) (fg th : Int) : Prop := s.1 33 10 = iI n ∧ s.1 33 11 = iI sz ∧ (∀ p, p < n → s.1 36 p = iI (n_hN m th p) ∧ s.1 37 p = iI (n_lN m fg p) ∧ s.2 38 p = iL (n_sN m V p)) ∧ ∀ c, c < 160 → s.2 35 c = iL 0
theorem n_prepK {σ x m : k_St} {n nn : Nat} (hx : x_c σ = x) (hk : n_mk m n (fun p => vI x 14 p)) (hl : r_lak x m) (hv : r_val x m) (hfg : x.1 16 3 = m.1 0 26) (hth : x.1 16 4 = m.1 0 27) (hlo : x.1 16 5 = m.1 0 23) (hnn : 1 ≤ nn ∧ nn ≤ 3) : k_OK (f_X4_prepareKnots (iI nn) σ) (fun s => n_Fr i_SR σ s ∧ n_pS s n (2 ^ nn) (n_hN m (vI m 0 27)) (n_lN m (vI m 0 26)) (n_sN m (fun p => vI x 14 p)) (n_ck (vI m 0 23) nn) ∧ s.2 33 2 = iL (n_h100 nn) ∧ ∀ c, c < 160 → s.2 35 c = iL 0) := by
  have hg0 := hk.2.2.1
  have hp8 := n_p8 hnn
  unfold f_X4_prepareKnots
  simp only [iI_lit]
  rw [iI_min (by omega) (by omega), iI_max (by omega) (by omega), show max (1 : Int) (min (3 : Int) (nn : Int)) = nn by omega, ok_nm, n_shl (by omega), n_rX hx rfl hfg, n_rX hx rfl hth, ok_bd]
  refine ok_mono (n_prep (sz := 2 ^ nn) hx hk hl hv (vI_rg m 0 26) (vI_rg m 0 27)) (fun s1 hs1 => ?_)
  obtain ⟨hF1, hrd⟩ := hs1
  have hrd : n_rdy s1 m (fun p => vI x 14 p) n (2 ^ nn) (vI m 0 26) (vI m 0 27) := hrd
  rw [ok_nm]
  refine ok_for nn (fun t (z : Int32 × k_St) => z.1 = iI t ∧ n_Fr i_SR σ z.2 ∧ n_rdy z.2 m (fun p => vI x 14 p) n (2 ^ nn) (vI m 0 26) (vI m 0 27) ∧ z.2.2 33 2 = iL (n_h100 t)) ?_ (by omega) (j := 0) ⟨rfl, hF1.wl (Or.inl rfl), hrd, wl_s⟩ (by omega)
  clear hF1 hrd
  rintro g t ⟨v, s⟩ ⟨g1, g2, g3, g4⟩ ht hg
  have g1 : v = iI t := g1
  subst g1
  have g2 : n_Fr i_SR σ s := g2
  have g3 : n_rdy s m (fun p => vI x 14 p) n (2 ^ nn) (vI m 0 26) (vI m 0 27) := g3
  have g4 : s.2 33 2 = iL (n_h100 t) := g4
  show k_OK (k_if _ _ _) _
  rw [n_ile (by omega) (by omega)]
  by_cases c0 : (nn : Int) ≤ t
  rotate_left
  · rw [if_neg c0, show k_rl s 33 2 = _ from g4, show (100 : Int64) = iL 100 from rfl, iL_mul, ok_nm, ok_nm, iI_add]
    exact hg _ (by omega) ⟨rfl, g2.wl (Or.inl rfl), g3, wl_s⟩
  have et : t = nn := by omega
  subst et
  rw [if_pos c0]
  clear hg
  refine ok_for (2 ^ t) (fun w (z : Int32 × k_St) => z.1 = iI w ∧ n_Fr i_SR σ z.2 ∧ n_rdy z.2 m (fun p => vI x 14 p) n (2 ^ t) (vI m 0 26) (vI m 0 27) ∧ z.2.2 33 2 = iL (n_h100 t) ∧ ∀ w' c, w' < w → c < 2 ^ t → z.2.2 34 (8 * w' + c) = iL (n_ckp (vI m 0 23) w' c t)) ?_ (by omega) (j := 0) ⟨rfl, g2, g3, g4, fun w' c hw => absurd hw (by omega)⟩ (by omega)
  clear g2 g3 g4
  rintro g w ⟨v, s⟩ ⟨g1, g2, g3, g4, g5⟩ hw hg
  have g1 : v = iI w := g1
  subst g1
  have g2 : n_Fr i_SR σ s := g2
  have g3 : n_rdy s m (fun p => vI x 14 p) n (2 ^ t) (vI m 0 26) (vI m 0 27) := g3
  have g4 : s.2 33 2 = iL (n_h100 t) := g4
  have g5 : ∀ w' c, w' < w → c < 2 ^ t → s.2 34 (8 * w' + c) = iL (n_ckp (vI m 0 23) w' c t) := g5
  show k_OK (k_if _ _ _) _
  rw [show k_rd s 33 11 = _ from g3.2.1, n_ile (by omega) (by omega)]
  by_cases c1 : ((2 ^ t : Nat) : Int) ≤ w
  · rw [if_pos c1, ok_some]
    refine ⟨g2, ⟨g3.1, g3.2.1, g3.2.2.1, fun w' c hw' hc => ?_⟩, g4, g3.2.2.2⟩
    unfold n_ck
    rw [if_neg (by omega)]
    exact g5 w' c (by omega) (by omega)
  rw [if_neg c1]
  refine ok_for (2 ^ t) (fun c (z : Int32 × k_St) => z.1 = iI c ∧ n_Fr i_SR σ z.2 ∧ n_rdy z.2 m (fun p => vI x 14 p) n (2 ^ t) (vI m 0 26) (vI m 0 27) ∧ z.2.2 33 2 = iL (n_h100 t) ∧ (∀ w' c, w' < w → c < 2 ^ t → z.2.2 34 (8 * w' + c) = iL (n_ckp (vI m 0 23) w' c t)) ∧ ∀ c', c' < c → z.2.2 34 (8 * w + c') = iL (n_ckp (vI m 0 23) w c' t)) ?_ (by omega) (j := 0) ⟨rfl, g2, g3, g4, g5, fun c' hc => absurd hc (by omega)⟩ (by omega)
  clear g2 g3 g4 g5
  rintro g2' c ⟨v, s⟩ ⟨g1, g2, g3, g4, g5, g6⟩ hc hg2
  have g1 : v = iI c := g1
  subst g1
  have g2 : n_Fr i_SR σ s := g2
  have g3 : n_rdy s m (fun p => vI x 14 p) n (2 ^ t) (vI m 0 26) (vI m 0 27) := g3
  have g4 : s.2 33 2 = iL (n_h100 t) := g4
  have g5 : ∀ w' c, w' < w → c < 2 ^ t → s.2 34 (8 * w' + c) = iL (n_ckp (vI m 0 23) w' c t) := g5
  have g6 : ∀ c', c' < c → s.2 34 (8 * w + c') = iL (n_ckp (vI m 0 23) w c' t) := g6
  show k_OK (k_if _ _ _) _
  rw [show k_rd s 33 11 = _ from g3.2.1, n_ile (by omega) (by omega)]
  by_cases c2 : ((2 ^ t : Nat) : Int) ≤ c
  · rw [if_pos c2, ok_nm, iI_add]
    refine hg _ (by omega) ⟨rfl, g2, g3, g4, fun w' c' hw' hc' => ?_⟩
    by_cases e : w' = w
    · rw [e]
      exact g6 c' (by omega)
    · exact g5 w' c' (by omega) hc'
  have hxs : x_c s = x := (n_frX g2 i_SR_s).trans hx
  have e5 : s.1 16 5 = iI (vI m 0 23) := n_rX hxs rfl hlo
  rw [if_neg c2, n_knotCh hg0 hnn.2 (by omega) (by omega) e5, n_bd, iI_mul, iI_add, n_gix (by omega) (by omega), iI_cl (by omega), show ((w : Int) * 8 + (c : Int)).toNat = 8 * w + c by omega, ok_nm, ok_nm, iI_add]
  refine hg2 _ (by omega) ⟨rfl, g2.wl (Or.inr (Or.inl rfl)), g3, g4, fun w' c' hw' hc' => ?_, fun c' hc' => ?_⟩
  · show (k_wl s 34 (8 * w + c) _).2 34 (8 * w' + c') = _
    rw [wl_k (by omega)]
    exact g5 w' c' hw' hc'
  · show (k_wl s 34 (8 * w + c) _).2 34 (8 * w + c') = _
    by_cases e : c' = c
    · rw [e, wl_s]
    · rw [wl_k (by omega)]
      exact g6 c' (by omega)
theorem n_byK {σ x m : k_St} {n nn : Nat} (hx : x_c σ = x) (hk : n_mk m n (fun p => vI x 14 p)) (hl : r_lak x m) (hv : r_val x m) (hfg : x.1 16 3 = m.1 0 26) (hth : x.1 16 4 = m.1 0 27) (hlo : x.1 16 5 = m.1 0 23) (hnn : 1 ≤ nn ∧ nn ≤ 3) : k_OK (f_X4_byKnots (iI nn) σ) (fun s => n_Fr i_SR σ s ∧ s.2 33 2 = iL (n_h100 nn) ∧ n_tp n (2 ^ nn) (n_hN m (vI m 0 27)) (n_lN m (vI m 0 26)) (n_sN m (fun p => vI x 14 p)) (n_ck (vI m 0 23) nn) s ((2 ^ nn) ^ 4)) := by
  unfold f_X4_byKnots
  rw [ok_bd]
  refine ok_mono (n_prepK hx hk hl hv hfg hth hlo hnn) (fun s1 hs1 => ?_)
  obtain ⟨h1, h2, h3, h4⟩ := hs1
  rw [ok_bd]
  refine ok_mono (n_findTop h2 (n_pRk (V := fun p => vI x 14 p) hk hnn _ _) (fun c hc => h4 c (by omega))) (fun s2 hs2 => ok_some.mpr ?_)
  exact ⟨h1.tr (hs2.1.mono (fun c hc => by
    rcases hc with rfl | rfl
    · exact Or.inl rfl
    · exact Or.inr (Or.inr (Or.inl rfl)))), hs2.2.1.trans h3, hs2.2.2⟩
theorem n_knotsX {σ x m : k_St} {n nn : Nat} {z : Int} (hx : x_c σ = x) (hk : n_mk m n (fun p => vI x 14 p)) (hl : r_lak x m) (hv : r_val x m) (hfg : x.1 16 3 = m.1 0 26) (hth : x.1 16 4 = m.1 0 27) (hlo : x.1 16 5 = m.1 0 23) (hnn : 1 ≤ nn ∧ nn ≤ 3) (hz : 0 ≤ z ∧ z ≤ 9999) : k_OK (f_X4_knotsOf (iI nn) (iI z) σ) (fun r => x_c r.2 = x ∧ r.2.2 33 2 = iL (n_h100 nn) ∧ (((∀ s, s < 4 → n_d4 z s < ((2 ^ nn : Nat) : Int)) ∧ r.1 = iL (n_SM n (n_hN m (vI m 0 27)) (n_lN m (vI m 0 26)) (n_sN m (fun p => vI x 14 p)) (n_ck (vI m 0 23) nn) (fun s => (n_d4 z s).toNat) 4)) ∨ ((∃ s, s < 4 ∧ ¬ n_d4 z s < ((2 ^ nn : Nat) : Int)) ∧ r.1 = iL (-1)))) := by
  have hr := n_pRk (V := fun p => vI x 14 p) hk hnn (vI m 0 26) (vI m 0 27)
  have hp8 := n_p8 hnn
  unfold f_X4_knotsOf
  rw [ok_bd]
  refine ok_mono (n_prepK hx hk hl hv hfg hth hlo hnn) (fun s1 hs1 => ?_)
  obtain ⟨h1, h2, h3, h4⟩ := hs1
  have hx1 : x_c s1 = x := (n_frX h1 i_SR_s).trans hx
  simp only [iI_lit]
  generalize n_hN m (vI m 0 27) = h at *
  generalize n_lN m (vI m 0 26) = l at *
  generalize n_sN m (fun p => vI x 14 p) = st at *
  generalize n_ck (vI m 0 23) nn = ch at *
  generalize hF : (fun s => (n_d4 z s).toNat) = f
  have hfs : ∀ s, f s = (n_d4 z s).toNat := fun s => by rw [← hF]
  refine ok_for 4 (fun sd (y : Int64 × Int32 × k_St) => (∀ t, t < sd → n_d4 z t < ((2 ^ nn : Nat) : Int)) ∧ y.1 = iL (n_SM n h l st ch f sd) ∧ y.2.1 = iI sd ∧ n_fS s1 y.2.2 0 ∧ ∀ c, c < 32 → y.2.2.2 35 (32 * sd + c) = iL (n_cB n h l st ch f sd c)) ?_ (by omega) (j := 0) ⟨fun t ht => absurd ht (by omega), ?_, rfl, n_fS.rf, fun c hc => ?_⟩ (by omega)
  rotate_left
  · show (0 : Int64) = _
    have : n_SM n h l st ch f 0 = 0 := by
      unfold n_SM n_cB
      rw [n_sum_c (g := fun _ => 0) (fun c _ => by
        rw [n_bv_c (G := fun _ => 0) (fun p _ => by
          unfold n_cv
          rw [if_neg (by omega)])]
        exact n_bv_z n), n_sum_z]
    rw [this]
    rfl
  · show s1.2 35 (32 * 0 + c) = _
    rw [show 32 * 0 + c = c by omega, h4 c (by omega)]
    congr 1
    have : n_cB n h l st ch f 0 c = n_bv (fun _ => 0) n := n_bv_c (fun p _ => by
      unfold n_cv
      rw [if_neg (by omega)])
    rw [this]
    exact (n_bv_z n).symm
  rintro g sd ⟨v3, v5, s⟩ ⟨hA, g1, g2, g3, g4⟩ hsd hg
  have g1 : v3 = iL (n_SM n h l st ch f sd) := g1
  subst g1
  have g2 : v5 = iI sd := g2
  subst g2
  have g3 : n_fS s1 s 0 := g3
  have g4 : ∀ c, c < 32 → s.2 35 (32 * sd + c) = iL (n_cB n h l st ch f sd c) := g4
  have hps := n_pS_fS h2 g3
  have hFx : ∀ {w}, n_fS s1 w 0 → x_c w = x := fun h => (n_frX h.1 (fun c hc k => by rcases hc with rfl | rfl <;> rfl)).trans hx1
  show k_OK (k_if _ _ _) _
  rw [n_ile (by omega) (by omega)]
  by_cases c0 : (4 : Int) ≤ sd
  · have e : sd = 4 := by omega
    subst e
    rw [if_pos c0, ok_some]
    exact ⟨hFx g3, g3.2.2.2.1.trans h3, Or.inl ⟨hA, rfl⟩⟩
  have hd := n_d4r hz sd
  rw [if_neg c0, n_digitOf hz (by omega), n_bd, show k_rd s 33 11 = _ from hps.2.1, n_ilt (by omega) (by omega)]
  by_cases c1 : n_d4 z sd < ((2 ^ nn : Nat) : Int)
  rotate_left
  · rw [if_neg c1, ok_some]
    exact ⟨hFx g3, g3.2.2.2.1.trans h3, Or.inr ⟨⟨sd, by omega, c1⟩, rfl⟩⟩
  have hfd := hfs sd
  have hBr := n_cB_r hr (f := f) (L := sd) (fun t ht => by
    have h1 := hA t ht
    have h2 := n_d4r hz t
    have h3 := hfs t
    omega)
  have has := n_addSound (sd := sd) (w := f sd) (S := n_SM n h l st ch f sd) hps hr hBr (by omega) (by omega) g4
  rw [show ((f sd : Nat) : Int) = n_d4 z sd by omega] at has
  rw [if_pos c1, ok_b2]
  refine ok_mono has (fun r hr2 => ?_)
  obtain ⟨a1, a2, a3, a4⟩ := hr2
  have eS : n_SM n h l st ch f sd + (n_sum (n_uB h l st ch sd (f sd) (n_cB n h l st ch f sd) n) 32 - n_sum (n_cB n h l st ch f sd) 32) = n_SM n h l st ch f (sd + 1) := by
    rw [n_sum_c (g := n_cB n h l st ch f (sd + 1)) (fun c _ => n_uB_cB c)]
    unfold n_SM
    omega
  rw [eS] at a1
  rw [a1, ok_nm, iI_add]
  refine hg _ (by omega) ⟨fun t ht => ?_, rfl, rfl, g3.tr (n_fS.of35 a2 (fun j hj => absurd hj (by omega))), fun c hc => ?_⟩
  · by_cases e : t = sd
    · rw [e]
      exact c1
    · exact hA t (by omega)
  · show r.2.2 35 (32 * (sd + 1) + c) = _
    rw [a3 c hc, n_uB_cB]
