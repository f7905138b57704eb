/-! fit -/
def i_SF (c : Nat) : Prop := c = 9 ∨ c = 10 ∨ c = 17 ∨ c = 19 ∨ c = 20
theorem i_SF_s : ∀ c, i_SF c → ∀ k, m_scr c k = true := fun c hc k => by
  rcases hc with rfl | rfl | rfl | rfl | rfl <;> rfl
theorem n_fitOf {σ m : k_St} {n a b : Nat} {V : Nat → Int} {k : Int} {X : Int64} (hm : m_c σ = m) (hk : n_mk m n V) (hn : 1 ≤ n) (ha : a < 4) (hb : b < 4) (hT : r_T k (n_d4 (vI m 22 a))) (hk4 : k ≤ 4) (hz : 0 ≤ vI m 22 a ∧ vI m 22 a ≤ 9999) (hR : r_R n (fun j => m.1 23 (16 * b + j)) X) : ∃ s', f_X12_fitOf (iI a) (iI b) σ = some (iI (n_A m V (n_d4 (vI m 22 a)) (fun j => m.1 23 (16 * b + j)) (vI m 0 26) (vI m 0 27) n), s') ∧ m_c s' = m ∧ n_Fr i_SF σ s' := by
  have h4 := hT.r4 hk4
  have e22 : k_rd σ 22 a = iI (vI m 22 a) := n_core_I hm (c := 22) (k := a) rfl
  unfold f_X12_fitOf
  simp only [iI_lit]
  rw [n_gix (by omega) (by omega), iI_cl (by omega), Int.toNat_natCast, e22]
  obtain ⟨⟨u, s1⟩, e1, hu, hF1, hA1⟩ := n_spread (σ := σ) (a := 20) rfl (z := vI m 22 a) (k := 4) (by omega) (by omega)
  have hA1 := hA1 hz
  have hF1 : n_Fr (fun c => c = 20) σ s1 := hF1
  have hm1 : m_c s1 = m := (n_frM hF1 (fun c hc k => by rw [hc]; rfl)).trans hm
  obtain ⟨s2, e2, hF2, hB⟩ := n_layBrings (σ := s1) (a := 20) (f := n_d4 (vI m 22 a)) rfl (by unfold i_SB; omega) hm1 hk (fun s hs => ⟨hA1 s hs, h4 s hs⟩)
  have hm2 : m_c s2 = m := (n_frM hF2 i_SB_s).trans hm1
  rw [e1, n_b2, e2, n_bd]
  have hF12 : n_Fr i_SF σ s2 := (hF1.mono (fun c hc => Or.inr (Or.inr (Or.inr (Or.inr hc))))).tr (hF2.mono (fun c hc => by
    rcases hc with h | h | h
    · exact Or.inl h
    · exact Or.inr (Or.inl h)
    · exact Or.inr (Or.inr (Or.inl h))))
  have e23 : ∀ j, s2.1 23 j = m.1 23 j := fun j => n_core_1 hm2 rfl
  have hg : k_OK (k_loop (fun (g25 : Int32 × k_St → Option (Int32 × k_St)) (z25 : Int32 × k_St) => match z25 with
    | (v3_25, s_25) =>
      k_if (iI 16 ≤ v3_25)
        (k_bd (f_X12_sumBy 19 s_25) fun v59 =>
        some (v59, s_25))
        (k_gd (k_ix ((iI 16 * iI (b : Int)) + v3_25) 64 = true) <|
        k_gd (k_ix v3_25 16 = true) <|
        k_nm (k_wr s_25 19 v3_25.toNatClampNeg (k_rd s_25 23 ((iI 16 * iI (b : Int)) + v3_25).toNatClampNeg)) fun s47 =>
        k_nm (v3_25 + iI 1) fun y48 =>
        g25 (y48, s47))) 100000 (iI 0, s2)) (fun r => r.1 = iI (n_A m V (n_d4 (vI m 22 a)) (fun j => m.1 23 (16 * b + j)) (vI m 0 26) (vI m 0 27) n) ∧ n_Fr (fun c => c = 19) s2 r.2) := by
    refine ok_for 16 (fun j (y : Int32 × k_St) => y.1 = iI j ∧ n_Fr (fun c => c = 19) s2 y.2 ∧ ∀ t, t < j → y.2.1 19 t = m.1 23 (16 * b + t)) ?_ (by omega) (j := 0) ⟨rfl, n_Fr.rf, fun t h => absurd h (by omega)⟩ (Nat.zero_le _)
    rintro g j ⟨v, s⟩ ⟨hv, hF, hz⟩ hj hg
    have hv : v = iI j := hv
    subst hv
    have hF : n_Fr (fun c => c = 19) s2 s := hF
    have hz : ∀ t, t < j → s.1 19 t = m.1 23 (16 * b + t) := hz
    show k_OK (k_if _ _ _) _
    rw [n_ile (by omega) (by omega)]
    by_cases c0 : (16 : Int) ≤ j
    · have hR19 : ∀ c, c < 16 → s.1 19 c = m.1 23 (16 * b + c) ∧ 0 ≤ (m.1 23 (16 * b + c)).toInt ∧ (m.1 23 (16 * b + c)).toInt < n := fun c hc => by
        have : 0 ≤ (m.1 23 (16 * b + c)).toInt ∧ (m.1 23 (16 * b + c)).toInt < max (n : Int) 1 := (hR c hc).2
        refine ⟨hz c (by omega), this.1, ?_⟩
        omega
      have hB' : ∀ c, c < 16 → ∀ p, p < n → s.1 17 (6 * c + p) = iI (n_B m V (n_d4 (vI m 22 a)) c p) := fun c hc p hp => by
        rw [(hF 17 (by decide)).1]
        exact hB c hc p hp
      rw [if_pos c0, n_sumBy (R := fun c => m.1 23 (16 * b + c)) rfl hk.2.1 hR19 hB', n_bd, ok_some, n_AB hk h4 (fun c hc => (hR19 c hc).2)]
      exact ⟨rfl, hF⟩
    · rw [if_neg c0]
      simp (disch := omega) only [iI_mul, iI_add, n_gix, iI_cl, n_nm, Int.toNat_natCast]
      refine hg _ (by omega) ⟨rfl, hF.wr rfl, fun t ht => ?_⟩
      show (k_wr s 19 j (s.1 23 (16 * (b : Int) + (j : Int)).toNat)).1 19 t = _
      by_cases e : t = j
      · subst e
        rw [wr_s, (hF 23 (by decide)).1, e23]
        exact congrArg (m.1 23) (show (16 * (b : Int) + (t : Int)).toNat = 16 * b + t by omega)
      · rw [wr_k e]
        exact hz t (by omega)
  obtain ⟨⟨r, s3⟩, e3, hr, hF3⟩ := hg
  have hr : r = _ := hr
  have hF3 : n_Fr (fun c => c = 19) s2 s3 := hF3
  exact ⟨s3, by rw [e3, hr], (n_frM hF3 (fun c hc k => by rw [hc]; rfl)).trans hm2, hF12.tr (hF3.mono (fun c hc => Or.inr (Or.inr (Or.inr (Or.inl hc)))))⟩
theorem n_noth {n : Nat} {g : Nat → Int32} {X : Int64} (hn : n ≤ 6) (h : r_R n g X) : ¬ X = -1 := fun e => by
  obtain ⟨h1, h2, h3⟩ := h 0 (by omega)
  rw [e, o_pl_n (by omega)] at h1
  rw [← h1] at h3
  have : (7 : Int32).toInt = 7 := rfl
  omega
/-- are they shelved -/
theorem n_shelved {σX σM x : k_St} {n a b : Nat} (hx : x_c σX = x) (hR : r_all x (m_c σM)) (hn : vI (m_c σM) 0 21 = n) (hn6 : n ≤ 6) (ha : a < 4) (hb : b < 4) : (f_X5_hasTugs (iI a) σX = some (iI (if vI (m_c σM) 22 a = -1 then 0 else 1)) ∧ f_X5_hasThrows (iI b) σX = some (iI (if (m_c σM).1 24 b = 0 then 0 else 1)) ∧ f_X12_areShelved (iI a) (iI b) σM = some (iI (if vI (m_c σM) 22 a = -1 then 0 else if (m_c σM).1 24 b = 0 then 0 else 1))) := by
  obtain ⟨hTap, hLak, hNow, hImg, hShf, hSee, hLrn, hLaw, hVal⟩ := id hR
  have b2 := hLak.2.1.2
  have sa := (hShf a ha).1
  have sb := (hShf b hb).2
  have r22 := vI_rg (m_c σM) 22 a
  have e22 : k_rd σM 22 a = iI (vI (m_c σM) 22 a) := n_core_I rfl rfl
  have e24 : k_rd σM 24 b = (m_c σM).1 24 b := n_core_1 rfl rfl
  have e43 : k_rd σX 43 a = x.1 43 a := n_core_1 hx rfl
  have e44 : k_rl σX 44 b = x.2 44 b := n_core_2 hx rfl
  refine ⟨?_, ?_, ?_⟩
  · unfold f_X5_hasTugs f_X11_isShelf
    simp (disch := omega) only [iI_lit, n_within, n_bd, n_gdt n_isB, n_ib, n_gix, iI_cl, Int.toNat_natCast]
    rw [if_pos (by omega), e43]
    rcases sa with ⟨s1, s2⟩ | ⟨s1, s2, s3, s4⟩
    · rw [if_pos (show vI (m_c σM) 22 a = -1 by unfold vI; rw [s1]; rfl), s2, n_ift (by decide)]
    · have := n_e4r (s2.r4 b2.2)
      rw [if_neg (by omega), s4, n_iff (fun q => by
        have := (iI_eq (a := n_e4 (n_d4 (vI (m_c σM) 22 a))) (b := -1) (by omega) (by omega)).mp (q.trans (iI_neg 1))
        omega)]
  · unfold f_X5_hasThrows f_X11_isShelf
    simp (disch := omega) only [iI_lit, n_within, n_bd, n_gdt n_isB, n_ib, n_gix, iI_cl, Int.toNat_natCast]
    rw [if_pos (by omega), e44, iL_of (x.2 44 b), show (-1 : Int64) = iL (-1) from rfl, n_lc0 (iL_rg _) (by omega)]
    rcases sb with ⟨s1, s2⟩ | ⟨s1, s2, s3⟩
    · rw [if_pos (show (x.2 44 b).toInt = -1 by rw [s2]; rfl), if_pos (show (m_c σM).1 24 b = iI 0 from s1)]
    · rw [hn] at s3
      rw [if_neg (show ¬ (x.2 44 b).toInt = -1 from fun q => n_noth hn6 s3 (by rw [iL_of (x.2 44 b), q]; rfl)), if_neg (show ¬ (m_c σM).1 24 b = iI 0 by rw [s1]; decide)]
  · unfold f_X12_areShelved
    simp (disch := omega) only [iI_lit, n_in, n_within, n_bd, n_ib, n_gix, iI_cl, Int.toNat_natCast, e22, e24, iI_neg, n_ieq]
    rw [if_pos (by omega), if_pos (by omega)]
    by_cases c : vI (m_c σM) 22 a = -1
    · rw [if_pos c, if_pos c]
    · rw [if_neg c, if_neg c]
      by_cases c2 : (m_c σM).1 24 b = iI 0
      · rw [n_ift c2, if_pos c2]
      · rw [n_iff c2, if_neg c2]
set_option maxRecDepth 20000 in
theorem q_s19 : g_s19 z_Inv := by
  intro σX σM hI a0 a1 a2
  obtain ⟨a, ha, rfl⟩ := iI_ex a0
  obtain ⟨b, hb, rfl⟩ := iI_ex a1
  obtain ⟨z, hz, rfl⟩ := iI_ex a2
  obtain ⟨x, hx, hR⟩ := z_openX hI
  obtain ⟨hTap, hLak, hNow, hImg, hShf, hSee, hLrn, hLaw, hVal⟩ := id hR
  obtain ⟨l1, l2, l3, l4, l5, l6⟩ := id hLak
  obtain ⟨h1, h2, h3, h4, h5, h6, h7, h8⟩ := id hNow
  obtain ⟨n, hk⟩ := hR.mk
  have b1 := l1.2
  have b2 := l2.2
  have k1 := hk.1
  have hn6 := hk.2.1
  have f2 : k_rd σM 0 21 = iI (vI (m_c σM) 0 21) := n_core_I rfl rfl
  unfold f_X11_fit f_X12_fit
  simp (disch := omega) only [iI_lit, f2, n_ile, iI_neg]
  -- out of range
  by_cases ca : 0 ≤ a ∧ a ≤ 3
  rotate_left
  · have eX : f_X5_hasTugs (iI a) σX = some (iI 0) := by
      unfold f_X5_hasTugs f_X11_isShelf
      simp (disch := omega) only [iI_lit, n_within, n_bd, n_gdt n_isB, n_ib]
      rw [if_neg ca]
    have eM : f_X12_areShelved (iI a) (iI b) σM = some (iI 0) := by
      unfold f_X12_areShelved
      simp (disch := omega) only [iI_lit, n_in, n_within, n_bd, n_ib]
      rw [if_neg ca]
    rw [eX, n_bd, eM, n_bd, n_ift rfl, n_ift rfl]
    by_cases c0 : vI (m_c σM) 0 21 ≤ 0
    · rw [if_pos c0]
      exact ⟨_, _, rfl, rfl, hI⟩
    · rw [if_neg c0]
      exact ⟨_, _, rfl, rfl, hI⟩
  obtain ⟨a, rfl⟩ := Int.eq_ofNat_of_zero_le ca.1
  by_cases cb : 0 ≤ b ∧ b ≤ 3
  rotate_left
  · have eX : f_X5_hasThrows (iI b) σX = some (iI 0) := by
      unfold f_X5_hasThrows f_X11_isShelf
      simp (disch := omega) only [iI_lit, n_within, n_bd, n_gdt n_isB, n_ib]
      rw [if_neg cb]
    have eM : f_X12_areShelved (iI (a : Int)) (iI b) σM = some (iI 0) := by
      unfold f_X12_areShelved
      simp (disch := omega) only [iI_lit, n_in, n_within, n_bd, n_ib]
      rw [if_pos ca, if_neg cb]
    obtain ⟨e1, _, _⟩ := n_shelved (a := a) (b := 0) hx hR k1 hn6 (by omega) (by omega)
    have eXX : ∀ q, (k_bd (f_X5_hasTugs (iI (a : Int)) σX) fun v5 => k_if (v5 = iI 0) (some (iI (-1))) (k_bd (f_X5_hasThrows (iI b) σX) fun v16 => k_if (v16 = iI 0) (some (iI (-1))) q)) = some (iI (-1)) := fun q => by
      rw [e1, n_bd, eX]
      split
      · rw [n_ift rfl]
      · rw [n_iff (by decide), n_bd, n_ift rfl]
    rw [eXX, eM, n_bd, n_ift rfl]
    by_cases c0 : vI (m_c σM) 0 21 ≤ 0
    · rw [if_pos c0]
      exact ⟨_, _, rfl, rfl, hI⟩
    · rw [if_neg c0]
      exact ⟨_, _, rfl, rfl, hI⟩
  obtain ⟨b, rfl⟩ := Int.eq_ofNat_of_zero_le cb.1
  obtain ⟨e1, e2, e3⟩ := n_shelved (a := a) (b := b) hx hR k1 hn6 (by omega) (by omega)
  rw [e1, n_bd, e2, e3]
  rcases (hShf a (by omega)).1 with ⟨s1, s2⟩ | ⟨s1, s2, s3, s4⟩
  · have s5 : vI (m_c σM) 22 a = -1 := by
      unfold vI
      rw [s1]
      rfl
    simp only [if_pos s5, n_bd, n_kT]
    by_cases c0 : vI (m_c σM) 0 21 ≤ 0
    · rw [if_pos c0]
      exact ⟨_, _, rfl, rfl, hI⟩
    · rw [if_neg c0]
      exact ⟨_, _, rfl, rfl, hI⟩
  rw [if_neg (show ¬ vI (m_c σM) 22 a = -1 by omega), if_neg (show ¬ vI (m_c σM) 0 21 ≤ 0 by omega), n_iff (show ¬ iI 1 = iI 0 by decide), n_bd]
  rcases (hShf b (by omega)).2 with ⟨t1, t2⟩ | ⟨t1, t2, t3⟩
  · rw [if_pos t1, n_ift rfl, if_neg (show ¬ vI (m_c σM) 22 a = -1 by omega), n_bd, n_ift rfl]
    exact ⟨_, _, rfl, rfl, hI⟩
  rw [if_neg (show ¬ (m_c σM).1 24 b = 0 by rw [t1]; decide), n_iff (show ¬ iI 1 = iI 0 by decide), if_neg (show ¬ vI (m_c σM) 22 a = -1 by omega), n_bd, n_iff (show ¬ iI 1 = iI 0 by decide)]
  unfold f_X11_isPart
  simp (disch := omega) only [iI_lit, n_in, n_within, n_bd, n_ib, n_gdt n_isB]
  by_cases c3 : 0 ≤ z ∧ z ≤ 1
  rotate_left
  · rw [if_neg c3, if_neg c3]
    exact ⟨_, _, rfl, rfl, hI⟩
  rw [k1] at t3
  have hW := (l4 s1).2.2
  rw [k1, Int.toNat_natCast] at hW
  rw [if_pos c3, if_pos c3, n_gix (by omega) (by omega), n_gix (by omega) (by omega), iI_cl (by omega), iI_cl (by omega), Int.toNat_natCast, Int.toNat_natCast]
  obtain ⟨s', e4, e5, hF⟩ := n_fitOf (σ := σM) (a := a) (b := b) (k := vI (m_c σM) 0 22) rfl hk (by omega) (by omega) (by omega) s2 b2.2 s3 t3
  have eA : f_X0_above (k_rd σX 43 a) (k_rl σX 44 b) σX = some (iL (n_A (m_c σM) (fun p => vI x 14 p) (n_d4 (vI (m_c σM) 22 a)) (fun j => (m_c σM).1 23 (16 * b + j)) (vI (m_c σM) 0 26) (vI (m_c σM) 0 27) n)) := by
    unfold f_X0_above
    rw [show k_rd σX 43 a = iI (n_e4 (n_d4 (vI (m_c σM) 22 a))) from (n_core_1 hx rfl).trans s4, show k_rl σX 44 b = x.2 44 b from n_core_2 hx rfl, n_rX hx rfl h4.1, n_rX hx rfl h5.1, n_above hx hk hLak hVal h6.1 t3 (s2.r4 b2.2) (vI_rg _ _ _) (vI_rg _ _ _), n_bd]
  have hAr := n_Ar (V := fun p => vI x 14 p) (f := n_d4 (vI (m_c σM) 22 a)) (R := fun j => (m_c σM).1 23 (16 * b + j)) (fg := vI (m_c σM) 0 26) (th := vI (m_c σM) 0 27) hk
  rw [eA, n_bd, e4, n_b2]
  generalize n_A (m_c σM) (fun p => vI x 14 p) (n_d4 (vI (m_c σM) 22 a)) (fun j => (m_c σM).1 23 (16 * b + j)) (vI (m_c σM) 0 26) (vI (m_c σM) 0 27) n = A at *
  obtain ⟨A, rfl⟩ := Int.eq_ofNat_of_zero_le hAr.1
  have hsr : 0 ≤ m_sW (m_c σM) n ∧ m_sW (m_c σM) n ≤ n * 9 := n_sum_r (f := fun p => vI (m_c σM) 13 (4 * p)) (b := 9) (n := n) (fun p hp => (hk.2.2.2.2 p hp).1.1)
  have eW : k_rd σX 12 2 = iI (m_sW (m_c σM) n) := by
    rw [n_core_I hx rfl, l5, k1, Int.toNat_natCast]
  rw [n_plainM e5 hk (by omega) hW c3, n_bd]
  unfold f_X11_plainMean
  rw [eW, iI_l (by omega), show (100 : Int64) = iL 100 from rfl, iL_mul, show 100 * m_sW (m_c σM) n = (((100 * m_sW (m_c σM) n).toNat : Nat) : Int) by omega, n_plainX (by omega) (by omega) c3, n_bd, n_bd, Int.toNat_natCast, iL_i]
  exact ⟨_, _, rfl, rfl, z_close hx e5 hR⟩
