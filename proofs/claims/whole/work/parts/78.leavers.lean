/-! leavers, whole -/
theorem n_10 : ¬ iI 1 = iI 0 := by decide
theorem n_k10 {β : Type} {a b : Option β} [Decidable (iI 1 = iI 0)] : k_if (iI 1 = iI 0) a b = b := n_iff n_10
def n_tf (Fi : Nat → Nat → Int) (z : Int) (a : Nat) : Int := if n_d4 z a < 4 then Fi a (n_d4 z a).toNat else -1
def n_hf (Fi : Nat → Nat → Int) (z : Int) (b : Nat) : Int := if n_wt z b 4 = -1 then -1 else Fi (n_wt z b 4).toNat b
def n_lE (Fi : Nat → Nat → Int) (z : Int) (c : Nat) : Bool := decide (n_tf Fi z (c / 4) < Fi (c / 4) (c % 4)) && decide (n_hf Fi z (c % 4) < Fi (c / 4) (c % 4))
def n_lv (c : Nat) : Int := 10 * ((c / 4 : Nat) : Int) + ((c % 4 : Nat) : Int)
theorem n_tugsFit {s : k_St} {Fi : Nat → Nat → Int} {z : Int} {a : Nat} (h45 : ∀ c, c < 16 → s.2 45 c = iL (Fi (c / 4) (c % 4))) (hz : 0 ≤ z ∧ z ≤ 9999) (ha : a < 4) : f_X5_tugsFitNow (iI z) (iI a) s = some (iL (n_tf Fi z a)) := by
  have hd := n_d4r hz a
  unfold f_X5_tugsFitNow f_X11_isShelf n_tf
  simp (disch := omega) only [iI_lit, n_digitOf hz ha, n_within, n_bd, n_gdt n_isB, n_ib]
  by_cases c : n_d4 z a < 4
  · rw [if_pos (by omega), if_pos c, iI_mul, iI_add, n_gix (by omega) (by omega), iI_cl (by omega), show ((a : Int) * 4 + n_d4 z a).toNat = 4 * a + (n_d4 z a).toNat by omega, show k_rl s 45 (4 * a + (n_d4 z a).toNat) = _ from h45 _ (by omega), show (4 * a + (n_d4 z a).toNat) / 4 = a by omega, show (4 * a + (n_d4 z a).toNat) % 4 = (n_d4 z a).toNat by omega]
  · rw [if_neg (by omega), if_neg c]
    rfl
theorem n_throwsFit {s : k_St} {Fi : Nat → Nat → Int} {z : Int} {b : Nat} (h45 : ∀ c, c < 16 → s.2 45 c = iL (Fi (c / 4) (c % 4))) (hz : 0 ≤ z ∧ z ≤ 9999) (hc : n_cp Fi z 4) (hb : b < 4) : f_X5_throwsFitNow (iI z) (iI b) s = some (iL (n_hf Fi z b)) := by
  unfold f_X5_throwsFitNow n_hf
  simp only [iI_lit]
  refine ok_eq.mp (ok_for 4 (fun u (y : Int32) => y = iI u ∧ ∀ v, v < u → ¬ n_d4 z v = b) ?_ (by omega) (j := 0) ⟨rfl, fun v hv => absurd hv (by omega)⟩ (by omega))
  rintro g u _ ⟨rfl, hu⟩ hj hg
  show k_OK (k_if _ _ _) _
  rw [n_ile (by omega) (by omega)]
  by_cases c0 : (4 : Int) ≤ u
  · rw [if_pos c0, ok_some]
    rcases n_wt_r z b 4 with ⟨h1, h2⟩ | ⟨h1, h2, h3⟩
    · rw [if_pos h1]
      rfl
    · exact absurd h3 (hu _ (by omega))
  have hd := n_d4r hz u
  rw [if_neg c0, n_digitOf hz (by omega), n_bd, n_ieq (by omega) (by omega)]
  by_cases c1 : n_d4 z u = b
  · rw [if_pos c1, iI_mul, iI_add, n_gix (by omega) (by omega), iI_cl (by omega), show ((u : Int) * 4 + (b : Int)).toNat = 4 * u + b by omega, show k_rl s 45 (4 * u + b) = _ from h45 _ (by omega), show (4 * u + b) / 4 = u by omega, show (4 * u + b) % 4 = b by omega, ok_some, n_wt_u hc hb (show u < 4 by omega) c1, if_neg (by omega), Int.toNat_natCast]
  · rw [if_neg c1, ok_nm, iI_add]
    refine hg _ (by omega) ⟨rfl, fun v hv => ?_⟩
    by_cases e : v = u
    · rw [e]
      exact c1
    · exact hu v (by omega)
theorem n_listL {σ x : k_St} {Fi : Nat → Nat → Int} {z i : Int} (hx : x_c σ = x) (h45 : ∀ c, c < 16 → σ.2 45 c = iL (Fi (c / 4) (c % 4))) (hF : ∀ a b, -1 ≤ Fi a b ∧ Fi a b ≤ 5394600) (hz : 0 ≤ z ∧ z ≤ 9999) (hi : -2147483648 ≤ i ∧ i ≤ 2147483647) (hc : n_cp Fi z 4) : k_OK (f_X5_listLeavers (iI z) (iI i) σ) (fun r => r.1 = iI (n_li (n_lE Fi z) n_lv i 16) ∧ x_c r.2 = x) := by
  unfold f_X5_listLeavers
  obtain ⟨s0, e0, hs0⟩ := n_start7 (σ := σ) (E := n_lE Fi z) (v := n_lv) (z := i)
  rw [e0, n_bd]
  simp only [iI_lit]
  refine ok_for 4 (fun a (y : Int32 × k_St) => y.1 = iI a ∧ n_l7 σ y.2 (n_lE Fi z) n_lv i (4 * a)) ?_ (by omega) (j := 0) ⟨rfl, hs0⟩ (by omega)
  rintro g a ⟨q, s⟩ ⟨hq, hs⟩ ha hg
  have hq : q = iI a := hq
  subst hq
  have hs : n_l7 σ s (n_lE Fi z) n_lv i (4 * a) := hs
  show k_OK (k_if _ _ _) _
  rw [n_ile (by omega) (by omega)]
  by_cases c1 : (4 : Int) ≤ a
  · rw [if_pos c1, n_told7 hi hs, n_bd, ok_some, show 4 * a = 16 by omega]
    exact ⟨rfl, (n_frX hs.1 (fun c hc k => by rw [hc]; rfl)).trans hx⟩
  rw [if_neg c1]
  refine ok_for 4 (fun b (y : Int32 × k_St) => y.1 = iI b ∧ n_l7 σ y.2 (n_lE Fi z) n_lv i (4 * a + b)) ?_ (by omega) (j := 0) ⟨rfl, hs⟩ (by omega)
  clear hs
  rintro g2 b ⟨q, s⟩ ⟨hq, hs⟩ hb hg2
  have hq : q = iI b := hq
  subst hq
  have hs : n_l7 σ s (n_lE Fi z) n_lv i (4 * a + b) := hs
  show k_OK (k_if _ _ _) _
  rw [n_ile (by omega) (by omega)]
  by_cases c2 : (4 : Int) ≤ b
  · rw [if_pos c2, ok_nm, iI_add]
    exact hg _ (by omega) ⟨rfl, by rw [show 4 * (a + 1) = 4 * a + b by omega]; exact hs⟩
  have h45s : ∀ c, c < 16 → s.2 45 c = iL (Fi (c / 4) (c % 4)) := fun c hc => by
    rw [(hs.1 45 (by decide)).2]
    exact h45 c hc
  have hFab := hF a b
  have htr : -1 ≤ n_tf Fi z a ∧ n_tf Fi z a ≤ 5394600 := by
    have := hF a (n_d4 z a).toNat
    unfold n_tf
    split <;> omega
  have hhr : -1 ≤ n_hf Fi z b ∧ n_hf Fi z b ≤ 5394600 := by
    have := hF (n_wt z b 4).toNat b
    unfold n_hf
    split <;> omega
  have eE : n_lE Fi z (4 * a + b) = (decide (n_tf Fi z a < Fi a b) && decide (n_hf Fi z b < Fi a b)) := by
    unfold n_lE
    rw [show (4 * a + b) / 4 = a by omega, show (4 * a + b) % 4 = b by omega]
  have no : ¬ (n_tf Fi z a < Fi a b ∧ n_hf Fi z b < Fi a b) → n_l7 σ s (n_lE Fi z) n_lv i (4 * a + b + 1) := fun q => n_skip7 hs (fun r => by
    rw [eE, Bool.and_eq_true, decide_eq_true_eq, decide_eq_true_eq] at r
    exact q r)
  rw [if_neg c2, iI_mul, iI_add, n_gix (by omega) (by omega), iI_cl (by omega), show ((a : Int) * 4 + (b : Int)).toNat = 4 * a + b by omega, show k_rl s 45 (4 * a + b) = _ from h45s _ (by omega), show (4 * a + b) / 4 = a by omega, show (4 * a + b) % 4 = b by omega, ok_nm, n_tugsFit h45s hz (by omega), n_bd, n_lcl (by omega) (by omega)]
  by_cases c3 : Fi a b ≤ n_tf Fi z a
  · rw [if_pos c3, ok_nm, iI_add]
    exact hg2 _ (by omega) ⟨rfl, no (by omega)⟩
  rw [if_neg c3, n_throwsFit h45s hz hc (by omega), n_bd, n_lcl (by omega) (by omega)]
  by_cases c4 : Fi a b ≤ n_hf Fi z b
  · rw [if_pos c4, ok_nm, iI_add]
    exact hg2 _ (by omega) ⟨rfl, no (by omega)⟩
  obtain ⟨s', e2, hs'⟩ := n_add7 hi (by omega) hs (show n_lE Fi z (4 * a + b) = true by
    rw [eE, decide_eq_true (by omega), decide_eq_true (by omega)]
    rfl)
  have ev : iI 10 * iI (a : Int) + iI (b : Int) = iI (n_lv (4 * a + b)) := by
    show _ = iI (10 * (((4 * a + b) / 4 : Nat) : Int) + (((4 * a + b) % 4 : Nat) : Int))
    rw [show (4 * a + b) / 4 = a by omega, show (4 * a + b) % 4 = b by omega, iI_mul, iI_add]
  rw [if_neg c4, ev, e2, n_bd, ok_nm, iI_add]
  exact hg2 _ (by omega) ⟨rfl, hs'⟩
set_option maxRecDepth 20000 in
theorem q_s38 : g_s38 z_Inv := by
  intro σX σM hI a0 a1
  obtain ⟨z, hz, rfl⟩ := iI_ex a0
  obtain ⟨i, hi, rfl⟩ := iI_ex a1
  obtain ⟨x, hx, hR⟩ := z_openX hI
  obtain ⟨hTap, hLak, hNow, hImg, hShf, hSee, hLrn, hLaw, hVal⟩ := id hR
  obtain ⟨l1, l2, l3, l4, l5, l6⟩ := id hLak
  obtain ⟨n, hk⟩ := hR.mk
  have b1 := l1.2
  have k1 := hk.1
  have hn6 := hk.2.1
  have f2 : k_rd σM 0 21 = iI (vI (m_c σM) 0 21) := n_core_I rfl rfl
  unfold f_X11_leavers f_X12_leavers
  simp (disch := omega) only [iI_lit, n_lk hx (n_vI l1.1) l1.2, n_bd, n_ib, iI_neg, n_ilt]
  by_cases c0 : 0 < vI (m_c σM) 0 21
  rotate_left
  · rw [if_neg c0]
    have eM : f_X12_layCouples (iI z) σM = some (iI 0, σM) := by
      unfold f_X12_layCouples
      rw [f2, show (0 : Int32) = iI 0 from rfl, n_ieq (by omega) (by omega), if_pos (by omega)]
    rw [eM, n_b2, n_ift rfl]
    refine ⟨_, _, _, rfl, ?_, hI⟩
    split <;> rfl
  rw [if_pos c0]
  by_cases c1 : 0 ≤ z ∧ z ≤ 9999
  rotate_left
  · have eX : f_X5_isRow (iI z) σX = some (iI 0) := by
      unfold f_X5_isRow
      simp (disch := omega) only [iI_lit, n_within, n_bd, n_ib]
      rw [if_neg c1]
    obtain ⟨⟨u, s1⟩, e1, hu, hF1, hA1⟩ := n_spread (σ := σM) (a := 31) rfl (z := z) (k := 10) hz (by omega)
    have hu : u = iB (n_okd z 10 4) := hu
    rw [n_bf (fun q => c1 ⟨(n_okd4.mp q).1, (n_okd4.mp q).2.1⟩)] at hu
    subst hu
    have hm1 : m_c s1 = m_c σM := n_frM hF1 (fun c hc k => by rw [hc]; rfl)
    have eM : f_X12_layCouples (iI z) σM = some (iI 0, s1) := by
      unfold f_X12_layCouples
      simp only [iI_lit]
      rw [f2, n_ieq (by omega) (by omega), if_neg (by omega), e1, n_b2, n_ift rfl]
    rw [eX, n_bd, n_ift rfl, eM, n_b2, n_ift rfl]
    by_cases ci : i < -1
    · rw [if_pos ci]
      exact ⟨_, _, _, rfl, rfl, hI⟩
    · rw [if_neg ci]
      exact ⟨_, _, _, rfl, rfl, z_close hx hm1 hR⟩
  have hFr := fun a b => n_Fi_r hk a b
  obtain ⟨r1, e1, h1⟩ := n_isRow hx hR hk c1
  obtain ⟨⟨r2, s2⟩, e2, hm2, h2⟩ := n_layCou hx hR hk (by omega) c1
  have hm2 : m_c s2 = m_c σM := hm2
  rw [e1, n_bd, e2, n_b2]
  rcases h1 with ⟨h1, hc⟩ | ⟨h1, hc⟩
  rotate_left
  · have h2 : r2 = iI 0 := by
      rcases h2 with ⟨q1, q2, q3⟩ | ⟨q1, q2⟩
      · exact absurd q2 hc
      · exact q1
    rw [h1, h2, n_ift rfl, n_ift rfl]
    by_cases ci : i < -1
    · rw [if_pos ci]
      exact ⟨_, _, _, rfl, rfl, hI⟩
    · rw [if_neg ci]
      exact ⟨_, _, _, rfl, rfl, z_close hx hm2 hR⟩
  obtain ⟨h2, h3⟩ : r2 = iI 1 ∧ ∀ s, s < 4 → s2.1 31 s = iI (if n_d4 z s = 9 then -1 else n_d4 z s) ∧ s2.1 32 s = iI (n_wt z s 4) := by
    rcases h2 with ⟨q1, q2, q3⟩ | ⟨q1, q2⟩
    · exact ⟨q1, q3⟩
    · exact absurd hc q2
  rw [h1, h2, n_iff (show ¬ iI 1 = iI 0 by decide), n_iff (show ¬ iI 1 = iI 0 by decide)]
  obtain ⟨sX, e3, hF3, hG⟩ := n_reckon hx hR hk
  have hxX : x_c sX = x := (n_frX hF3 (fun c hc k => by rw [hc]; rfl)).trans hx
  have hSh : ∀ (s : k_St) (a b : Nat), m_c s = m_c σM → a < 4 → b < 4 → f_X12_areShelved (iI a) (iI b) s = some (iB (0 ≤ n_Fi (m_c σM) (fun p => vI x 14 p) n a b)) := fun s a b h1 h2 h3 => n_areS hx h1 hR hk h2 h3
  have hFt : ∀ (s : k_St) (a b : Nat), m_c s = m_c σM → a < 4 → b < 4 → 0 ≤ n_Fi (m_c σM) (fun p => vI x 14 p) n a b → ∃ s', f_X12_fitOf (iI a) (iI b) s = some (iI (n_Fi (m_c σM) (fun p => vI x 14 p) n a b), s') ∧ m_c s' = m_c σM ∧ n_Fr i_SF s s' := fun s a b h1 h2 h3 h4 => n_fitF h1 hR hk h2 h3 ((n_Fi_0 hk a b).mp h4).1 ((n_Fi_0 hk a b).mp h4).2
  generalize hFi : n_Fi (m_c σM) (fun p => vI x 14 p) n = Fi at *
  obtain ⟨⟨r4, s4⟩, e4, hr4, hx4⟩ := n_listL hxX hG hFr c1 hi hc
  have hr4 : r4 = iI (n_li (n_lE Fi z) n_lv i 16) := hr4
  have hx4 : x_c s4 = x := hx4
  rw [e3, n_bd, e4, n_b2, hr4]
  by_cases ci : i < -1
  · rw [if_pos ci]
    refine ⟨_, _, _, rfl, ?_, z_close hx4 rfl hR⟩
    unfold n_li
    rw [if_neg (show ¬ i = -1 by omega), n_pk_no (by omega)]
  rw [if_neg ci]
  obtain ⟨E, hE⟩ : ∃ E, E = n_lE Fi z := ⟨_, rfl⟩
  rw [← hE]
  suffices hh : k_OK (k_loop (fun (g20 : Int32 × Int32 × k_St → Option (Int32 × k_St)) (z20 : Int32 × Int32 × k_St) => match z20 with
        | (v3_20, v4_20, s_20) =>
          k_if (iI 4 ≤ v4_20)
            (k_if (iI i = iI (-1))
              (some (v3_20, s_20))
              (some (iI (-1), s_20)))
            (k_loop (fun (g29 : Int32 × Int32 × k_St → Option (Int32 × k_St)) (z29 : Int32 × Int32 × k_St) => match z29 with
              | (v3_29, v5_29, s_29) =>
                k_if (iI 4 ≤ v5_29)
                  (k_nm (v4_20 + iI 1) fun y171 =>
                  g20 (v3_29, y171, s_29))
                  (k_bd (f_X12_areShelved v4_20 v5_29 s_29) fun v40 =>
                  k_if (v40 = iI 0)
                    (k_nm (v5_29 + iI 1) fun y165 =>
                    g29 (v3_29, y165, s_29))
                    (k_gd (k_ix v4_20 4 = true) <|
                    k_if ((k_rd s_29 31 v4_20.toNatClampNeg) = v5_29)
                      (k_nm (v5_29 + iI 1) fun y165 =>
                      g29 (v3_29, y165, s_29))
                      (k_b2 (f_X12_fitOf v4_20 v5_29 s_29) fun v63 s63 =>
                      k_gd (k_ix v4_20 4 = true) <|
                      k_jn (fun (t0_131 : Int32) (s_131 : k_St) =>
                        k_jn (fun (_ : Unit) =>
                          k_if (t0_131 = iI 0)
                            (k_nm ((v3_29 + iI 0)) fun y164 =>
                            k_nm (v5_29 + iI 1) fun y165 =>
                            g29 (y164, y165, s_131))
                            (k_nm ((v3_29 + iI 1)) fun y164 =>
                            k_nm (v5_29 + iI 1) fun y165 =>
                            g29 (y164, y165, s_131))) fun j152 =>
                        k_if (t0_131 = iI 0)
                          (j152 ())
                          (k_if (v3_29 = iI i)
                            (some (((iI 10 * v4_20) + v5_29), s_131))
                            (j152 ()))) fun j131 =>
                      k_jn (fun (s_130 : k_St) =>
                        j131 (iI 0) s_130) fun j130 =>
                      k_jn (fun (s_97 : k_St) =>
                        k_gd (k_ix v5_29 4 = true) <|
                        k_if ((k_rd s_97 32 v5_29.toNatClampNeg) = iI (-1))
                          (j131 (iI 1) s_97)
                          (k_gd (k_ix v5_29 4 = true) <|
                          k_b2 (f_X12_fitOf (k_rd s_97 32 v5_29.toNatClampNeg) v5_29 s_97) fun v120 s120 =>
                          k_if (v63 ≤ v120)
                            (j130 s120)
                            (j131 (iI 1) s120))) fun j97 =>
                      k_if ((k_rd s63 31 v4_20.toNatClampNeg) = iI (-1))
                        (j97 s63)
                        (k_gd (k_ix v4_20 4 = true) <|
                        k_b2 (f_X12_fitOf v4_20 (k_rd s63 31 v4_20.toNatClampNeg) s63) fun v91 s91 =>
                        k_if (v63 ≤ v91)
                          (j130 s91)
                          (j97 s91)))))) 100000 (v3_20, iI 0, s_20))) 100000 (iI 0, iI 0, s2)) (fun r => r.1 = iI (n_li E n_lv i 16) ∧ m_c r.2 = m_c σM) by
    obtain ⟨⟨r5, s5⟩, e5, hr5, hm5⟩ := hh
    have hr5 : r5 = iI (n_li E n_lv i 16) := hr5
    have hm5 : m_c s5 = m_c σM := hm5
    refine ⟨iI (n_li E n_lv i 16), s4, s5, rfl, ?_, z_close hx4 hm5 hR⟩
    rw [← hr5]
    exact e5
  clear e4 hr4 e3 hF3 hG hxX e1 h1 e2 h2
  have hcE : ∀ t, n_cE E (t + 1) = n_cE E t + (if E t = true then 1 else 0) := fun t => rfl
  have hpE : ∀ t, n_pk E n_lv i (t + 1) = if E t = true ∧ (n_cE E t : Int) = i then n_lv t else n_pk E n_lv i t := fun t => rfl
  refine ok_for 4 (fun a (y : Int32 × Int32 × k_St) => y.1 = iI (n_cE E (4 * a) : Nat) ∧ y.2.1 = iI a ∧ m_c y.2.2 = m_c σM ∧ (∀ s, s < 4 → y.2.2.1 31 s = iI (if n_d4 z s = 9 then -1 else n_d4 z s) ∧ y.2.2.1 32 s = iI (n_wt z s 4)) ∧ (¬ i = -1 → n_pk E n_lv i (4 * a) = -1)) ?_ (by omega) (j := 0) ⟨rfl, rfl, hm2, h3, fun _ => rfl⟩ (by omega)
  rintro g a ⟨v3, v4, s⟩ ⟨g1, g2, g3, g4, g5⟩ ha hg
  have g1 : v3 = iI (n_cE E (4 * a) : Nat) := g1
  have g2 : v4 = iI a := g2
  subst g1
  subst g2
  have g3 : m_c s = m_c σM := g3
  show k_OK (k_if _ _ _) _
  rw [n_ile (by omega) (by omega)]
  by_cases c2 : (4 : Int) ≤ a
  · have e16 : 4 * a = 16 := by omega
    rw [e16] at g5 ⊢
    rw [if_pos c2, n_ieq hi (by omega)]
    unfold n_li
    by_cases c3 : i = -1
    · rw [if_pos c3, if_pos c3, ok_some]
      exact ⟨rfl, g3⟩
    · rw [if_neg c3, if_neg c3, ok_some, g5 c3]
      exact ⟨rfl, g3⟩
  rw [if_neg c2]
  refine ok_for 4 (fun b (y : Int32 × Int32 × k_St) => y.1 = iI (n_cE E (4 * a + b) : Nat) ∧ y.2.1 = iI b ∧ m_c y.2.2 = m_c σM ∧ (∀ s, s < 4 → y.2.2.1 31 s = iI (if n_d4 z s = 9 then -1 else n_d4 z s) ∧ y.2.2.1 32 s = iI (n_wt z s 4)) ∧ (¬ i = -1 → n_pk E n_lv i (4 * a + b) = -1)) ?_ (by omega) (j := 0) ⟨rfl, rfl, g3, g4, g5⟩ (by omega)
  clear g3 g4 g5
  rintro g2 b ⟨v3, v5, s⟩ ⟨g1, g2', g3, g4, g5⟩ hb hg2
  have g1 : v3 = iI (n_cE E (4 * a + b) : Nat) := g1
  have g2' : v5 = iI b := g2'
  subst g1
  subst g2'
  have g3 : m_c s = m_c σM := g3
  have g4 : ∀ u, u < 4 → s.1 31 u = iI (if n_d4 z u = 9 then -1 else n_d4 z u) ∧ s.1 32 u = iI (n_wt z u 4) := g4
  have g5 : ¬ i = -1 → n_pk E n_lv i (4 * a + b) = -1 := g5
  have hct := n_cE_r E (4 * a + b)
  show k_OK (k_if _ _ _) _
  rw [n_ile (by omega) (by omega)]
  by_cases c3 : (4 : Int) ≤ b
  · have e4 : 4 * (a + 1) = 4 * a + b := by omega
    rw [if_pos c3, ok_nm, iI_add]
    refine hg _ (by omega) ⟨?_, rfl, g3, g4, ?_⟩
    · rw [e4]
    · rw [e4]
      exact g5
  have hda := n_d4r c1 a
  have hwr := n_wt_r z b 4
  have hFab := hFr a b
  have eE : E (4 * a + b) = true ↔ n_tf Fi z a < Fi a b ∧ n_hf Fi z b < Fi a b := by
    rw [hE]
    unfold n_lE
    rw [show (4 * a + b) / 4 = a by omega, show (4 * a + b) % 4 = b by omega, Bool.and_eq_true, decide_eq_true_eq, decide_eq_true_eq]
  have hs1 : ∀ s', n_Fr i_SF s s' → ∀ u, u < 4 → s'.1 31 u = iI (if n_d4 z u = 9 then -1 else n_d4 z u) ∧ s'.1 32 u = iI (n_wt z u 4) := fun s' hG u hu => by
    rw [(hG 31 (by unfold i_SF; omega)).1, (hG 32 (by unfold i_SF; omega)).1]
    exact g4 u hu
  have no : ∀ s', m_c s' = m_c σM → n_Fr i_SF s s' → ¬ (n_tf Fi z a < Fi a b ∧ n_hf Fi z b < Fi a b) → k_OK (g2 (iI (n_cE E (4 * a + b) : Nat), iI ((b : Int) + 1), s')) (fun r => r.1 = iI (n_li E n_lv i 16) ∧ m_c r.2 = m_c σM) := fun s' h1 h2 h3 => by
    have q : ¬ E (4 * a + b) = true := fun r => h3 (eE.mp r)
    have e1 := hcE (4 * a + b)
    have e2 := hpE (4 * a + b)
    rw [if_neg q] at e1
    rw [if_neg (fun r => q r.1)] at e2
    exact hg2 _ (by omega) ⟨by
      show _ = iI (n_cE E (4 * a + b + 1) : Nat)
      rw [e1]
      rfl, rfl, h1, hs1 s' h2, fun r => by
      show n_pk E n_lv i (4 * a + b + 1) = -1
      rw [e2]
      exact g5 r⟩
  rw [if_neg c3, hSh s a b g3 (by omega) (by omega), n_bd, n_ib]
  by_cases c4 : 0 ≤ Fi a b
  rotate_left
  · rw [if_neg c4, ok_nm, iI_add]
    refine no s g3 n_Fr.rf (fun q => ?_)
    have : -1 ≤ n_tf Fi z a := by
      have := hFr a (n_d4 z a).toNat
      unfold n_tf
      split <;> omega
    omega
  have e31 : k_rd s 31 a = iI (if n_d4 z a = 9 then -1 else n_d4 z a) := (g4 a (by omega)).1
  rw [if_pos c4, n_gix (by omega) (by omega), iI_cl (by omega), Int.toNat_natCast, e31, n_ieq (by split <;> omega) (by omega)]
  by_cases c5 : (if n_d4 z a = 9 then -1 else n_d4 z a) = (b : Int)
  · rw [if_pos c5, ok_nm, iI_add]
    have c5' : n_d4 z a = b := by
      by_cases q : n_d4 z a = 9
      · rw [if_pos q] at c5
        omega
      · rw [if_neg q] at c5
        exact c5
    refine no s g3 n_Fr.rf (fun q => ?_)
    have e : n_tf Fi z a = Fi a b := by
      unfold n_tf
      rw [c5', if_pos (by omega), Int.toNat_natCast]
    omega
  obtain ⟨s1, e1, h1, hG1⟩ := hFt s a b g3 (by omega) (by omega) c4
  rw [if_neg c5, e1, n_b2, n_gix (by omega) (by omega)]
  simp only [n_jn]
  simp only [n_k10, n_kT]
  have no2 : ∀ s', m_c s' = m_c σM → n_Fr i_SF s s' → ¬ (n_tf Fi z a < Fi a b ∧ n_hf Fi z b < Fi a b) → k_OK (k_nm (iI (n_cE E (4 * a + b) : Nat) + iI 0) fun y164 => k_nm (iI (b : Int) + iI 1) fun y165 => g2 (y164, y165, s')) (fun r => r.1 = iI (n_li E n_lv i 16) ∧ m_c r.2 = m_c σM) := fun s' h1 h2 h3 => by
    rw [ok_nm, ok_nm, iI_add, iI_add, Int.add_zero]
    exact no s' h1 h2 h3
  have yes : ∀ s', m_c s' = m_c σM → n_Fr i_SF s s' → (n_tf Fi z a < Fi a b ∧ n_hf Fi z b < Fi a b) → k_OK (k_if (iI (n_cE E (4 * a + b) : Nat) = iI i) (some (iI 10 * iI (a : Int) + iI (b : Int), s')) (k_nm (iI (n_cE E (4 * a + b) : Nat) + iI 1) fun y164 => k_nm (iI (b : Int) + iI 1) fun y165 => g2 (y164, y165, s'))) (fun r => r.1 = iI (n_li E n_lv i 16) ∧ m_c r.2 = m_c σM) := fun s' h1 h2 h3 => by
    have q := eE.mpr h3
    have e1 := hcE (4 * a + b)
    have e2 := hpE (4 * a + b)
    rw [if_pos q] at e1
    rw [n_ieq (by omega) hi]
    by_cases c : (n_cE E (4 * a + b) : Int) = i
    · rw [if_pos c, ok_some]
      refine ⟨?_, h1⟩
      unfold n_li
      rw [if_neg (show ¬ i = -1 by omega), n_pk_st q c 16 (by omega), iI_mul, iI_add]
      show iI _ = iI (10 * (((4 * a + b) / 4 : Nat) : Int) + (((4 * a + b) % 4 : Nat) : Int))
      rw [show (4 * a + b) / 4 = a by omega, show (4 * a + b) % 4 = b by omega]
    · rw [if_neg (fun r => c r.2)] at e2
      rw [if_neg c, ok_nm, ok_nm, iI_add, iI_add]
      exact hg2 _ (by omega) ⟨by
        show _ = iI (n_cE E (4 * a + b + 1) : Nat)
        rw [e1]
        rfl, rfl, h1, hs1 s' h2, fun r => by
        show n_pk E n_lv i (4 * a + b + 1) = -1
        rw [e2]
        exact g5 r⟩
  -- behind the first half
  have half : ∀ s', m_c s' = m_c σM → n_Fr i_SF s s' → n_tf Fi z a < Fi a b → k_OK (k_gd (k_ix (iI (b : Int)) 4 = true) <|
                        k_if ((k_rd s' 32 (iI (b : Int)).toNatClampNeg) = iI (-1))
                          (k_if (iI (n_cE E (4 * a + b) : Nat) = iI i) (some (iI 10 * iI (a : Int) + iI (b : Int), s')) (k_nm (iI (n_cE E (4 * a + b) : Nat) + iI 1) fun y164 => k_nm (iI (b : Int) + iI 1) fun y165 => g2 (y164, y165, s')))
                          (k_gd (k_ix (iI (b : Int)) 4 = true) <|
                          k_b2 (f_X12_fitOf (k_rd s' 32 (iI (b : Int)).toNatClampNeg) (iI (b : Int)) s') fun v120 s120 =>
                          k_if (iI (Fi a b) ≤ v120)
                            (k_nm (iI (n_cE E (4 * a + b) : Nat) + iI 0) fun y164 => k_nm (iI (b : Int) + iI 1) fun y165 => g2 (y164, y165, s120))
                            (k_if (iI (n_cE E (4 * a + b) : Nat) = iI i) (some (iI 10 * iI (a : Int) + iI (b : Int), s120)) (k_nm (iI (n_cE E (4 * a + b) : Nat) + iI 1) fun y164 => k_nm (iI (b : Int) + iI 1) fun y165 => g2 (y164, y165, s120))))) (fun r => r.1 = iI (n_li E n_lv i 16) ∧ m_c r.2 = m_c σM) := fun s' h1 h2 h3 => by
    have e32 : k_rd s' 32 b = iI (n_wt z b 4) := (hs1 s' h2 b (by omega)).2
    rw [n_gix (by omega) (by omega), iI_cl (by omega), Int.toNat_natCast, e32, n_ieq (by omega) (by omega)]
    have eh : n_hf Fi z b = if n_wt z b 4 = -1 then -1 else Fi (n_wt z b 4).toNat b := rfl
    by_cases c : n_wt z b 4 = -1
    · rw [if_pos c] at eh ⊢
      exact yes s' h1 h2 ⟨h3, by omega⟩
    · rw [if_neg c] at eh ⊢
      rcases hwr with q | q
      · exact absurd q.1 c
      have hc2 : 0 ≤ Fi (n_wt z b 4).toNat b := by
        rcases hc (n_wt z b 4).toNat (by omega) with r | r
        · omega
        · have r2 := r.2.1
          rw [q.2.2, Int.toNat_natCast] at r2
          exact r2
      obtain ⟨s2, e2, h4, hG2⟩ := hFt s' (n_wt z b 4).toNat b h1 (by omega) (by omega) hc2
      rw [show (((n_wt z b 4).toNat : Nat) : Int) = n_wt z b 4 by omega] at e2
      have hFw := hFr (n_wt z b 4).toNat b
      rw [n_gix (by omega) (by omega), e2, n_b2, n_ile (by omega) (by omega)]
      by_cases c6 : Fi a b ≤ Fi (n_wt z b 4).toNat b
      · rw [if_pos c6]
        exact no2 s2 h4 (h2.tr hG2) (by omega)
      · rw [if_neg c6]
        exact yes s2 h4 (h2.tr hG2) ⟨h3, by omega⟩
  have e31' : k_rd s1 31 a = iI (if n_d4 z a = 9 then -1 else n_d4 z a) := (hs1 s1 hG1 a (by omega)).1
  rw [e31', n_ieq (by split <;> omega) (by omega)]
  have et : n_tf Fi z a = if n_d4 z a < 4 then Fi a (n_d4 z a).toNat else -1 := rfl
  by_cases c6 : n_d4 z a = 9
  · rw [if_neg (by omega)] at et
    rw [if_pos (by rw [if_pos c6])]
    exact half s1 h1 hG1 (by omega)
  have hda4 : n_d4 z a < 4 ∧ 0 ≤ Fi a (n_d4 z a).toNat := by
    rcases hc a (by omega) with r | r
    · exact absurd r c6
    · exact ⟨r.1, r.2.1⟩
  rw [if_pos hda4.1] at et
  rw [if_neg (by rw [if_neg c6]; omega), if_neg c6]
  obtain ⟨s2, e2, h4, hG2⟩ := hFt s1 a (n_d4 z a).toNat h1 (by omega) (by omega) hda4.2
  rw [show (((n_d4 z a).toNat : Nat) : Int) = n_d4 z a by omega] at e2
  have hFw := hFr a (n_d4 z a).toNat
  rw [n_gix (by omega) (by omega), e2, n_b2, n_ile (by omega) (by omega)]
  by_cases c7 : Fi a b ≤ Fi a (n_d4 z a).toNat
  · rw [if_pos c7]
    exact no2 s2 h4 (hG1.tr hG2) (by omega)
  · rw [if_neg c7]
    exact half s2 h4 (hG1.tr hG2) (by omega)
