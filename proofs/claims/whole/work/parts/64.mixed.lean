/-! mixed -/
def n_lkp (m : k_St) (c : Nat) (p : Nat) : Int := if 4 * n_hd m (vI m 0 27) p + n_sn m (vI m 0 26) p = c ∧ 0 < vI m 13 (4 * p) then 1 else 0
theorem n_likeX {σ x m : k_St} {n i j : Nat} {V : Nat → Int} (hx : x_c σ = x) (hk : n_mk m n V) (hl : r_lak x m) (hfg : x.1 16 3 = m.1 0 26) (hth : x.1 16 4 = m.1 0 27) (hi : i < 4) (hj : j < 4) : f_X11_placesLike (iI i) (iI j) σ = some (iI (n_sum (n_lkp m (4 * i + j)) n)) := by
  have h6 := hk.2.1
  unfold f_X11_placesLike
  rw [n_rX hx rfl hl.1.1, hk.1, n_rX hx rfl hfg, n_rX hx rfl hth]
  simp only [iI_lit]
  refine ok_eq.mp (ok_for n (fun P (y : Int32 × Int32) => y = (iI (n_sum (n_lkp m (4 * i + j)) P), iI P)) ?_ (by omega) (j := 0) rfl (by omega))
  rintro g P _ rfl hP hg
  show k_OK (k_if _ _ _) _
  rw [n_ile (by omega) (by omega)]
  by_cases c1 : (n : Int) ≤ P
  · rw [if_pos c1, ok_some, show P = n by omega]
  have hPn : P < n := by omega
  have hh := hk.hd hPn (vI m 0 27)
  have hs := hk.sn hPn (vI m 0 26)
  have hw := (hk.2.2.2.2 P hPn).1.1
  have ewt : f_X1_told (iI (P : Int)) (iI 0) σ = some (iI (vI m 13 (4 * P))) := by
    rw [show iI 0 = iI ((0 : Nat) : Int) from rfl, n_told (by omega) (by omega)]
    have e := (hl.2.2.2.2.2 P (by rw [hk.1]; omega)).1 0 (by omega)
    rw [← n_core_1 hx (c := 13) (k := 4 * P + 0) rfl] at e
    rw [e]
    exact congrArg some (iI_of _)
  have es : n_sum (n_lkp m (4 * i + j)) (P + 1) = n_sum (n_lkp m (4 * i + j)) P + n_lkp m (4 * i + j) P := rfl
  have nx : ∀ d : Int, d = n_lkp m (4 * i + j) P → k_OK (g (iI (n_sum (n_lkp m (4 * i + j)) P + d), iI ((P : Int) + 1))) (fun r => r = iI (n_sum (n_lkp m (4 * i + j)) n)) := fun d hd => hg _ (by omega) (by rw [es, hd]; rfl)
  have nx0 : ¬ (4 * n_hd m (vI m 0 27) P + n_sn m (vI m 0 26) P = ((4 * i + j : Nat) : Int) ∧ 0 < vI m 13 (4 * P)) → k_OK (g (iI (n_sum (n_lkp m (4 * i + j)) P), iI ((P : Int) + 1))) (fun r => r = iI (n_sum (n_lkp m (4 * i + j)) n)) := fun hc => by
    have := nx 0 (by unfold n_lkp; rw [if_neg hc])
    rw [Int.add_zero] at this
    exact this
  have nx1 : (4 * n_hd m (vI m 0 27) P + n_sn m (vI m 0 26) P = ((4 * i + j : Nat) : Int) ∧ 0 < vI m 13 (4 * P)) → k_OK (g (iI (n_sum (n_lkp m (4 * i + j)) P + 1), iI ((P : Int) + 1))) (fun r => r = iI (n_sum (n_lkp m (4 * i + j)) n)) := fun hc => nx 1 (by unfold n_lkp; rw [if_pos hc])
  rw [if_neg c1, n_heardX hx hk hl hPn (vI_rg _ _ _), n_bd, n_seenX hx hk hl hPn (vI_rg _ _ _)]
  simp (disch := omega) only [n_jn, n_bd, n_ieq, ewt, n_ile, n_nm, iI_add, n_kT, n_kF, if_true, if_false, Int.reduceEq]
  by_cases c2 : n_hd m (vI m 0 27) P = i
  · by_cases c3 : n_sn m (vI m 0 26) P = j
    · by_cases c4 : vI m 13 (4 * P) ≤ 0
      · simp only [if_pos c2, if_pos c3, if_pos c4]
        exact nx0 (by omega)
      · simp only [if_pos c2, if_pos c3, if_neg c4]
        exact nx1 (by omega)
    · simp only [if_pos c2, if_neg c3]
      exact nx0 (by omega)
  · simp only [if_neg c2]
    exact nx0 (by omega)
set_option maxRecDepth 20000 in
theorem q_s35 : g_s35 z_Inv := by
  intro σX σM hI a0
  obtain ⟨z, hz, rfl⟩ := iI_ex a0
  obtain ⟨x, hx, hR⟩ := z_openX hI
  obtain ⟨hTap, hLak, hNow, hImg, hShf, hSee, hLrn, hLaw, hVal⟩ := id hR
  obtain ⟨l1, l2, l3, l4, l5, l6⟩ := id hLak
  obtain ⟨h1, h2, h3, h4, h5, h6, h7, h8⟩ := id hNow
  obtain ⟨n, hk⟩ := hR.mk
  have b1 := l1.2
  have k1 := hk.1
  have hn6 := hk.2.1
  have f2 : k_rd σM 0 21 = iI (vI (m_c σM) 0 21) := n_core_I rfl rfl
  unfold f_X11_mixed f_X12_mixed
  simp (disch := omega) only [iI_lit, n_lk hx (n_vI l1.1) l1.2, n_bd, f2, n_ib, n_ieq, iI_neg, n_ile]
  by_cases c0 : 0 < vI (m_c σM) 0 21
  rotate_left
  · rw [if_neg c0, if_pos (show vI (m_c σM) 0 21 = 0 by omega)]
    exact ⟨_, _, rfl, rfl, hI⟩
  rw [if_pos c0, if_neg (show ¬ vI (m_c σM) 0 21 = 0 by omega), k1]
  let S : Nat → Int := fun c => n_sum (n_lkp (m_c σM) c) n
  have hS : ∀ c, 0 ≤ S c ∧ S c ≤ 6 := fun c => by
    have := n_sum_r (f := n_lkp (m_c σM) c) (b := 1) (n := n) (fun p _ => by
      unfold n_lkp
      split <;> omega)
    show 0 ≤ n_sum (n_lkp (m_c σM) c) n ∧ n_sum (n_lkp (m_c σM) c) n ≤ 6
    omega
  obtain ⟨E, hE⟩ : ∃ E : Nat → Bool, E = fun c => decide (1 < S c) := ⟨_, rfl⟩
  have hE1 : ∀ c, E c = true ↔ 1 < S c := fun c => by rw [hE]; exact decide_eq_true_iff
  let v : Nat → Int := fun c => 10 * ((c / 4 : Nat) : Int) + ((c % 4 : Nat) : Int)
  obtain ⟨s0, e0, hs0⟩ := n_start7 (σ := σX) (E := E) (v := v) (z := z)
  rw [e0, n_bd]
  obtain ⟨⟨r, sX⟩, e1, hr, hsX⟩ : k_OK (k_loop (fun (g19 : Int32 × k_St → Option (Int32 × k_St)) (z19 : Int32 × k_St) => match z19 with
      | (v2_19, s_19) =>
        k_if (iI 4 ≤ v2_19)
          (k_bd (f_X7_told s_19) fun v70 =>
          some (v70, s_19))
          (k_loop (fun (g26 : Int32 × k_St → Option (Int32 × k_St)) (z26 : Int32 × k_St) => match z26 with
            | (v3_26, s_26) =>
              k_if (iI 4 ≤ v3_26)
                (k_nm (v2_19 + iI 1) fun y60 =>
                g19 (y60, s_26))
                (k_bd (f_X11_placesLike v2_19 v3_26 s_26) fun v34 =>
                k_if (v34 ≤ iI 1)
                  (k_nm (v3_26 + iI 1) fun y54 =>
                  g26 (y54, s_26))
                  (k_bd (f_X7_add ((iI 10 * v2_19) + v3_26) s_26) fun s51 =>
                  k_nm (v3_26 + iI 1) fun y54 =>
                  g26 (y54, s51)))) 100000 (iI 0, s_19))) 100000 (iI 0, s0)) (fun r => r.1 = iI (n_li E v z 16) ∧ n_Fr (fun c => c = 41) σX r.2) := by
    refine ok_for 4 (fun i (y : Int32 × k_St) => y.1 = iI i ∧ n_l7 σX y.2 E v z (4 * i)) ?_ (by omega) (j := 0) ⟨rfl, hs0⟩ (by omega)
    rintro g i ⟨q, s⟩ ⟨hq, hs⟩ hi hg
    have hq : q = iI i := hq
    subst hq
    have hs : n_l7 σX s E v z (4 * i) := hs
    show k_OK (k_if _ _ _) _
    rw [n_ile (by omega) (by omega)]
    by_cases c1 : (4 : Int) ≤ i
    · rw [if_pos c1, n_told7 hz hs, n_bd, ok_some, show 4 * i = 16 by omega]
      exact ⟨rfl, hs.1⟩
    rw [if_neg c1]
    refine ok_for 4 (fun j (y : Int32 × k_St) => y.1 = iI j ∧ n_l7 σX y.2 E v z (4 * i + j)) ?_ (by omega) (j := 0) ⟨rfl, hs⟩ (by omega)
    clear hs
    rintro g2 j ⟨q, s⟩ ⟨hq, hs⟩ hj hg2
    have hq : q = iI j := hq
    subst hq
    have hs : n_l7 σX s E v z (4 * i + j) := hs
    have hxs : x_c s = x := (n_frX hs.1 (fun c hc k => by rw [hc]; rfl)).trans hx
    show k_OK (k_if _ _ _) _
    rw [n_ile (by omega) (by omega)]
    by_cases c2 : (4 : Int) ≤ j
    · rw [if_pos c2, ok_nm, iI_add]
      exact hg _ (by omega) ⟨rfl, by rw [show 4 * (i + 1) = 4 * i + j by omega]; exact hs⟩
    have hSc := hS (4 * i + j)
    rw [if_neg c2, n_likeX hxs hk hLak h4.1 h5.1 (by omega) (by omega), n_bd, show n_sum (n_lkp (m_c σM) (4 * i + j)) n = S (4 * i + j) from rfl, n_ile (by omega) (by omega)]
    by_cases c3 : S (4 * i + j) ≤ 1
    · rw [if_pos c3, ok_nm, iI_add]
      exact hg2 _ (by omega) ⟨rfl, n_skip7 hs (fun q => by have := (hE1 (4 * i + j)).mp q; omega)⟩
    · obtain ⟨s', e2, hs'⟩ := n_add7 hz (by omega) hs ((hE1 (4 * i + j)).mpr (by omega))
      have ev : iI 10 * iI (i : Int) + iI (j : Int) = iI (v (4 * i + j)) := by
        show _ = iI (10 * (((4 * i + j) / 4 : Nat) : Int) + (((4 * i + j) % 4 : Nat) : Int))
        rw [show (4 * i + j) / 4 = i by omega, show (4 * i + j) % 4 = j by omega, iI_mul, iI_add]
      rw [if_neg c3, ev, e2, n_bd, ok_nm, iI_add]
      exact hg2 _ (by omega) ⟨rfl, hs'⟩
  have hr : r = iI (n_li E v z 16) := hr
  refine ⟨iI (n_li E v z 16), sX, by rw [e1, hr], ?_, z_close ((n_frX hsX (fun c hc k => by rw [hc]; rfl)).trans hx) rfl hR⟩
  -- the reference
  unfold n_li
  by_cases cz : -1 ≤ z
  rotate_left
  · rw [if_neg cz, if_neg (show ¬ z = -1 by omega), n_pk_no (by omega)]
  rw [if_pos cz]
  refine ok_eq.mp (ok_for 16 (fun t (y : Int32 × Int32) => y = (iI (n_cE E t : Nat), iI t) ∧ (¬ z = -1 → n_pk E v z t = -1)) ?_ (by omega) (j := 0) ⟨rfl, fun _ => rfl⟩ (by omega))
  rintro g t _ ⟨rfl, hpk⟩ ht hg
  have hct := n_cE_r E t
  show k_OK (k_if _ _ _) _
  rw [n_ile (by omega) (by omega)]
  by_cases c1 : (16 : Int) ≤ t
  · rw [if_pos c1]
    have e16 : t = 16 := by omega
    subst e16
    by_cases c2 : z = -1
    · rw [if_pos c2, if_pos c2, ok_some]
    · rw [if_neg c2, if_neg c2, ok_some, hpk c2]
  rw [if_neg c1]
  refine ok_for n (fun P (y : Int32 × Int32) => y = (iI (n_sum (n_lkp (m_c σM) t) P), iI P)) ?_ (by omega) (j := 0) rfl (by omega)
  rintro g2 P _ rfl hP hg2
  show k_OK (k_if _ _ _) _
  rw [n_ile (by omega) (by omega)]
  have hSt := hS t
  by_cases c2 : (n : Int) ≤ P
  · rw [if_pos c2, show P = n by omega, show n_sum (n_lkp (m_c σM) t) n = S t from rfl, n_ile (by omega) (by omega)]
    have ec : n_cE E (t + 1) = n_cE E t + (if E t = true then 1 else 0) := rfl
    have ep : n_pk E v z (t + 1) = if E t = true ∧ (n_cE E t : Int) = z then v t else n_pk E v z t := rfl
    by_cases c3 : S t ≤ 1
    · have hE0 : ¬ E t = true := fun q => by have := (hE1 _).mp q; omega
      rw [if_neg hE0] at ec
      rw [if_neg (fun q => hE0 q.1)] at ep
      rw [if_pos c3, ok_nm, iI_add]
      exact hg _ (by omega) ⟨by rw [ec]; rfl, fun q => by rw [ep]; exact hpk q⟩
    · have hE0 : E t = true := (hE1 _).mpr (by omega)
      rw [if_pos hE0] at ec
      rw [if_neg c3, n_ieq (by omega) hz]
      by_cases c4 : (n_cE E t : Int) = z
      · rw [if_pos c4, ok_some, if_neg (show ¬ z = -1 by omega), n_pk_st hE0 c4 16 (by omega), iI_rem2 (by omega) (by omega), iI_div2 (by omega) (by omega), iI_mul, iI_add]
        rfl
      · rw [if_neg (fun q => c4 q.2)] at ep
        rw [if_neg c4, ok_nm, ok_nm, iI_add, iI_add]
        exact hg _ (by omega) ⟨by rw [ec]; rfl, fun q => by rw [ep]; exact hpk q⟩
  have hPn : P < n := by omega
  have hh := hk.hd hPn (vI (m_c σM) 0 27)
  have hs := hk.sn hPn (vI (m_c σM) 0 26)
  have hw := (hk.2.2.2.2 P hPn).1.1
  have ewt : f_X12_of (iI (P : Int)) (iI 0) σM = some (iI (vI (m_c σM) 13 (4 * P))) := by
    rw [show iI 0 = iI ((0 : Nat) : Int) from rfl, n_of (by omega) (by omega)]
    exact congrArg some (iI_of (σM.1 13 (4 * P)))
  have ekn : f_X12_known (iI 2) (iI (n_hd (m_c σM) (vI (m_c σM) 0 27) P)) (iI (n_sn (m_c σM) (vI (m_c σM) 0 26) P)) = some (iI (4 * n_hd (m_c σM) (vI (m_c σM) 0 27) P + n_sn (m_c σM) (vI (m_c σM) 0 26) P)) := by
    unfold f_X12_known
    simp only [iI_lit]
    rw [n_iff (show ¬ iI 2 = iI 0 by decide), n_iff (show ¬ iI 2 = iI 1 by decide), iI_mul, iI_add]
  have es : n_sum (n_lkp (m_c σM) t) (P + 1) = n_sum (n_lkp (m_c σM) t) P + n_lkp (m_c σM) t P := rfl
  have nx : ∀ d : Int, d = n_lkp (m_c σM) t P → k_OK (g2 (iI (n_sum (n_lkp (m_c σM) t) P + d), iI ((P : Int) + 1))) _ := fun d hd => hg2 _ (by omega) (by rw [es, hd]; rfl)
  rw [if_neg c2, ewt, n_bd, n_heardM (by omega), n_bd, n_seenM (by omega), n_bd, ekn, n_bd]
  simp (disch := omega) only [n_ile, n_ieq, iI_add, n_nm]
  by_cases c3 : vI (m_c σM) 13 (4 * P) ≤ 0
  · rw [if_pos c3]
    exact nx 0 (by unfold n_lkp; rw [if_neg (by omega)])
  · rw [if_neg c3]
    by_cases c4 : 4 * n_hd (m_c σM) (vI (m_c σM) 0 27) P + n_sn (m_c σM) (vI (m_c σM) 0 26) P = t
    · rw [if_pos c4]
      exact nx 1 (by unfold n_lkp; rw [if_pos ⟨c4, by omega⟩])
    · rw [if_neg c4]
      exact nx 0 (by unfold n_lkp; rw [if_neg (fun q => c4 q.1)])
