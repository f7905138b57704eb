/-! meant, whole -/
theorem n_v4 {e : Nat} : n_p4 (n_f4 e) = ((1000 * (e / 64 % 4) + 100 * (e / 16 % 4) + 10 * (e / 4 % 4) + e % 4 : Nat) : Int) := by
  unfold n_p4 n_f4
  rw [show 4 ^ (3 - 0) = 64 from rfl, show 4 ^ (3 - 1) = 16 from rfl, show 4 ^ (3 - 2) = 4 from rfl, show 4 ^ (3 - 3) = 1 from rfl, Nat.div_one]
  omega
theorem n_digs4 {e : Nat} (he : e < 256) : f_X11_digitsOf (iI e) = some (iI (n_p4 (n_f4 e))) := by
  rw [← iI_nat, n_dgD e he, n_v4, iI_nat]
theorem n_f4k {k e : Nat} (hk : 1 ≤ k ∧ k ≤ 4) (he : e < 256) (h : n_sb k e = true) : ∀ s, s < 4 → n_f4 e s = (n_dk k (n_rk k e) s : Int) := fun s hs => by
  obtain ⟨q0, q1, q2, q3⟩ := n_rk4 hk he h
  unfold n_f4
  rcases (show s = 0 ∨ s = 1 ∨ s = 2 ∨ s = 3 by omega) with rfl | rfl | rfl | rfl
  · rw [q0]
  · rw [q1]
  · rw [q2]
  · rw [q3, show 4 ^ (3 - 3) = 1 from rfl, Nat.div_one]
theorem n_dkr {k j s : Nat} (hk : 1 ≤ k ∧ k ≤ 4) : 0 ≤ (n_dk k j s : Int) ∧ (n_dk k j s : Int) < 4 := by
  have := Nat.mod_lt (j / k ^ (3 - s)) (show 0 < k by omega)
  unfold n_dk
  omega
theorem n_K {k : Nat} (hk : 1 ≤ k ∧ k ≤ 4) : 1 ≤ k * k * k * k ∧ k * k * k * k ≤ 256 := by
  rcases (show k = 1 ∨ k = 2 ∨ k = 3 ∨ k = 4 by omega) with rfl | rfl | rfl | rfl <;> decide
set_option maxRecDepth 20000 in
theorem q_s22 : g_s22 z_Inv := by
  intro σX σM hI a0
  obtain ⟨z, hz, rfl⟩ := iI_ex a0
  obtain ⟨x, hx, hR⟩ := z_openX hI
  obtain ⟨hTap, hLak, hNow, hImg, hShf, hSee, hLrn, hLaw, hVal⟩ := id hR
  obtain ⟨l1, l2, l3, l4, l5, l6⟩ := id hLak
  obtain ⟨h1, h2, h3, h4, h5, h6, h7, h8⟩ := id hNow
  obtain ⟨n, hk⟩ := hR.mk
  have b1 := l1.2
  have b2 := l2.2
  have k1 := hk.1
  have hn6 := hk.2.1
  have f2 : k_rd σM 0 21 = iI (vI (m_c σM) 0 21) := n_core_I rfl rfl
  unfold f_X11_meant f_X12_meant
  simp (disch := omega) only [iI_lit, n_lk hx (n_vI l1.1) l1.2, n_bd, f2, n_ib, n_ieq, iI_neg, n_ile]
  by_cases c0 : 0 < vI (m_c σM) 0 21
  rotate_left
  · rw [if_neg c0, if_pos (show vI (m_c σM) 0 21 = 0 by omega)]
    exact ⟨_, _, _, rfl, rfl, hI⟩
  rw [if_pos c0, if_neg (show ¬ vI (m_c σM) 0 21 = 0 by omega)]
  have hk1 := (l4 c0).2.1
  obtain ⟨k, hk22⟩ := Int.eq_ofNat_of_zero_le b2.1
  have hkk : 1 ≤ k ∧ k ≤ 4 := by omega
  have hK := n_K hkk
  obtain ⟨N, hN⟩ := Int.eq_ofNat_of_zero_le hSee.1.2.1
  have hN20 := hSee.1.2.2
  have hp : ∀ i : Nat, i < N → 0 ≤ vI (m_c σM) 33 i ∧ vI (m_c σM) 33 i < n := fun i hi => by
    have := (hSee.2 i (by omega)).1.2
    omega
  have hhd : ∀ i : Nat, i < N → (n_hd (m_c σM) (vI (m_c σM) 0 27) (vI (m_c σM) 33 i).toNat).toNat < 4 := fun i hi => by
    have := hp i hi
    have := hk.hd (p := (vI (m_c σM) 33 i).toNat) (by omega) (vI (m_c σM) 0 27)
    omega
  obtain ⟨Ek, hEk⟩ : ∃ Ek : Nat → Bool, Ek = fun j => n_ag (m_c σM) (fun s => (n_dk k j s : Int)) N := ⟨_, rfl⟩
  obtain ⟨E4, hE4⟩ : ∃ E4 : Nat → Bool, E4 = fun e => n_sb k e && n_ag (m_c σM) (n_f4 e) N := ⟨_, rfl⟩
  obtain ⟨vk, hvk⟩ : ∃ vk : Nat → Int, vk = fun j => n_p4 (fun s => (n_dk k j s : Int)) := ⟨_, rfl⟩
  obtain ⟨v4, hv4⟩ : ∃ v4 : Nat → Int, v4 = fun e => n_p4 (n_f4 e) := ⟨_, rfl⟩
  obtain ⟨en1, en2⟩ := n_enum (k := k) (E4 := E4) (Ek := Ek) (v4 := v4) (vk := vk) (z := z) (fun e he => by
    rw [hE4, hEk]
    show (n_sb k e && n_ag (m_c σM) (n_f4 e) N) = (n_sb k e && n_ag (m_c σM) (fun s => (n_dk k (n_rk k e) s : Int)) N)
    by_cases c : n_sb k e = true
    · rw [n_ag_c (n_f4k hkk he c) hhd]
    · rw [Bool.eq_false_iff.mpr c, Bool.false_and, Bool.false_and]) (fun e he c => by
    rw [hv4, hvk]
    exact n_p4c (n_f4k hkk he c)) 256 (by omega)
  rw [n_rk256 k (by omega) hkk.1] at en1 en2
  have eli : n_li E4 v4 z 256 = n_li Ek vk z (k * k * k * k) := by
    unfold n_li
    rw [en1, en2]
  obtain ⟨s0, e0, hs0⟩ := n_start7 (σ := σX) (E := E4) (v := v4) (z := z)
  rw [e0, n_bd]
  have hRp : ∀ c, c < 16 → o_pl (x.2 16 1) c = (m_c σM).1 15 c := fun c hc => (h2 c hc).1
  obtain ⟨⟨r, sX⟩, e1, hr, hsX⟩ : k_OK (k_loop (fun (g19 : Int32 × k_St → Option (Int32 × k_St)) (z19 : Int32 × k_St) => match z19 with
      | (v2_19, s_19) =>
        k_if (iI 256 ≤ v2_19)
          (k_bd (f_X7_told s_19) fun v69 =>
          some (v69, s_19))
          (k_bd (f_X11_signsBelow v2_19 (k_rd s_19 12 1)) fun v34 =>
          k_if (v34 = iI 0)
            (k_nm (v2_19 + iI 1) fun y59 =>
            g19 (y59, s_19))
            (k_bd (f_X11_canBeMeant v2_19 s_19) fun v42 =>
            k_if (v42 = iI 0)
              (k_nm (v2_19 + iI 1) fun y59 =>
              g19 (y59, s_19))
              (k_bd (f_X11_digitsOf v2_19) fun v53 =>
              k_bd (f_X7_add v53 s_19) fun s56 =>
              k_nm (v2_19 + iI 1) fun y59 =>
              g19 (y59, s56))))) 100000 (iI 0, s0)) (fun r => r.1 = iI (n_li E4 v4 z 256) ∧ n_Fr (fun c => c = 41) σX r.2) := by
    refine ok_for 256 (fun e (y : Int32 × k_St) => y.1 = iI e ∧ n_l7 σX y.2 E4 v4 z e) ?_ (by omega) (j := 0) ⟨rfl, hs0⟩ (by omega)
    rintro g e ⟨q, s⟩ ⟨hq, hs⟩ he hg
    have hq : q = iI e := hq
    subst hq
    have hs : n_l7 σX s E4 v4 z e := hs
    have hxs : x_c s = x := (n_frX hs.1 (fun c hc k => by rw [hc]; rfl)).trans hx
    show k_OK (k_if _ _ _) _
    rw [n_ile (by omega) (by omega)]
    by_cases c1 : (256 : Int) ≤ e
    · rw [if_pos c1, n_told7 hz hs, n_bd, ok_some, show e = 256 by omega]
      exact ⟨rfl, hs.1⟩
    have hE : E4 e = (n_sb k e && n_ag (m_c σM) (n_f4 e) N) := by rw [hE4]
    rw [if_neg c1, n_rX hxs rfl l2.1, hk22, n_below4 (by omega) hkk.2, n_bd, n_ib]
    by_cases c2 : n_sb k e = true
    rotate_left
    · rw [if_neg c2, ok_nm, iI_add]
      refine hg _ (by omega) ⟨rfl, n_skip7 hs (fun q => ?_)⟩
      rw [hE, Bool.and_eq_true] at q
      exact c2 q.1
    rw [if_pos c2, n_canBe hxs hk hLak hSee h4.1 h5.1 hRp hN (by omega), n_bd, n_ib]
    by_cases c3 : n_ag (m_c σM) (n_f4 e) N = true
    rotate_left
    · rw [if_neg c3, ok_nm, iI_add]
      refine hg _ (by omega) ⟨rfl, n_skip7 hs (fun q => ?_)⟩
      rw [hE, Bool.and_eq_true] at q
      exact c3 q.2
    obtain ⟨s', e2, hs'⟩ := n_add7 hz (by omega) hs (show E4 e = true by rw [hE, c2, c3]; rfl)
    rw [if_pos c3, n_digs4 (by omega), n_bd, show n_p4 (n_f4 e) = v4 e by rw [hv4], e2, n_bd, ok_nm, iI_add]
    exact hg _ (by omega) ⟨rfl, hs'⟩
  have hr : r = iI (n_li E4 v4 z 256) := hr
  have hxX : x_c sX = x := (n_frX hsX (fun c hc k => by rw [hc]; rfl)).trans hx
  -- the reference
  by_cases cz : -1 ≤ z
  rotate_left
  · rw [if_neg cz, e1, hr, eli]
    refine ⟨_, _, _, rfl, ?_, z_close hxX rfl hR⟩
    unfold n_li
    rw [if_neg (show ¬ z = -1 by omega), n_pk_no (by omega)]
  rw [if_pos cz, e1, hr, eli]
  obtain ⟨⟨r2, sM⟩, e3, hr2, hsM⟩ : k_OK (k_loop (fun (g18 : Int32 × Int32 × k_St → Option (Int32 × k_St)) (z18 : Int32 × Int32 × k_St) => match z18 with
        | (v2_18, v3_18, s_18) =>
          k_if (((((k_rd s_18 0 22) * (k_rd s_18 0 22)) * (k_rd s_18 0 22)) * (k_rd s_18 0 22)) ≤ v3_18)
            (if z = -1 then
              (some (v2_18, s_18))
              else (some (iI (-1), s_18)))
            (k_bd (f_X12_nth v3_18 (k_rd s_18 0 22) 16 s_18) fun s51 =>
            k_bd (f_X12_agrees 16 s51) fun v59 =>
            k_if (v59 = iI 0)
              (k_nm (v3_18 + iI 1) fun y81 =>
              g18 (v2_18, y81, s51))
              (k_if (v2_18 = iI z)
                (k_bd (f_X12_packed 16 s51) fun v74 =>
                some (v74, s51))
                (k_nm (v2_18 + iI 1) fun y78 =>
                k_nm (v3_18 + iI 1) fun y81 =>
                g18 (y78, y81, s51))))) 100000 (iI 0, iI 0, σM)) (fun r => r.1 = iI (n_li Ek vk z (k * k * k * k)) ∧ m_c r.2 = m_c σM) := by
    refine ok_for (k * k * k * k) (fun j (y : Int32 × Int32 × k_St) => y.1 = iI (n_cE Ek j : Nat) ∧ y.2.1 = iI j ∧ m_c y.2.2 = m_c σM ∧ (¬ z = -1 → n_pk Ek vk z j = -1)) ?_ (by omega) (j := 0) ⟨rfl, rfl, rfl, fun _ => rfl⟩ (by omega)
    rintro g j ⟨v2, v3, s⟩ ⟨g1, g2, g3, g4⟩ hj hg
    have g1 : v2 = iI (n_cE Ek j : Nat) := g1
    have g2 : v3 = iI j := g2
    have g3 : m_c s = m_c σM := g3
    subst g1
    subst g2
    have hct := n_cE_r Ek j
    show k_OK (k_if _ _ _) _
    have e22 : k_rd s 0 22 = iI (k : Int) := by rw [n_core_I g3 (c := 0) (k := 22) rfl, hk22]
    have eK : iI (k : Int) * iI (k : Int) * iI (k : Int) * iI (k : Int) = iI ((k * k * k * k : Nat) : Int) := by
      simp only [iI_mul, Int.natCast_mul]
    rw [e22, eK, n_ile (by omega) (by omega)]
    by_cases c1 : ((k * k * k * k : Nat) : Int) ≤ j
    · have ej : j = k * k * k * k := by omega
      rw [if_pos c1]
      unfold n_li
      by_cases c2 : z = -1
      · rw [if_pos c2, if_pos c2, ok_some]
        exact ⟨by rw [ej], g3⟩
      · rw [if_neg c2, if_neg c2, ok_some]
        exact ⟨by
          show iI (-1) = _
          rw [← ej, g4 c2], g3⟩
    rw [if_neg c1]
    obtain ⟨s', e4, hF, hA⟩ := n_nth (σ := s) (a := 16) (j := j) rfl hkk (by omega)
    have hms : m_c s' = m_c σM := (n_frM hF (fun c hc k => by rw [hc]; rfl)).trans g3
    have hEj : Ek j = n_ag (m_c σM) (fun s => (n_dk k j s : Int)) N := by rw [hEk]
    have eag := n_agrees (σ := s') (a := 16) (f := fun s => (n_dk k j s : Int)) rfl hms hk hN (by omega) hp (fun t ht => ⟨hA t ht, n_dkr hkk⟩)
    rw [← hEj] at eag
    have ec : n_cE Ek (j + 1) = n_cE Ek j + (if Ek j = true then 1 else 0) := rfl
    have ep : n_pk Ek vk z (j + 1) = if Ek j = true ∧ (n_cE Ek j : Int) = z then vk j else n_pk Ek vk z j := rfl
    rw [e4, n_bd, eag, n_bd, n_ib]
    by_cases c3 : Ek j = true
    rotate_left
    · rw [if_neg c3, ok_nm, iI_add]
      rw [if_neg c3] at ec
      rw [if_neg (fun q => c3 q.1)] at ep
      exact hg _ (by omega) ⟨by rw [ec]; rfl, rfl, hms, fun q => by rw [ep]; exact g4 q⟩
    rw [if_pos c3, n_ieq (by omega) hz]
    rw [if_pos c3] at ec
    by_cases c4 : (n_cE Ek j : Int) = z
    · have epk := n_packed (σ := s') (a := 16) (f := fun s => (n_dk k j s : Int)) rfl hA
      rw [if_pos c4, epk, n_bd, ok_some]
      refine ⟨?_, hms⟩
      unfold n_li
      rw [if_neg (show ¬ z = -1 by omega), n_pk_st c3 c4 (k * k * k * k) (by omega), hvk]
    · rw [if_neg (fun q => c4 q.2)] at ep
      rw [if_neg c4, ok_nm, ok_nm, iI_add, iI_add]
      exact hg _ (by omega) ⟨by rw [ec]; rfl, rfl, hms, fun q => by rw [ep]; exact g4 q⟩
  have hr2 : r2 = iI (n_li Ek vk z (k * k * k * k)) := hr2
  rw [e3, hr2]
  exact ⟨_, _, _, rfl, rfl, z_close hxX hsM hR⟩
