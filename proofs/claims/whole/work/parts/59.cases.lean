/-! cases -/
theorem n_or0 (v : Int32) : v ||| iI 0 = v := by
  show v ||| 0 = v
  simp
theorem n_kT {β : Type} [Decidable True] {a b : Option β} : k_if True a b = a := n_ift trivial
theorem n_kF {β : Type} [Decidable False] {a b : Option β} : k_if False a b = b := n_iff (fun h => h)
set_option maxRecDepth 20000 in
theorem q_s34 : g_s34 z_Inv := by
  intro σX σM hI a0
  obtain ⟨z, hz, rfl⟩ := iI_ex a0
  obtain ⟨x, hx, hR⟩ := z_openX hI
  obtain ⟨hTap, hLak, hNow, hImg, hShf, hSee, hLrn, hLaw, hVal⟩ := id hR
  obtain ⟨l1, l2, l3, l4, l5, l6⟩ := id hLak
  obtain ⟨h1, h2, h3, h4, h5, h6, h7, h8⟩ := id hNow
  obtain ⟨n, hk⟩ := hR.mk
  have b1 := l1.2
  have b2 := l2.2
  have k1 := hk.1
  have k2 := hk.2.1
  have g1 := hk.2.2.1
  have hf4 := h1.1.r4 b2.2
  have f2 : k_rd σM 0 21 = iI (vI (m_c σM) 0 21) := n_core_I rfl rfl
  unfold f_X11_cases f_X12_cases
  simp (disch := omega) only [iI_lit, n_lk hx (n_vI l1.1) l1.2, n_bd, f2, n_ib, n_in, n_within, n_ieq, iI_neg, n_rX hx rfl l1.1]
  by_cases c0 : 0 < vI (m_c σM) 0 21
  rotate_left
  · rw [if_neg c0, if_pos (show vI (m_c σM) 0 21 = 0 by omega)]
    exact ⟨_, rfl, rfl⟩
  rw [if_pos c0, if_neg (show ¬ vI (m_c σM) 0 21 = 0 by omega)]
  by_cases c1 : 0 ≤ z ∧ z ≤ 1
  rotate_left
  · rw [if_neg c1, if_neg c1]
    exact ⟨_, rfl, rfl⟩
  rw [if_pos c1, if_pos c1, k1]
  rw [k1] at h2
  let f : Nat → Int := fun s => ((m_c σM).1 14 s).toInt
  let h : Nat → Int := fun p => n_hv ((m_c σM).1 15) (n_sn (m_c σM) (vI (m_c σM) 0 26) p) (f (n_hd (m_c σM) (vI (m_c σM) 0 27) p).toNat) (vI (m_c σM) 0 23) p
  have e16 : k_rd σX 16 0 = iI (n_e4 f) := (n_core_1 hx rfl).trans h1.2
  have e161 : k_rl σX 16 1 = x.2 16 1 := n_core_2 hx rfl
  obtain ⟨F, hF⟩ : ∃ F : Nat → Int32 → Int32, F = (fun p v => if 0 < vI (m_c σM) 13 (4 * p) ∧ (z = 0 ∧ h p = 100 ∨ z = 1 ∧ 1 ≤ h p ∧ h p ≤ 99) then v ||| o_shl (iI 1) (iI p) else v) := ⟨_, rfl⟩
  refine ⟨n_rec (iI 0) F n, ?_, ?_⟩
  · rw [e16, e161, n_rX hx rfl h4.1, n_rX hx rfl h5.1]
    refine ok_eq.mp (ok_for n (fun P (y : Int32 × Int32) => y = (n_rec (iI 0) F P, iI P)) ?_ (by omega) (j := 0) rfl (by omega))
    rintro g P _ rfl hP hg
    show k_OK (k_if _ _ _) _
    rw [n_ile (by omega) (by omega)]
    by_cases c2 : (n : Int) ≤ P
    · rw [if_pos c2, ok_some, show P = n by omega]
    have hPn : P < n := by omega
    have hh := hk.hd hPn (vI (m_c σM) 0 27)
    have hy := hf4 (n_hd (m_c σM) (vI (m_c σM) 0 27) P).toNat (by omega)
    have esg := n_sign hf4 (s := (n_hd (m_c σM) (vI (m_c σM) 0 27) P).toNat) (by omega)
    rw [show (((n_hd (m_c σM) (vI (m_c σM) 0 27) P).toNat : Nat) : Int) = n_hd (m_c σM) (vI (m_c σM) 0 27) P by omega] at esg
    have esg : f_X11_signOf (iI (n_e4 f)) (iI (n_hd (m_c σM) (vI (m_c σM) 0 27) P)) = some (iI (f (n_hd (m_c σM) (vI (m_c σM) 0 27) P).toNat)) := esg
    have hw := (hk.2.2.2.2 P hPn).1.1
    have hv : 0 ≤ h P ∧ h P ≤ 100 := n_hvr g1
    have ewt : f_X1_told (iI (P : Int)) (iI 0) σX = some (iI (vI (m_c σM) 13 (4 * P))) := by
      rw [show iI 0 = iI ((0 : Nat) : Int) from rfl, n_told (by omega) (by omega)]
      have e := (l6 P (by omega)).1 0 (by omega)
      rw [← n_core_1 hx (c := 13) (k := 4 * P + 0) rfl] at e
      rw [e]
      exact congrArg some (iI_of _)
    have ehit : f_X0_hit (iI (P : Int)) (iI (f (n_hd (m_c σM) (vI (m_c σM) 0 27) P).toNat)) (x.2 16 1) (iI (vI (m_c σM) 0 26)) σX = some (iI (h P)) := n_hit hx hk hLak h6.1 h2 hPn hy (vI_rg _ _ _)
    rw [if_neg c2, n_heardX hx hk hLak hPn (vI_rg _ _ _), n_bd, esg, n_bd, ehit, n_bd, ok_jn]
    simp (disch := omega) only [n_within, n_bd, ewt, iI_add, n_nm, n_ib, n_ile, n_ieq]
    have nx1 : 0 < vI (m_c σM) 13 (4 * P) ∧ (z = 0 ∧ h P = 100 ∨ z = 1 ∧ 1 ≤ h P ∧ h P ≤ 99) → k_OK (g (n_rec (iI 0) F P ||| o_shl (iI 1) (iI P), iI ((P : Int) + 1))) _ := fun hc => hg _ (by omega) (by
      show _ = (F P (n_rec (iI 0) F P), _)
      rw [show F P (n_rec (iI 0) F P) = n_rec (iI 0) F P ||| o_shl (iI 1) (iI P) from by rw [hF]; exact if_pos hc]
      rfl)
    have nx0 : ¬ (0 < vI (m_c σM) 13 (4 * P) ∧ (z = 0 ∧ h P = 100 ∨ z = 1 ∧ 1 ≤ h P ∧ h P ≤ 99)) → k_OK (g (n_rec (iI 0) F P, iI ((P : Int) + 1))) _ := fun hc => hg _ (by omega) (by
      show _ = (F P (n_rec (iI 0) F P), _)
      rw [show F P (n_rec (iI 0) F P) = n_rec (iI 0) F P from by rw [hF]; exact if_neg hc]
      rfl)
    by_cases cz : z = 0
    · rw [if_pos cz]
      by_cases ch : h P = 100
      · rw [if_pos ch]
        by_cases cw : vI (m_c σM) 13 (4 * P) ≤ 0
        · simp only [if_pos cw, Int.reduceEq, if_false, ite_self]
          exact nx0 (by omega)
        · simp only [if_neg cw, Int.reduceEq, if_false]
          exact nx1 (by omega)
      · rw [if_neg ch]
        simp only [n_kT]
        exact nx0 (by omega)
    · rw [if_neg cz]
      by_cases ch : 1 ≤ h P ∧ h P ≤ 99
      · rw [if_pos ch]
        by_cases cw : vI (m_c σM) 13 (4 * P) ≤ 0
        · rw [if_pos cw]
          exact nx0 (by omega)
        · rw [if_neg cw]
          exact nx1 (by omega)
      · rw [if_neg ch]
        exact nx0 (by omega)
  · refine ok_eq.mp (ok_for n (fun P (y : Int32 × Int32) => y = (n_rec (iI 0) F P, iI P)) ?_ (by omega) (j := 0) rfl (by omega))
    rintro g P _ rfl hP hg
    show k_OK (k_if _ _ _) _
    rw [n_ile (by omega) (by omega)]
    by_cases c2 : (n : Int) ≤ P
    · rw [if_pos c2, ok_some, show P = n by omega]
    have hPn : P < n := by omega
    have hh := hk.hd hPn (vI (m_c σM) 0 27)
    have hs := hk.sn hPn (vI (m_c σM) 0 26)
    have hy : 0 ≤ f (n_hd (m_c σM) (vI (m_c σM) 0 27) P).toNat ∧ f (n_hd (m_c σM) (vI (m_c σM) 0 27) P).toNat < 4 := hf4 (n_hd (m_c σM) (vI (m_c σM) 0 27) P).toNat (by omega)
    have hw := (hk.2.2.2.2 P hPn).1.1
    have ewt : f_X12_of (iI (P : Int)) (iI 0) σM = some (iI (vI (m_c σM) 13 (4 * P))) := by
      rw [show iI 0 = iI ((0 : Nat) : Int) from rfl, n_of (by omega) (by omega)]
      exact congrArg some (iI_of (σM.1 13 (4 * P)))
    have nx1 : 0 < vI (m_c σM) 13 (4 * P) ∧ (z = 0 ∧ h P = 100 ∨ z = 1 ∧ 1 ≤ h P ∧ h P ≤ 99) → k_OK (g (n_rec (iI 0) F P ||| o_shl (iI 1) (iI P), iI ((P : Int) + 1))) _ := fun hc => hg _ (by omega) (by
      show _ = (F P (n_rec (iI 0) F P), _)
      rw [show F P (n_rec (iI 0) F P) = n_rec (iI 0) F P ||| o_shl (iI 1) (iI P) from by rw [hF]; exact if_pos hc]
      rfl)
    have nx0 : ¬ (0 < vI (m_c σM) 13 (4 * P) ∧ (z = 0 ∧ h P = 100 ∨ z = 1 ∧ 1 ≤ h P ∧ h P ≤ 99)) → k_OK (g (n_rec (iI 0) F P, iI ((P : Int) + 1))) _ := fun hc => hg _ (by omega) (by
      show _ = (F P (n_rec (iI 0) F P), _)
      rw [show F P (n_rec (iI 0) F P) = n_rec (iI 0) F P from by rw [hF]; exact if_neg hc]
      rfl)
    have ehh : h P = (if ((m_c σM).1 15 (4 * n_sn (m_c σM) (vI (m_c σM) 0 26) P + f (n_hd (m_c σM) (vI (m_c σM) 0 27) P).toNat).toNat).toInt = P then 100 - n_t0 (vI (m_c σM) 0 23) (f (n_hd (m_c σM) (vI (m_c σM) 0 27) P).toNat) else 0) + (if ((m_c σM).1 15 (4 * n_sn (m_c σM) (vI (m_c σM) 0 26) P).toNat).toInt = P then n_t0 (vI (m_c σM) 0 23) (f (n_hd (m_c σM) (vI (m_c σM) 0 27) P).toNat) else 0) := rfl
    have e14 : k_rd σM 14 (n_hd (m_c σM) (vI (m_c σM) 0 27) P).toNat = iI (f (n_hd (m_c σM) (vI (m_c σM) 0 27) P).toNat) := iI_of (σM.1 14 _)
    have e15 : ∀ c, k_rd σM 15 c = iI ((m_c σM).1 15 c).toInt := fun c => iI_of (σM.1 15 c)
    have e23 : k_rd σM 0 23 = iI (vI (m_c σM) 0 23) := n_core_I rfl rfl
    have r15 : ∀ c, -2147483648 ≤ ((m_c σM).1 15 c).toInt ∧ ((m_c σM).1 15 c).toInt ≤ 2147483647 := fun c => iI_rg _
    rw [if_neg c2, ewt, n_bd, n_ile (by omega) (by omega)]
    by_cases cw : vI (m_c σM) 13 (4 * P) ≤ 0
    · rw [if_pos cw, ok_nm, iI_add]
      exact nx0 (by omega)
    rw [if_neg cw, n_heardM (by omega), n_bd, n_gix (by omega) (by omega), iI_cl (by omega), e14, ok_nm, n_seenM (by omega), n_bd, e23]
    generalize f (n_hd (m_c σM) (vI (m_c σM) 0 27) P).toNat = Y at *
    generalize n_sn (m_c σM) (vI (m_c σM) 0 26) P = N at *
    generalize vI (m_c σM) 0 23 = G at *
    simp (disch := omega) only [n_bd, iI_mul, iI_add, n_gix, iI_cl, e15, n_jn, n_nm, n_ieq, n_or0, n_kT, if_true, if_false, Int.reduceEq]
    have ra := r15 (4 * N + Y).toNat
    have rb := r15 (4 * N).toNat
    generalize ((m_c σM).1 15 (4 * N + Y).toNat).toInt = A at *
    generalize ((m_c σM).1 15 (4 * N).toNat).toInt = B at *
    simp (disch := omega) only [n_ieq]
    unfold n_t0 at ehh
    have z01 : z = 0 ∨ z = 1 := by omega
    by_cases cY : Y = 0 <;> by_cases cG : G = 0 <;> by_cases ca : A = (P : Int) <;> by_cases cb : B = (P : Int) <;> by_cases cz : z = 0 <;> simp only [cY, cG, ca, cb, cz, if_true, if_false, n_kT, n_kF, Int.reduceEq] at ehh ⊢ <;> first | exact nx1 (by omega) | exact nx0 (by omega)
