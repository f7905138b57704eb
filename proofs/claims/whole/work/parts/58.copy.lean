/-! copy -/
theorem n_add0 (v : Int32) : v + iI 0 = v := by
  rw [iI_of v, iI_add, Int.add_zero]
set_option maxRecDepth 20000 in
theorem q_s44 : g_s44 z_Inv := by
  intro σX σM hI
  obtain ⟨x, hx, hR⟩ := z_openX hI
  obtain ⟨hTap, hLak, hNow, hImg, hShf, hSee, hLrn, hLaw, hVal⟩ := id hR
  obtain ⟨l1, l2, l3, l4, l5, l6⟩ := id hLak
  obtain ⟨h1, h2, h3, h4, h5, h6, h7, h8⟩ := id hNow
  have b1 := l1.2
  have b2 := l2.2
  have f2 : k_rd σM 0 21 = iI (vI (m_c σM) 0 21) := n_core_I rfl rfl
  unfold f_X11_copy f_X12_copy
  simp (disch := omega) only [iI_lit, n_lk hx (n_vI l1.1) l1.2, n_bd, f2, n_ib, n_ieq]
  by_cases c0 : 0 < vI (m_c σM) 0 21
  rotate_left
  · rw [if_neg c0, if_pos (show vI (m_c σM) 0 21 = 0 by omega)]
    exact ⟨_, _, _, rfl, rfl, hI⟩
  rw [if_pos c0, if_neg (show ¬ vI (m_c σM) 0 21 = 0 by omega)]
  obtain ⟨v, sX, s1, s2, e1, e2, e3, e4, e5, e6, e7⟩ := n_ans hx hR c0
  rw [e1, n_b2, e3, n_bd, e4, n_bd]
  obtain ⟨k, hk⟩ := Int.eq_ofNat_of_zero_le b2.1
  have fX : k_rd sX 12 1 = iI (k : Int) := by rw [n_rX e2 rfl l2.1, hk]
  have fM : k_rd s2 0 22 = iI (k : Int) := by rw [n_core_I e5 rfl, hk]
  have gX : k_rl sX 16 1 = x.2 16 1 := n_core_2 e2 rfl
  have g15 : ∀ c, k_rd s2 15 c = (m_c σM).1 15 c := fun c => by
    show s2.1 15 c = _
    rw [(e6 15 (by decide)).1]
    rfl
  rw [fX, fM, gX]
  -- the count
  let In : Nat → Int32 → Nat → Int32 := fun l a j => n_rec a (fun s v => if (m_c σM).1 15 (4 * l + s) = s2.1 18 (4 * l + s) then v + iI 1 else v) j
  refine ⟨n_rec (iI 0) (fun l v => In l v k) 4, sX, s2, ?_, ?_, z_close e2 e5 hR⟩
  · refine ok_eq.mp (ok_for 4 (fun l (z : Int32 × Int32) => z = (n_rec (iI 0) (fun l v => In l v k) l, iI l)) ?_ (by omega) (j := 0) rfl (by omega))
    rintro g l _ rfl hl hg
    show k_OK (k_if _ _ _) _
    rw [n_ile (by omega) (by omega)]
    by_cases c1 : (4 : Int) ≤ l
    · rw [if_pos c1, ok_some, show l = 4 by omega]
    rw [if_neg c1]
    refine ok_for k (fun j (z : Int32 × Int32) => z = (In l (n_rec (iI 0) (fun l v => In l v k) l) j, iI j)) ?_ (by omega) (j := 0) rfl (by omega)
    rintro g2 j _ rfl hj hg2
    show k_OK (k_if _ _ _) _
    rw [n_ile (by omega) (by omega)]
    by_cases c2 : (k : Int) ≤ j
    · rw [if_pos c2, ok_nm, iI_add]
      exact hg _ (by omega) (by rw [show j = k by omega]; rfl)
    obtain ⟨q, q1, q2, q3⟩ := e7 (4 * l + j) (by omega)
    rw [if_neg c2, n_placeOf (by omega) (by omega), n_bd, n_placeOf (by omega) (by omega), n_bd, (h2 (4 * l + j) (by omega)).1, q2, ← q3, ok_if]
    refine ⟨fun c3 => ?_, fun c3 => ?_⟩
    · rw [ok_nm, ok_nm, iI_add]
      exact hg2 _ (by omega) (by show _ = ((if _ then _ else _), _); rw [if_pos c3]; rfl)
    · rw [ok_nm, iI_add]
      exact hg2 _ (by omega) (by show _ = ((if _ then _ else _), _); rw [if_neg c3]; rfl)
  · have eM : k_OK (k_loop (fun (g25 : Int32 × Int32 → Option (Int32 × k_St)) (z25 : Int32 × Int32) => match z25 with
      | (v1_25, v2_25) =>
        k_if (iI 4 ≤ v2_25)
          (some (v1_25, s2))
          (k_loop (fun (g32 : Int32 × Int32 → Option (Int32 × k_St)) (z32 : Int32 × Int32) => match z32 with
            | (v1_32, v3_32) =>
              k_if (iI (k : Int) ≤ v3_32)
                (k_nm (v2_25 + iI 1) fun y77 =>
                g25 (v1_32, y77))
                (k_gd (k_ix ((iI 4 * v2_25) + v3_32) 16 = true) <|
                k_gd (k_ix ((iI 4 * v2_25) + v3_32) 16 = true) <|
                k_if ((k_rd s2 15 ((iI 4 * v2_25) + v3_32).toNatClampNeg) = (k_rd s2 18 ((iI 4 * v2_25) + v3_32).toNatClampNeg))
                  (k_nm ((v1_32 + iI 1)) fun y70 =>
                  k_nm (v3_32 + iI 1) fun y71 =>
                  g32 (y70, y71))
                  (k_nm ((v1_32 + iI 0)) fun y70 =>
                  k_nm (v3_32 + iI 1) fun y71 =>
                  g32 (y70, y71)))) 100000 (v1_25, iI 0))) 100000 (iI 0, iI 0)) (fun r => r = (n_rec (iI 0) (fun l v => In l v k) 4, s2)) := by
      refine ok_for 4 (fun l (z : Int32 × Int32) => z = (n_rec (iI 0) (fun l v => In l v k) l, iI l)) ?_ (by omega) (j := 0) rfl (by omega)
      rintro g l _ rfl hl hg
      show k_OK (k_if _ _ _) _
      rw [n_ile (by omega) (by omega)]
      by_cases c1 : (4 : Int) ≤ l
      · rw [if_pos c1, ok_some, show l = 4 by omega]
      rw [if_neg c1]
      refine ok_for k (fun j (z : Int32 × Int32) => z = (In l (n_rec (iI 0) (fun l v => In l v k) l) j, iI j)) ?_ (by omega) (j := 0) rfl (by omega)
      rintro g2 j _ rfl hj hg2
      show k_OK (k_if _ _ _) _
      rw [n_ile (by omega) (by omega)]
      by_cases c2 : (k : Int) ≤ j
      · rw [if_pos c2, ok_nm, iI_add]
        exact hg _ (by omega) (by rw [show j = k by omega]; rfl)
      have ei : iI 4 * iI (l : Int) + iI (j : Int) = iI ((4 * l + j : Nat) : Int) := by
        simp only [iI_mul, iI_add]
        congr 1
      rw [if_neg c2, ei, n_gix (by omega) (by omega), n_gix (by omega) (by omega), iI_cl (by omega), Int.toNat_natCast, g15, n_add0, ok_if]
      refine ⟨fun c3 => ?_, fun c3 => ?_⟩
      · rw [ok_nm, ok_nm, iI_add]
        exact hg2 _ (by omega) (by show _ = ((if _ then _ else _), _); rw [if_pos (show (m_c σM).1 15 (4 * l + j) = s2.1 18 (4 * l + j) from c3)]; rfl)
      · rw [ok_nm, ok_nm, iI_add]
        exact hg2 _ (by omega) (by show _ = ((if _ then _ else _), _); rw [if_neg (show ¬ (m_c σM).1 15 (4 * l + j) = s2.1 18 (4 * l + j) from c3)]; rfl)
    exact ok_eq.mp eM
