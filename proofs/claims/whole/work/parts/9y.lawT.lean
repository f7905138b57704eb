/-! a law's text on both sides -/
theorem n_cut_at {b : Nat → Int} {N j : Nat} (h : j < N) : n_cut b N j = b j := if_pos h
theorem n_cut_by {b : Nat → Int} {N : Nat} (hb : t_by b N) : t_by (n_cut b N) N := fun j hj => by
  rw [n_cut_at hj]
  exact hb j hj
theorem n_cut_eq {b b' : Nat → Int} {N : Nat} (h : ∀ j, j < N → b j = b' j) : n_cut b N = n_cut b' N := funext fun j => by
  unfold n_cut
  by_cases q : j < N
  · rw [if_pos q, if_pos q, h j q]
  · rw [if_neg q, if_neg q]
theorem n_ev_eq {b b' : Nat → Int} {N : Nat} {L : Nat → Int} (h : ∀ j, j < N → b j = b' j) : n_ev b N L = n_ev b' N L := by
  unfold n_ev
  rw [n_cut_eq h]
  by_cases q : ∀ j, j < N → 1 ≤ b j ∧ b j ≤ 255
  · rw [if_pos q, if_pos (fun j hj => by rw [← h j hj]; exact q j hj)]
  · rw [if_neg q, if_neg (fun z => q (fun j hj => by rw [h j hj]; exact z j hj))]
theorem n_ev_in {b : Nat → Int} {N : Nat} {L : Nat → Int} {P : List t_C} (hb : t_by b N) (hP : t_cls (n_cut b N) N 200 0 = .inr P) : n_ev b N L = t_val L P := by
  unfold n_ev
  rw [if_pos (show ∀ j, j < N → 1 ≤ b j ∧ b j ≤ 255 from hb), hP]
def n_EX (σX : k_St) : Option (Int32 × k_St) :=
  k_if ((4 : Int32) ≤ (k_rd σX 7 4))
    (some ((-1 : Int32), σX))
    (k_b2 (f_X10_faultOf σX) fun v85 s85 =>
    k_if (v85 = (-1 : Int32))
      (k_bd (f_X10_keep s85) fun s100 =>
      k_nm (k_wr s100 1 1 (0 : Int32)) fun s108 =>
      some (((k_rd s108 7 4) - (1 : Int32)), s108))
      (some ((-1 : Int32), s85)))
def n_EM (σM : k_St) : Option (Int32 × k_St) :=
  k_if ((4 : Int32) ≤ (k_rd σM 0 13))
    (some ((-1 : Int32), σM))
    (k_b2 (f_X12_readLaw (k_rd σM 0 13) σM) fun v40 s40 =>
    k_if (v40 = (-1 : Int32))
      (k_nm (k_wr s40 0 2 (0 : Int32)) fun s49 =>
      k_nm (k_wr s49 0 13 ((k_rd s49 0 13) + (1 : Int32))) fun s59 =>
      some (((k_rd s59 0 13) - (1 : Int32)), s59))
      (some ((-1 : Int32), s40)))
theorem n_lawT {σX σM : k_St} (hI : z_Inv σX σM) : ∃ r sX sM, n_EX σX = some (r, sX) ∧ n_EM σM = some (r, sM) ∧ z_Inv sX sM := by
  obtain ⟨x, hx, hR⟩ := z_openX hI
  obtain ⟨N, b, hN, hb, -, -, t1, t2, t3, t4⟩ := n_tap hx hR.1
  have hLaw := hR.2.2.2.2.2.2.2.1
  obtain ⟨⟨hl0, hl1, hl2⟩, hw1, hold⟩ := hLaw
  obtain ⟨l, hle⟩ : ∃ l : Nat, vI (m_c σM) 0 13 = (l : Int) := ⟨(vI (m_c σM) 0 13).toNat, by omega⟩
  have e13m : (m_c σM).1 0 13 = iI (l : Int) := by
    rw [← hle]
    exact iI_of _
  have e13 : σM.1 0 13 = iI (l : Int) := (n_mI rfl).trans e13m
  have e74 : σX.1 7 4 = iI (l : Int) := by
    rw [n_core_1 hx rfl, hl0]
    exact e13m
  have e74r : k_rd σX 7 4 = iI (l : Int) := e74
  have e13r : k_rd σM 0 13 = iI (l : Int) := e13
  unfold n_EX n_EM
  simp only [iI_lit, iI_neg]
  rw [e74r, e13r, n_ile (by omega) (by omega), n_ile (by omega) (by omega)]
  by_cases q : (4 : Int) ≤ (l : Int)
  · rw [if_pos q, if_pos q]
    exact ⟨_, _, _, rfl, rfl, hI⟩
  rw [if_neg q, if_neg q]
  have hbc := n_cut_by hb
  obtain ⟨⟨rX, sX⟩, eX, fX, hX⟩ := u_law hbc hN t1 (fun j hj => by
    rw [n_cut_at hj]
    exact t2 j hj)
  obtain ⟨⟨rM, sM⟩, eM, fM, hM⟩ := v_readLaw (w := l) hbc (by omega) hN t3 (fun j hj => by
    rw [n_cut_at hj]
    exact t4 j hj)
  rw [eX, eM, n_b2, n_b2]
  cases hq : t_cls (n_cut b N) N 200 0 with
  | inl e =>
    rw [hq] at hX hM
    have hX : rX = iI (e : Int) ∧ e ≤ N := hX
    have hM : rM = iI (e : Int) ∧ e ≤ N := hM
    rw [hX.1, hM.1, n_ieq (by omega) (by omega), if_neg (by omega), n_ieq (by omega) (by omega), if_neg (by omega)]
    exact ⟨_, _, _, rfl, rfl, z_close (fX.trans hx) rfl (hR.slot fM (by omega))⟩
  | inr P =>
    rw [hq] at hX hM
    have hX : rX = iI (-1) := hX
    obtain ⟨hM1, hQ, hP, hfl⟩ := hM
    have hM1 : rM = iI (-1) := hM1
    have fX : x_c sX = x := fX.trans hx
    have k74' : sX.1 7 4 = iI (l : Int) := by
      rw [n_core_1 fX rfl, ← n_core_1 hx rfl]
      exact e74
    obtain ⟨s', ek, k2, k74, k10, k9, k9o, k10o, kf⟩ := u_keep (σ := sX) (l := l) (N := N) (b := b) k74' (by omega) (by rw [n_core_1 fX rfl, ← n_core_1 hx rfl]; exact t1) hN (fun j hj => by
      rw [n_core_1 (k := j) fX rfl, ← n_core_1 hx rfl]
      exact t2 j hj)
    have e13s : k_rd (k_wr sM 0 2 (iI 0)) 0 13 = iI (l : Int) := by
      rw [show k_rd (k_wr sM 0 2 (iI 0)) 0 13 = σM.1 0 13 from fM.2 0 13 (by omega) (by omega) (by omega) (by omega)]
      exact e13
    have e74s : k_rd (k_wr s' 1 1 (iI 0)) 7 4 = iI ((l : Int) + 1) := k74
    rw [hX, hM1, n_ift rfl, n_ift rfl, ek, n_bd, n_nm, n_nm, n_nm, e74s, e13s, iI_add, iI_sub, show k_rd (k_wr (k_wr sM 0 2 (iI 0)) 0 13 (iI ((l : Int) + 1))) 0 13 = iI ((l : Int) + 1) from rfl, iI_sub]
    refine ⟨_, _, _, rfl, rfl, z_close (n_xk fX k2 kf) (n_cw (n_cw (n_wm fM) rfl) rfl) ?_⟩
    have hE : ∀ i : Nat, i < l → ∀ L, rp_E sM i L = rp_E (m_c σM) i L := fun i hi L => rp_E_eq (w := l) hi (fM.2 5 i (by omega) (by omega) (by omega) (by omega)) (fun k hk => ⟨fM.2 2 k (by omega) (by omega) (by omega) (by omega), fM.2 3 k (by omega) (by omega) (by omega) (by omega)⟩) (fun k hk => ⟨fM.2 6 k (by omega) (by omega) (by omega) (by omega), fM.2 7 k (by omega) (by omega) (by omega) (by omega), fM.2 8 k (by omega) (by omega) (by omega) (by omega)⟩)
    obtain ⟨hTap, hLak, hNow, hImg, hShf, hSee, hLrn, -, hVal⟩ := hR
    refine ⟨⟨⟨rfl, (by decide : (0 : Int) ≤ (iI 0).toInt), (by decide : (iI 0).toInt ≤ 160)⟩, fun k hk => absurd hk (by show ¬ (k : Int) < 0; omega)⟩, hLak, hNow, hImg, hShf, hSee, hLrn, ⟨⟨k74, ?_, ?_⟩, ⟨hw1.1, hw1.2.1, ?_⟩, fun i hi => ?_⟩, fun p hp => ?_⟩
    · show 0 ≤ (iI ((l : Int) + 1)).toInt
      rw [iI_to (by omega)]
      omega
    · show (iI ((l : Int) + 1)).toInt ≤ 4
      rw [iI_to (by omega)]
      omega
    · show vI (m_c σM) 0 30 < (iI ((l : Int) + 1)).toInt
      rw [iI_to (by omega)]
      omega
    · have hi : (i : Int) < (iI ((l : Int) + 1)).toInt := hi
      rw [iI_to (by omega)] at hi
      by_cases qi : i = l
      · subst qi
        have h10 : (s'.1 10 i).toInt = (N : Int) := by
          rw [k10]
          exact iI_to (by omega)
        have hev : ∀ L, n_ev (fun j => (s'.1 9 (160 * i + j)).toInt) N L = t_val L P := fun L => (n_ev_eq (fun j hj => by
          have := hb j hj
          show (s'.1 9 (160 * i + j)).toInt = b j
          rw [k9 j hj]
          exact iI_to (by omega))).trans (n_ev_in hb hq)
        refine ⟨?_, fun L hL => ?_⟩
        · show 0 ≤ (s'.1 10 i).toInt ∧ (s'.1 10 i).toInt ≤ 160
          omega
        · show rp_E sM i L = some (n_ev (fun j => (s'.1 9 (160 * i + j)).toInt) (s'.1 10 i).toInt.toNat L) ∧ -1000000 ≤ n_ev (fun j => (s'.1 9 (160 * i + j)).toInt) (s'.1 10 i).toInt.toNat L ∧ n_ev (fun j => (s'.1 9 (160 * i + j)).toInt) (s'.1 10 i).toInt.toNat L ≤ 1000000
          rw [h10, Int.toNat_natCast, hev L]
          exact ⟨v_rpE hQ hP hfl (t_cls_RC 200 hq) L, t_cls_B hbc hL 200 (Nat.zero_le _) hq⟩
      · have hil : i < l := by omega
        have hold' := hold i (by omega)
        have h10 : s'.1 10 i = x.1 10 i := (k10o i hil).trans (n_core_1 fX rfl)
        have h9 : ∀ k, k < 160 * l → s'.1 9 k = x.1 9 k := fun k hk => (k9o k hk).trans (n_core_1 fX rfl)
        have h10' : (s'.1 10 i).toInt = vI x 10 i := by
          rw [h10]
          rfl
        have hev : ∀ L, n_ev (fun j => (s'.1 9 (160 * i + j)).toInt) (vI x 10 i).toNat L = n_ev (fun j => vI x 9 (160 * i + j)) (vI x 10 i).toNat L := fun L => n_ev_eq (fun j hj => by
          have h0 := hold'.1
          show (s'.1 9 (160 * i + j)).toInt = vI x 9 (160 * i + j)
          rw [h9 _ (by omega)]
          rfl)
        refine ⟨?_, fun L hL => ?_⟩
        · show 0 ≤ (s'.1 10 i).toInt ∧ (s'.1 10 i).toInt ≤ 160
          rw [h10']
          exact hold'.1
        · show rp_E sM i L = some (n_ev (fun j => (s'.1 9 (160 * i + j)).toInt) (s'.1 10 i).toInt.toNat L) ∧ -1000000 ≤ n_ev (fun j => (s'.1 9 (160 * i + j)).toInt) (s'.1 10 i).toInt.toNat L ∧ n_ev (fun j => (s'.1 9 (160 * i + j)).toInt) (s'.1 10 i).toInt.toNat L ≤ 1000000
          rw [h10', hev L, hE i hil L]
          exact hold'.2 L hL
    · obtain ⟨v1, v2⟩ := hVal p hp
      refine ⟨?_, v2⟩
      refine Eq.trans ?_ v1
      show (if vI (m_c σM) 0 30 = -1 then _ else _) = m_V (m_c σM) p
      unfold m_V
      by_cases q : vI (m_c σM) 0 30 = -1
      · rw [if_pos q, if_pos q]
        rfl
      · have h30 := hw1.2
        rw [if_neg q, if_neg q]
        show (match rp_E sM (vI (m_c σM) 0 30).toNat _ with
          | none => none
          | some v => some (max 0 (min 999 v))) = _
        rw [hE _ (by omega)]
        rfl
