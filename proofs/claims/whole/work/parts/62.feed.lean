/-! feed -/
def n_pX (σ : k_St) (b : Int32) : k_St := if b = 0 then σ else k_wr (k_wr σ 2 (k_rd σ 1 1).toNatClampNeg b) 1 1 (k_rd (k_wr σ 2 (k_rd σ 1 1).toNatClampNeg b) 1 1 + 1)
def n_pM (σ : k_St) (b : Int32) : k_St := if b = 0 then σ else k_wr (k_wr σ 1 (k_rd σ 0 2).toNatClampNeg b) 0 2 (k_rd (k_wr σ 1 (k_rd σ 0 2).toNatClampNeg b) 0 2 + 1)
def n_fl (p : k_St → Int32 → k_St) (σ : k_St) (b : Nat → Int32) : Nat → k_St
  | 0 => σ
  | t + 1 => p (n_fl p σ b t) (b t)
theorem n_nzr (b : Int32) : 0 ≤ n_nz b ∧ n_nz b ≤ 1 := by
  unfold n_nz
  split <;> omega
theorem n_push {σX σM : k_St} {b : Int32} (hI : z_Inv σX σM) (hb : 0 ≤ b.toInt ∧ b.toInt ≤ 255) (hl : vI (m_c σM) 0 2 + n_nz b ≤ 160) : z_Inv (n_pX σX b) (n_pM σM b) ∧ vI (m_c (n_pM σM b)) 0 2 = vI (m_c σM) 0 2 + n_nz b := by
  unfold n_pX n_pM
  unfold n_nz at hl ⊢
  by_cases c : b = 0
  · simp only [if_pos c]
    exact ⟨hI, by omega⟩
  simp only [if_neg c]
  simp only [if_neg c] at hl
  have hb1 : 1 ≤ b.toInt := by
    by_cases e : 1 ≤ b.toInt
    · exact e
    · exfalso
      apply c
      rw [iI_of b, show b.toInt = 0 by omega]
      rfl
  obtain ⟨x, m, hx, hm, hR⟩ := z_open hI
  obtain ⟨hTap, hLak, hNow, hImg, hShf, hSee, hLrn, hLaw, hVal⟩ := id hR
  obtain ⟨⟨t1, t2⟩, t3⟩ := id hTap
  rw [hm] at hl
  obtain ⟨L, hL⟩ := Int.eq_ofNat_of_zero_le t2.1
  have f1 : k_rd σX 1 1 = iI (L : Int) := by rw [n_rX hx rfl t1, hL]
  have f2 : k_rd σM 0 2 = iI (L : Int) := by rw [n_core_I hm (c := 0) (k := 2) rfl, hL]
  rw [f1, f2, iI_cl (by omega), Int.toNat_natCast, n_rwc (by decide), n_rwc (by decide), f1, f2, show (1 : Int32) = iI 1 from rfl, iI_add]
  have hm2 := n_cw (n_cw (x := b) (k := L) hm (show m_scr 1 L = false from rfl)) (x := iI ((L : Int) + 1)) (show m_scr 0 2 = false from rfl)
  refine ⟨z_close (n_cw (n_cw hx rfl) rfl) hm2 ⟨⟨⟨rfl, ?_⟩, fun k hk => ?_⟩, hLak, hNow, hImg, hShf, hSee, hLrn, hLaw, hVal⟩, ?_⟩
  · show 0 ≤ (iI ((L : Int) + 1)).toInt ∧ (iI ((L : Int) + 1)).toInt ≤ 160
    rw [iI_to (by omega)]
    omega
  · have hk : (k : Int) < (iI ((L : Int) + 1)).toInt := hk
    rw [iI_to (by omega)] at hk
    show (k_wr x 2 L b).1 2 k = (k_wr m 1 L b).1 1 k ∧ 1 ≤ ((k_wr m 1 L b).1 1 k).toInt ∧ ((k_wr m 1 L b).1 1 k).toInt ≤ 255
    by_cases e : k = L
    · subst e
      rw [wr_s, wr_s]
      exact ⟨rfl, hb1, hb.2⟩
    · rw [wr_k e, wr_k e]
      exact t3 k (by omega)
  · rw [show m_c (k_wr (k_wr σM 1 L b) 0 2 (iI ((L : Int) + 1))) = _ from hm2, hm, hL]
    show (iI ((L : Int) + 1)).toInt = _
    rw [iI_to (by omega)]
def n_W (a b c d e : Int32) (i : Nat) : Int32 := match i with
  | 0 => a
  | 1 => b
  | 2 => c
  | 3 => d
  | _ => e
def n_bt5 (W : Nat → Int32) (t : Nat) : Int32 := n_by (W (t / 4)) (24 - 8 * (t % 4))
def n_ct (b : Nat → Int32) (t : Nat) : Int := n_sum (fun j => n_nz (b j)) t
theorem n_ct_m {b : Nat → Int32} : ∀ {t u : Nat}, t ≤ u → n_ct b t ≤ n_ct b u
  | t, 0, h => by
    have : t = 0 := by omega
    subst this
    exact Int.le_refl _
  | t, u + 1, h => by
    by_cases e : t = u + 1
    · subst e
      exact Int.le_refl _
    · have := n_ct_m (b := b) (show t ≤ u by omega)
      have := n_nzr (b u)
      show n_ct b t ≤ n_ct b u + n_nz (b u)
      omega
/-- all pushes, side by side -/
theorem n_pushes {σX σM : k_St} {b : Nat → Int32} (hI : z_Inv σX σM) (hb : ∀ t, 0 ≤ (b t).toInt ∧ (b t).toInt ≤ 255) {N : Nat} (hl : vI (m_c σM) 0 2 + n_ct b N ≤ 160) : ∀ t, t ≤ N → z_Inv (n_fl n_pX σX b t) (n_fl n_pM σM b t) ∧ vI (m_c (n_fl n_pM σM b t)) 0 2 = vI (m_c σM) 0 2 + n_ct b t
  | 0, _ => ⟨hI, by show _ = vI (m_c σM) 0 2 + 0; rw [Int.add_zero]; rfl⟩
  | t + 1, h => by
    obtain ⟨h1, h2⟩ := n_pushes hI hb hl t (by omega)
    have h3 := n_ct_m (b := b) h
    have e : n_ct b (t + 1) = n_ct b t + n_nz (b t) := rfl
    obtain ⟨h4, h5⟩ := n_push h1 (hb t) (by rw [h2]; omega)
    exact ⟨h4, by
      show vI (m_c (n_pM (n_fl n_pM σM b t) (b t))) 0 2 = _
      rw [h5, h2, e]
      omega⟩
theorem n_byteOf {a b c d e : Int32} {t : Nat} (ht : t < 20) : f_X12_byteOf a b c d e (iI t) = some (n_bt5 (n_W a b c d e) t) := by
  unfold f_X12_byteOf n_bt5
  have e1 : iI 24 - iI 8 * o_rem (iI (t : Int)) (iI 4) = nI (24 - 8 * (t % 4)) := by
    rw [iI_rem2 (by omega) (by omega), show (t : Int).tmod 4 = ((t % 4 : Nat) : Int) from rfl, iI_mul, iI_sub, iI_nat]
    congr 1
    omega
  have e2 : ∀ w : Int32, o_shr w (nI (24 - 8 * (t % 4))) &&& iI 255 = n_by w (24 - 8 * (t % 4)) := fun w => n_byM (by omega)
  simp (disch := omega) only [iI_lit, n_jn, n_ile, e1, e2]
  by_cases c4 : (4 : Int) ≤ t
  · rw [if_pos c4]
    by_cases c8 : (8 : Int) ≤ t
    · rw [if_pos c8]
      by_cases c12 : (12 : Int) ≤ t
      · rw [if_pos c12]
        by_cases c16 : (16 : Int) ≤ t
        · rw [if_pos c16, show t / 4 = 4 by omega]
          rfl
        · rw [if_neg c16, show t / 4 = 3 by omega]
          rfl
      · rw [if_neg c12, show t / 4 = 2 by omega]
        rfl
    · rw [if_neg c8, show t / 4 = 1 by omega]
      rfl
  · rw [if_neg c4, show t / 4 = 0 by omega]
    rfl
theorem n_bt5r {W : Nat → Int32} (t : Nat) : 0 ≤ (n_bt5 W t).toInt ∧ (n_bt5 W t).toInt ≤ 255 := n_byR (by omega)
/-- one word added in the class -/
theorem n_addX {σX σM : k_St} {W : Nat → Int32} (hI : z_Inv σX σM) (hl : vI (m_c σM) 0 2 + n_ct (n_bt5 W) 20 ≤ 160) {i : Nat} (hi : i < 5) : f_X8_add (W i) (n_fl n_pX σX (n_bt5 W) (4 * i)) = some (n_fl n_pX σX (n_bt5 W) (4 * i + 4)) := by
  unfold f_X8_add
  refine ok_eq.mp (ok_for 4 (fun j (y : Int32 × k_St) => y.1 = iI (24 - 8 * (j : Int)) ∧ y.2 = n_fl n_pX σX (n_bt5 W) (4 * i + j)) ?_ (by omega) (j := 0) ⟨rfl, rfl⟩ (by omega))
  rintro g j ⟨v, s⟩ ⟨hv, hs⟩ hj hg
  have hv : v = iI (24 - 8 * (j : Int)) := hv
  have hs : s = n_fl n_pX σX (n_bt5 W) (4 * i + j) := hs
  subst hv
  have hs : s = n_fl n_pX σX (n_bt5 W) (4 * i + j) := hs
  show k_OK (k_if _ _ _) _
  rw [show (0 : Int32) = iI 0 from rfl, n_ilt (by omega) (by omega)]
  by_cases c : 24 - 8 * (j : Int) < 0
  · rw [if_pos c, ok_some, hs, show j = 4 by omega]
  rw [if_neg c, ok_nm]
  have eb : o_ushr (W i) (iI (24 - 8 * (j : Int))) &&& 255 = n_bt5 W (4 * i + j) := by
    unfold n_bt5 n_by
    rw [show (4 * i + j) / 4 = i by omega, show (4 * i + j) % 4 = j by omega, iI_nat, show ((24 - 8 * j : Nat) : Int) = 24 - 8 * (j : Int) by omega]
  obtain ⟨h1, h2⟩ := n_pushes hI (n_bt5r (W := W)) hl (4 * i + j) (by omega)
  have h3 := n_ct_m (b := n_bt5 W) (show 4 * i + j + 1 ≤ 20 by omega)
  have e3 : n_ct (n_bt5 W) (4 * i + j + 1) = n_ct (n_bt5 W) (4 * i + j) + n_nz (n_bt5 W (4 * i + j)) := rfl
  obtain ⟨x, m, hx, hm, hR⟩ := z_open h1
  obtain ⟨⟨t1, t2⟩, t3⟩ := id hR.1
  rw [← hs] at hx
  have f1 : k_rd s 1 1 = iI (vI m 0 2) := n_rX hx rfl t1
  rw [hm] at h2
  have nx : ∀ s' : k_St, s' = n_pX s (n_bt5 W (4 * i + j)) → k_OK (g (iI (24 - 8 * (j : Int)) + -8, s')) (fun r => r = n_fl n_pX σX (n_bt5 W) (4 * i + 4)) := fun s' hs' => hg _ (by omega) ⟨by
    show iI (24 - 8 * (j : Int)) + -8 = _
    rw [show (-8 : Int32) = iI (-8) from rfl, iI_add]
    congr 1
    omega, by
    show s' = n_pX (n_fl n_pX σX (n_bt5 W) (4 * i + j)) (n_bt5 W (4 * i + j))
    rw [hs', hs]⟩
  show k_OK (k_if (o_ushr (W i) (iI (24 - 8 * (j : Int))) &&& 255 = iI 0) _ _) _
  rw [eb, ok_if]
  refine ⟨fun c0 => ?_, fun c0 => ?_⟩
  · rw [ok_nm]
    exact nx _ (by unfold n_pX; rw [if_pos (show n_bt5 W (4 * i + j) = 0 from c0)])
  · have hz : n_nz (n_bt5 W (4 * i + j)) = 1 := by
      unfold n_nz
      rw [if_neg (show ¬ n_bt5 W (4 * i + j) = 0 from c0)]
    have en : n_pX s (n_bt5 W (4 * i + j)) = k_wr (k_wr s 2 (k_rd s 1 1).toNatClampNeg (n_bt5 W (4 * i + j))) 1 1 (k_rd (k_wr s 2 (k_rd s 1 1).toNatClampNeg (n_bt5 W (4 * i + j))) 1 1 + 1) := by
      unfold n_pX
      rw [if_neg (show ¬ n_bt5 W (4 * i + j) = 0 from c0)]
    have nx2 := nx _ en.symm
    have g1 : k_ix (k_rd s 1 1) 160 = true := by
      rw [f1]
      exact (iI_ix (by omega)).mpr ⟨by omega, by omega⟩
    have g2 : ¬ (160 : Int32) ≤ k_rd s 1 1 := by
      rw [f1, show (160 : Int32) = iI 160 from rfl, iI_le (by omega) (by omega)]
      omega
    rw [n_iff g2, n_gdt g1]
    exact nx2
set_option maxRecDepth 20000 in
theorem q_s0 : g_s0 z_Inv := by
  intro σX σM hI a0 a1 a2 a3 a4
  obtain ⟨x, m, hx, hm, hR⟩ := z_open hI
  obtain ⟨⟨t1, t2⟩, t3⟩ := id hR.1
  obtain ⟨b, hbW⟩ : ∃ b, b = n_bt5 (n_W a0 a1 a2 a3 a4) := ⟨_, rfl⟩
  have hT : n_ct b 20 = n_nz (n_by a0 24) + n_nz (n_by a0 16) + n_nz (n_by a0 8) + n_nz (n_by a0 0) + (n_nz (n_by a1 24) + n_nz (n_by a1 16) + n_nz (n_by a1 8) + n_nz (n_by a1 0)) + (n_nz (n_by a2 24) + n_nz (n_by a2 16) + n_nz (n_by a2 8) + n_nz (n_by a2 0)) + (n_nz (n_by a3 24) + n_nz (n_by a3 16) + n_nz (n_by a3 8) + n_nz (n_by a3 0)) + (n_nz (n_by a4 24) + n_nz (n_by a4 16) + n_nz (n_by a4 8) + n_nz (n_by a4 0)) := by
    have e : n_ct b 20 = 0 + n_nz (n_by a0 24) + n_nz (n_by a0 16) + n_nz (n_by a0 8) + n_nz (n_by a0 0) + n_nz (n_by a1 24) + n_nz (n_by a1 16) + n_nz (n_by a1 8) + n_nz (n_by a1 0) + n_nz (n_by a2 24) + n_nz (n_by a2 16) + n_nz (n_by a2 8) + n_nz (n_by a2 0) + n_nz (n_by a3 24) + n_nz (n_by a3 16) + n_nz (n_by a3 8) + n_nz (n_by a3 0) + n_nz (n_by a4 24) + n_nz (n_by a4 16) + n_nz (n_by a4 8) + n_nz (n_by a4 0) := by
      rw [hbW]
      rfl
    rw [e]
    omega
  have hTr : ∀ t, t ≤ 20 → 0 ≤ n_ct b t ∧ n_ct b t ≤ 20 := fun t ht => by
    have := n_sum_r (f := fun j => n_nz (b j)) (b := 1) (n := t) (fun p _ => n_nzr (b p))
    have e : n_ct b t = n_sum (fun j => n_nz (b j)) t := rfl
    omega
  have f1 : k_rd σX 1 1 = iI (vI m 0 2) := n_rX hx rfl t1
  have f2 : k_rd σM 0 2 = iI (vI m 0 2) := n_core_I hm (c := 0) (k := 2) rfl
  have h20 := hTr 20 (by omega)
  have hby : ∀ t : Nat, t < 20 → f_X12_byteOf a0 a1 a2 a3 a4 (iI t) = some (b t) := fun t ht => by
    rw [hbW]
    exact n_byteOf ht
  have hbr : ∀ t, 0 ≤ (b t).toInt ∧ (b t).toInt ≤ 255 := fun t => by
    rw [hbW]
    exact n_bt5r t
  -- the reference's count
  have ecnt : ∀ Q : Int32 × k_St → Prop, (vI m 0 2 + n_ct b 20 ≤ 160 → ∃ w, Q (iI (vI (m_c w) 0 2), w) ∧ w = n_fl n_pM σM b 20) → (¬ vI m 0 2 + n_ct b 20 ≤ 160 → Q (iI (-1), σM)) → k_OK (f_X12_feed a0 a1 a2 a3 a4 σM) Q := by
    intro Q hQ1 hQ2
    unfold f_X12_feed
    simp only [iI_lit, iI_neg]
    refine ok_for 20 (fun t (y : Int32 × Int32) => y = (iI (n_ct b t), iI t)) ?_ (by omega) (j := 0) rfl (by omega)
    rintro g t _ rfl ht hg
    show k_OK (k_if _ _ _) _
    rw [n_ile (by omega) (by omega)]
    by_cases c : (20 : Int) ≤ t
    rotate_left
    · have h2 := hTr t (by omega)
      rw [if_neg c, hby t (by omega), n_bd, ok_if]
      have e : n_ct b (t + 1) = n_ct b t + n_nz (b t) := rfl
      refine ⟨fun c0 => ?_, fun c0 => ?_⟩
      · rw [ok_nm, ok_nm, iI_add, iI_add]
        refine hg _ (by omega) ?_
        rw [e]
        unfold n_nz
        rw [if_pos (show b t = 0 from c0)]
        rfl
      · rw [ok_nm, ok_nm, iI_add, iI_add]
        refine hg _ (by omega) ?_
        rw [e]
        unfold n_nz
        rw [if_neg (show ¬ b t = 0 from c0)]
        rfl
    rw [if_pos c, show t = 20 by omega, f2, iI_add, n_ile (by omega) (by omega)]
    by_cases cT : vI m 0 2 + n_ct b 20 ≤ 160
    rotate_left
    · rw [if_neg cT, ok_some]
      exact hQ2 cT
    rw [if_pos cT]
    clear hg
    obtain ⟨w, hw1, hw2⟩ := hQ1 cT
    refine ok_for 20 (fun t (y : Int32 × k_St) => y = (iI t, n_fl n_pM σM b t)) ?_ (by omega) (j := 0) rfl (by omega)
    rintro g t _ rfl ht hg
    show k_OK (k_if _ _ _) _
    rw [n_ile (by omega) (by omega)]
    by_cases c : (20 : Int) ≤ t
    · rw [if_pos c, ok_some, show t = 20 by omega, ← hw2, n_core_I (s := m_scr) (σ := w) rfl (c := 0) (k := 2) rfl]
      exact hw1
    have hl2 : vI (m_c σM) 0 2 + n_ct b 20 ≤ 160 := by
      rw [hm]
      exact cT
    obtain ⟨h1, h2⟩ := n_pushes hI hbr hl2 t (by omega)
    have h3 := n_ct_m (b := b) (show t + 1 ≤ 20 by omega)
    have e3 : n_ct b (t + 1) = n_ct b t + n_nz (b t) := rfl
    have h0 := (hTr t (by omega)).1
    have e2 : k_rd (n_fl n_pM σM b t) 0 2 = iI (vI (m_c σM) 0 2 + n_ct b t) := by
      rw [n_core_I (s := m_scr) (σ := n_fl n_pM σM b t) rfl (c := 0) (k := 2) rfl, h2]
    have nx : ∀ s', s' = n_pM (n_fl n_pM σM b t) (b t) → k_OK (g (iI (t : Int) + iI 1, s')) Q := fun s' hs' => hg _ (by omega) (by
      rw [iI_add, hs']
      rfl)
    rw [if_neg c, hby t (by omega), n_bd, ok_if]
    refine ⟨fun c0 => ?_, fun c0 => ?_⟩
    · rw [ok_nm]
      exact nx _ (by unfold n_pM; rw [if_pos (show b t = 0 from c0)])
    · have hz : n_nz (b t) = 1 := by
        unfold n_nz
        rw [if_neg (show ¬ b t = 0 from c0)]
      have en : n_pM (n_fl n_pM σM b t) (b t) = k_wr (k_wr (n_fl n_pM σM b t) 1 (k_rd (n_fl n_pM σM b t) 0 2).toNatClampNeg (b t)) 0 2 (k_rd (k_wr (n_fl n_pM σM b t) 1 (k_rd (n_fl n_pM σM b t) 0 2).toNatClampNeg (b t)) 0 2 + 1) := by
        unfold n_pM
        rw [if_neg (show ¬ b t = 0 from c0)]
      have nx2 := nx _ en.symm
      have hmm : vI (m_c σM) 0 2 = vI m 0 2 := by rw [hm]
      have g1 : k_ix (k_rd (n_fl n_pM σM b t) 0 2) 160 = true := by
        rw [e2]
        exact (iI_ix (by omega)).mpr ⟨by omega, by omega⟩
      show k_OK (k_gd (k_ix (k_rd (n_fl n_pM σM b t) 0 2) 160 = true) _) _
      rw [n_gdt g1]
      exact nx2
  have eX : f_X11_feed a0 a1 a2 a3 a4 σX = k_if (iI (vI m 0 2 + n_ct b 20) ≤ iI 160) (k_bd (f_X8_add a0 σX) fun s51 => k_bd (f_X8_add a1 s51) fun s59 => k_bd (f_X8_add a2 s59) fun s67 => k_bd (f_X8_add a3 s67) fun s76 => k_bd (f_X8_add a4 s76) fun s85 => some ((k_rd s85 1 1), s85)) (some (iI (-1), σX)) := by
    unfold f_X11_feed
    rw [n_signsIn, n_bd, n_signsIn, n_bd, n_signsIn, n_bd, n_signsIn, n_bd, n_signsIn, n_bd, f1, n_nm]
    simp only [iI_add]
    rw [hT]
    rfl
  rw [eX, n_ile (by omega) (by omega)]
  by_cases cT : vI m 0 2 + n_ct b 20 ≤ 160
  · have hl2 : vI (m_c σM) 0 2 + n_ct (n_bt5 (n_W a0 a1 a2 a3 a4)) 20 ≤ 160 := by
      rw [hm, ← hbW]
      exact cT
    have A0 : f_X8_add a0 σX = some (n_fl n_pX σX b 4) := by rw [hbW]; exact n_addX (W := n_W a0 a1 a2 a3 a4) hI hl2 (i := 0) (by omega)
    have A1 : f_X8_add a1 (n_fl n_pX σX b 4) = some (n_fl n_pX σX b 8) := by rw [hbW]; exact n_addX (W := n_W a0 a1 a2 a3 a4) hI hl2 (i := 1) (by omega)
    have A2 : f_X8_add a2 (n_fl n_pX σX b 8) = some (n_fl n_pX σX b 12) := by rw [hbW]; exact n_addX (W := n_W a0 a1 a2 a3 a4) hI hl2 (i := 2) (by omega)
    have A3 : f_X8_add a3 (n_fl n_pX σX b 12) = some (n_fl n_pX σX b 16) := by rw [hbW]; exact n_addX (W := n_W a0 a1 a2 a3 a4) hI hl2 (i := 3) (by omega)
    have A4 : f_X8_add a4 (n_fl n_pX σX b 16) = some (n_fl n_pX σX b 20) := by rw [hbW]; exact n_addX (W := n_W a0 a1 a2 a3 a4) hI hl2 (i := 4) (by omega)
    obtain ⟨h1, h2⟩ := n_pushes (b := b) hI hbr (by rw [hm]; exact cT) 20 (by omega)
    obtain ⟨⟨r, w⟩, e1, hr⟩ := ecnt (fun r => r = (iI (vI (m_c (n_fl n_pM σM b 20)) 0 2), n_fl n_pM σM b 20)) (fun _ => ⟨_, rfl, rfl⟩) (fun q => absurd cT q)
    rw [if_pos cT, A0, n_bd, A1, n_bd, A2, n_bd, A3, n_bd, A4, n_bd, e1, hr]
    refine ⟨_, _, _, ?_, rfl, h1⟩
    rw [show k_rd (n_fl n_pX σX b 20) 1 1 = iI (vI (m_c (n_fl n_pM σM b 20)) 0 2) from n_rX rfl rfl h1.1.1.1]
  · obtain ⟨⟨r, w⟩, e1, hr⟩ := ecnt (fun r => r = (iI (-1), σM)) (fun q => absurd q cT) (fun _ => rfl)
    rw [if_neg cT, e1, hr]
    exact ⟨_, _, _, rfl, rfl, hI⟩
