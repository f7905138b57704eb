/-! weather -/
theorem n_divisorOf : ∀ {k a b : Nat}, n_eu k a b → a < 9223372036854775808 → b < 9223372036854775808 → f_X12_divisorOf k (iL a) (iL b) = some (iL (Nat.gcd a b : Nat))
  | 0, _, _, h, _, _ => False.elim h
  | k + 1, a, b, h, ha, hb => by
    show b_X12_divisorOf (f_X12_divisorOf k) (iL a) (iL b) = _
    unfold b_X12_divisorOf
    rw [show (0 : Int32) = iI 0 from rfl, show (0 : Int64) = iL 0 from rfl, n_lc0 (by omega) (by omega)]
    by_cases c : (b : Int) = 0
    · have e : b = 0 := by omega
      subst e
      rw [if_pos c, Nat.gcd_zero_right]
    · have hm := Nat.mod_lt a (show 0 < b by omega)
      rw [if_neg c, n_gdt (show ¬ iL (b : Int) = iL 0 from fun q => c ((iL_eq (by omega) (by omega)).mp q)), iL_rem (by omega) (by omega), show (a : Int).tmod b = ((a % b : Nat) : Int) from rfl, n_divisorOf (h.resolve_left (by omega)) hb (by omega), n_bd, n_gcd_s]
theorem n_plainLong {A B : Nat} {z : Int} (hA : A < 9223372036854775808) (hB : 0 < B ∧ B < 9223372036854775808) (hz : 0 ≤ z ∧ z ≤ 1) : f_X12_plainLong (iL A) (iL B) (iI z) = some (iL (n_fr A B z : Nat)) := by
  unfold f_X12_plainLong n_fr
  have hg : 0 < Nat.gcd A B := Nat.gcd_pos_of_pos_right A hB.1
  have hg2 : Nat.gcd A B ≤ B := Nat.le_of_dvd hB.1 (Nat.gcd_dvd_right A B)
  have he : n_eu 200 B A := n_eu_1 (n_eu_k 99 B A (by
    have : (9223372036854775808 : Nat) < 2 ^ 99 := by decide
    omega))
  have hne : ¬ iL ((Nat.gcd A B : Nat) : Int) = iL 0 := fun q => by
    have := (iL_eq (by omega) (by omega)).mp q
    omega
  rw [n_divisorOf he hB.2 hA, n_bd, Nat.gcd_comm B A, show (0 : Int32) = iI 0 from rfl, show (0 : Int64) = iL 0 from rfl, n_ieq (by omega) (by omega)]
  by_cases c2 : z = 0
  · rw [if_pos c2, if_pos c2, n_gdt hne, iL_div (by omega) (by omega)]
    rfl
  · rw [if_neg c2, if_neg c2, n_gdt hne, iL_div (by omega) (by omega)]
    rfl
theorem n_belowBy3 {σ m : k_St} {n : Nat} {V : Nat → Int} (hm : m_c σ = m) (hk : n_mk m n V) : f_X12_belowBy (iI 3) σ = some (iL (1000000 * m_sW m n)) := by
  have h6 := hk.2.1
  have hs : 0 ≤ m_sW m n ∧ m_sW m n ≤ n * 9 := n_sum_r (f := fun p => vI m 13 (4 * p)) (b := 9) (n := n) (fun p hp => (hk.2.2.2.2 p hp).1.1)
  unfold f_X12_belowBy
  rw [n_below hm hk, n_bd, show (100 : Int32) = iI 100 from rfl, show (100 : Int64) = iL 100 from rfl, iI_div (by omega) (by omega), show (100 * m_sW m n).tdiv 100 = m_sW m n by
    rw [Int.mul_comm, Int.mul_tdiv_cancel _ (by decide)], iI_l (by omega), n_nm]
  have e : some (iL (m_sW m n) * iL 100 * iL 100 * iL 100) = some (iL (1000000 * m_sW m n)) := by
    simp only [iL_mul]
    congr 2
    omega
  rw [← e]
  rfl
theorem n_wr4 {m : k_St} {u w u' w' : Int32} : k_wr (k_wr (k_wr (k_wr m 0 26 u) 0 27 w) 0 26 u') 0 27 w' = k_wr (k_wr m 0 26 u') 0 27 w' := by
  refine Prod.ext (funext fun c => funext fun k => ?_) rfl
  simp only [wr_if]
  by_cases h1 : c = 0 ∧ k = 27
  · simp only [if_pos h1]
  · simp only [if_neg h1]
    by_cases h2 : c = 0 ∧ k = 26
    · simp only [if_pos h2]
    · simp only [if_neg h2]
theorem n_wr0 {m : k_St} : k_wr (k_wr m 0 26 (m.1 0 26)) 0 27 (m.1 0 27) = m := by
  refine Prod.ext (funext fun c => funext fun k => ?_) rfl
  simp only [wr_if]
  by_cases h1 : c = 0 ∧ k = 27
  · rw [if_pos h1, h1.1, h1.2]
  · rw [if_neg h1]
    by_cases h2 : c = 0 ∧ k = 26
    · rw [if_pos h2, h2.1, h2.2]
    · rw [if_neg h2]
theorem n_gB {β : Type} {v : Int} [Decidable (o_isB (iI v) = true)] {q : Option β} (h : 0 ≤ v ∧ v ≤ 1) : k_gd (o_isB (iI v) = true) q = q := n_gdt (by
  rcases (show v = 0 ∨ v = 1 by omega) with rfl | rfl <;> rfl)
/-- one weather of the four, in the reference -/
theorem n_wone {s m : k_St} {n : Nat} {V f : Nat → Int} {R : Nat → Int32} {u w : Int} (hk : n_mk m n V) (hm : ∀ u w, m_c (k_wr (k_wr s 0 26 u) 0 27 w) = k_wr (k_wr m 0 26 u) 0 27 w) (h14 : ∀ j, j < 4 → s.1 14 j = iI (f j) ∧ 0 ≤ f j ∧ f j < 4) (h15 : ∀ c, c < 16 → s.1 15 c = R c ∧ 0 ≤ (R c).toInt ∧ (R c).toInt < n) (hu : 0 ≤ u ∧ u ≤ 1) (hw : 0 ≤ w ∧ w ≤ 1) : ∃ s', f_X12_layBrings 14 (k_wr (k_wr s 0 26 (iI u)) 0 27 (iI w)) = some s' ∧ f_X12_sumBy 15 s' = some (iI (n_A m V f R u w n)) ∧ k_rd s' 0 26 = iI u ∧ k_rd s' 0 27 = iI w ∧ (∀ u w, m_c (k_wr (k_wr s' 0 26 u) 0 27 w) = k_wr (k_wr m 0 26 u) 0 27 w) ∧ (∀ j, j < 4 → s'.1 14 j = iI (f j) ∧ 0 ≤ f j ∧ f j < 4) ∧ ∀ c, c < 16 → s'.1 15 c = R c ∧ 0 ≤ (R c).toInt ∧ (R c).toInt < n := by
  have hk' : n_mk (k_wr (k_wr m 0 26 (iI u)) 0 27 (iI w)) n V := hk
  obtain ⟨s', e1, hF, hB⟩ := n_layBrings (σ := k_wr (k_wr s 0 26 (iI u)) 0 27 (iI w)) (a := 14) rfl (by unfold i_SB; omega) (hm _ _) hk' h14
  have hms : m_c s' = k_wr (k_wr m 0 26 (iI u)) 0 27 (iI w) := (n_frM hF i_SB_s).trans (hm _ _)
  have h14' : ∀ j, j < 4 → s'.1 14 j = iI (f j) ∧ 0 ≤ f j ∧ f j < 4 := fun j hj => by
    rw [(hF 14 (by unfold i_SB; omega)).1]
    exact h14 j hj
  have h15' : ∀ c, c < 16 → s'.1 15 c = R c ∧ 0 ≤ (R c).toInt ∧ (R c).toInt < n := fun c hc => by
    rw [(hF 15 (by unfold i_SB; omega)).1]
    exact h15 c hc
  have e26 : vI (k_wr (k_wr m 0 26 (iI u)) 0 27 (iI w)) 0 26 = u := iI_to (z := u) (by omega)
  have e27 : vI (k_wr (k_wr m 0 26 (iI u)) 0 27 (iI w)) 0 27 = w := iI_to (z := w) (by omega)
  refine ⟨s', e1, ?_, ?_, ?_, fun u' w' => ?_, h14', h15'⟩
  · rw [n_sumBy rfl hk.2.1 h15' hB, n_AB hk' (fun s hs => (h14 s hs).2) (fun c hc => (h15 c hc).2), e26, e27]
    rfl
  · rw [n_core_I hms (c := 0) (k := 26) rfl, e26]
  · rw [n_core_I hms (c := 0) (k := 27) rfl, e27]
  · exact (n_cw (n_cw hms rfl) rfl).trans n_wr4
set_option maxRecDepth 20000 in
theorem q_s32 : g_s32 z_Inv := by
  intro σX σM hI a0 a1 a2
  obtain ⟨a, ha, rfl⟩ := iI_ex a0
  obtain ⟨b, hb, rfl⟩ := iI_ex a1
  obtain ⟨z, hz, rfl⟩ := iI_ex a2
  obtain ⟨x, hx, hR⟩ := z_openX hI
  obtain ⟨hTap, hLak, hNow, hImg, hShf, hSee, hLrn, hLaw, hVal⟩ := id hR
  obtain ⟨l1, l2, l3, l4, l5, l6⟩ := id hLak
  obtain ⟨h1, h2, h3, h4, h5, h6, h7, h8⟩ := id hNow
  obtain ⟨n, hk⟩ := hR.mk
  have b1 := l1.2
  have b2 := l2.2
  have k1 := hk.1
  have f2 : k_rd σM 0 21 = iI (vI (m_c σM) 0 21) := n_core_I rfl rfl
  unfold f_X11_weather f_X12_weather f_X11_isPart
  simp (disch := omega) only [iI_lit, n_lk hx (n_vI l1.1) l1.2, n_bd, f2, n_ib, n_in, n_within, n_ieq, n_gdt n_isB]
  by_cases c0 : 0 < vI (m_c σM) 0 21
  rotate_left
  · rw [if_neg c0, if_pos (show vI (m_c σM) 0 21 = 0 by omega)]
    exact ⟨_, _, rfl, rfl, hI⟩
  rw [if_pos c0, if_neg (show ¬ vI (m_c σM) 0 21 = 0 by omega)]
  by_cases c1 : 0 ≤ a ∧ a ≤ 100
  rotate_left
  · rw [if_neg c1, if_neg c1]
    exact ⟨_, _, rfl, rfl, hI⟩
  rw [if_pos c1, if_pos c1]
  by_cases c2 : 0 ≤ b ∧ b ≤ 100
  rotate_left
  · rw [if_neg c2, if_neg c2]
    exact ⟨_, _, rfl, rfl, hI⟩
  rw [if_pos c2, if_pos c2]
  by_cases c3 : 0 ≤ z ∧ z ≤ 1
  rotate_left
  · rw [if_neg c3, if_neg c3]
    exact ⟨_, _, rfl, rfl, hI⟩
  rw [if_pos c3, if_pos c3]
  have hW := (l4 c0).2.2
  rw [k1, Int.toNat_natCast] at hW
  rw [k1] at h2
  have hn6 := hk.2.1
  have hf4 := h1.1.r4 b2.2
  have eX : ∀ u w : Int, 0 ≤ u ∧ u ≤ 1 → 0 ≤ w ∧ w ≤ 1 → f_X11_aboveIn (iI u) (iI w) σX = some (iL (n_A (m_c σM) (fun p => vI x 14 p) (fun s => ((m_c σM).1 14 s).toInt) ((m_c σM).1 15) u w n)) := fun u w hu hw => by
    unfold f_X11_aboveIn
    rw [show k_rd σX 16 0 = iI (n_e4 (fun s => ((m_c σM).1 14 s).toInt)) from (n_core_1 hx rfl).trans h1.2, show k_rl σX 16 1 = x.2 16 1 from n_core_2 hx rfl, n_above hx hk hLak hVal h6.1 h2 hf4 (by omega) (by omega), n_bd]
  have hA := fun u w => n_Ar (V := fun p => vI x 14 p) (f := fun s => ((m_c σM).1 14 s).toInt) (R := (m_c σM).1 15) (fg := u) (th := w) hk
  rw [eX 1 1 (by omega) (by omega), eX 1 0 (by omega) (by omega), eX 0 1 (by omega) (by omega), eX 0 0 (by omega) (by omega)]
  have hone := fun (s : k_St) (u w : Int) => n_wone (s := s) (m := m_c σM) (V := fun p => vI x 14 p) (f := fun s => ((m_c σM).1 14 s).toInt) (R := (m_c σM).1 15) (u := u) (w := w) hk
  obtain ⟨s1, e1, p1, q1, r1, i1, j1, y1⟩ := hone σM 0 0 (fun u w => n_cw (n_cw rfl rfl) rfl) (fun j hj => ⟨iI_of (σM.1 14 j), hf4 j hj⟩) (fun c hc => ⟨rfl, (h2 c hc).2.1, by have := (h2 c hc).2; omega⟩) (by omega) (by omega)
  obtain ⟨s2, e2, p2, q2, r2, i2, j2, y2⟩ := hone s1 1 0 i1 j1 y1 (by omega) (by omega)
  obtain ⟨s3, e3, p3, q3, r3, i3, j3, y3⟩ := hone s2 0 1 i2 j2 y2 (by omega) (by omega)
  obtain ⟨s4, e4, p4, q4, r4, i4, j4, y4⟩ := hone s3 1 1 i3 j3 y3 (by omega) (by omega)
  have hA11 := hA 1 1
  have hA10 := hA 1 0
  have hA01 := hA 0 1
  have hA00 := hA 0 0
  clear hone hA eX
  generalize n_A (m_c σM) (fun p => vI x 14 p) (fun s => ((m_c σM).1 14 s).toInt) ((m_c σM).1 15) 1 1 n = A11 at *
  generalize n_A (m_c σM) (fun p => vI x 14 p) (fun s => ((m_c σM).1 14 s).toInt) ((m_c σM).1 15) 1 0 n = A10 at *
  generalize n_A (m_c σM) (fun p => vI x 14 p) (fun s => ((m_c σM).1 14 s).toInt) ((m_c σM).1 15) 0 1 n = A01 at *
  generalize n_A (m_c σM) (fun p => vI x 14 p) (fun s => ((m_c σM).1 14 s).toInt) ((m_c σM).1 15) 0 0 n = A00 at *
  have t11 := n_mulr (n_mulr c1 c2) hA11
  have t10 := n_mulr (n_mulr c1 (show 0 ≤ 100 - b ∧ 100 - b ≤ 100 by omega)) hA10
  have t01 := n_mulr (n_mulr (show 0 ≤ 100 - a ∧ 100 - a ≤ 100 by omega) c2) hA01
  have t00 := n_mulr (n_mulr (show 0 ≤ 100 - a ∧ 100 - a ≤ 100 by omega) (show 0 ≤ 100 - b ∧ 100 - b ≤ 100 by omega)) hA00
  have hsr : 0 ≤ m_sW (m_c σM) n ∧ m_sW (m_c σM) n ≤ n * 9 := n_sum_r (f := fun p => vI (m_c σM) 13 (4 * p)) (b := 9) (n := n) (fun p hp => (hk.2.2.2.2 p hp).1.1)
  have eW : k_rd σX 12 2 = iI (m_sW (m_c σM) n) := by
    rw [n_core_I hx rfl, l5, k1, Int.toNat_natCast]
  have m26 : k_rd σM 0 26 = (m_c σM).1 0 26 := n_core_1 rfl rfl
  have m27 : k_rd σM 0 27 = (m_c σM).1 0 27 := n_core_1 rfl rfl
  obtain ⟨Y, hY⟩ : ∃ Y : Nat, a * b * A11 + a * (100 - b) * A10 + (100 - a) * b * A01 + (100 - a) * (100 - b) * A00 = (Y : Int) := Int.eq_ofNat_of_zero_le (by omega)
  obtain ⟨W, hW2⟩ : ∃ W : Nat, 1000000 * m_sW (m_c σM) n = (W : Int) := Int.eq_ofNat_of_zero_le (by omega)
  have hres := n_plainX (A := Y) (B := W) (z := z) (by omega) (by omega) c3
  have hres2 := n_plainLong (A := Y) (B := W) (z := z) (by omega) (by omega) c3
  have hm5 : m_c (k_wr (k_wr s4 0 26 ((m_c σM).1 0 26)) 0 27 ((m_c σM).1 0 27)) = m_c σM := (i4 _ _).trans n_wr0
  have hbw := n_belowBy3 hm5 hk
  refine ⟨iL (n_fr Y W z : Nat), k_wr (k_wr s4 0 26 ((m_c σM).1 0 26)) 0 27 ((m_c σM).1 0 27), ?_, ?_, z_close hx hm5 hR⟩
  · simp only [n_bd, n_nm, eW, iI_sub, iL_lit]
    rw [iI_l (by omega), iI_l (by omega), iI_l (by omega), iI_l (by omega), iI_l (by omega)]
    simp only [iL_mul, iL_add]
    rw [hY, show (OfNat.ofNat 1000000 : Int) * m_sW (m_c σM) n = (W : Int) from hW2, hres, n_bd]
  · refine ok_eq.mp ?_
    rw [m26, m27, n_nm, n_nm]
    have o0 : o_rem (iI 0) (iI 2) = iI 0 := rfl
    have o1 : o_rem (iI 1) (iI 2) = iI 1 := rfl
    have o2 : o_rem (iI 2) (iI 2) = iI 0 := rfl
    have o3 : o_rem (iI 3) (iI 2) = iI 1 := rfl
    refine ok_for 4 (fun j (y : Int64 × Int32 × k_St) => (j = 0 ∧ y = (iL 0, iI 0, σM)) ∨ (j = 1 ∧ y = (iL (0 + (100 - a) * (100 - b) * A00), iI 1, s1)) ∨ (j = 2 ∧ y = (iL (0 + (100 - a) * (100 - b) * A00 + a * (100 - b) * A10), iI 2, s2)) ∨ (j = 3 ∧ y = (iL (0 + (100 - a) * (100 - b) * A00 + a * (100 - b) * A10 + (100 - a) * b * A01), iI 3, s3)) ∨ (j = 4 ∧ y = (iL (0 + (100 - a) * (100 - b) * A00 + a * (100 - b) * A10 + (100 - a) * b * A01 + a * b * A11), iI 4, s4))) ?_ (by omega) (j := 0) (Or.inl ⟨rfl, rfl⟩) (by omega)
    rintro g j _ (⟨rfl, rfl⟩ | ⟨rfl, rfl⟩ | ⟨rfl, rfl⟩ | ⟨rfl, rfl⟩ | ⟨rfl, rfl⟩) hj hg
    · show k_OK (k_if _ _ _) _
      simp (disch := omega) only [n_ile, n_ieq, o0, n_jn, n_nm, n_gB, Int.reduceLE, Int.reduceEq, if_true, if_false]
      rw [e1, n_bd, q1, r1]
      simp (disch := omega) only [n_ieq, p1, n_bd, iI_l, iI_sub, iL_mul, iL_add, iI_add, n_kT, n_kF, if_true, if_false, Int.reduceEq]
      exact hg _ (by omega) (Or.inr (Or.inl ⟨rfl, rfl⟩))
    · show k_OK (k_if _ _ _) _
      simp (disch := omega) only [n_ile, n_ieq, o1, n_jn, n_nm, n_gB, Int.reduceLE, Int.reduceEq, if_true, if_false]
      rw [e2, n_bd, q2, r2]
      simp (disch := omega) only [n_ieq, p2, n_bd, iI_l, iI_sub, iL_mul, iL_add, iI_add, n_kT, n_kF, if_true, if_false, Int.reduceEq]
      exact hg _ (by omega) (Or.inr (Or.inr (Or.inl ⟨rfl, rfl⟩)))
    · show k_OK (k_if _ _ _) _
      simp (disch := omega) only [n_ile, n_ieq, o2, n_jn, n_nm, n_gB, Int.reduceLE, Int.reduceEq, if_true, if_false]
      rw [e3, n_bd, q3, r3]
      simp (disch := omega) only [n_ieq, p3, n_bd, iI_l, iI_sub, iL_mul, iL_add, iI_add, n_kT, n_kF, if_true, if_false, Int.reduceEq]
      exact hg _ (by omega) (Or.inr (Or.inr (Or.inr (Or.inl ⟨rfl, rfl⟩))))
    · show k_OK (k_if _ _ _) _
      simp (disch := omega) only [n_ile, n_ieq, o3, n_jn, n_nm, n_gB, Int.reduceLE, Int.reduceEq, if_true, if_false]
      rw [e4, n_bd, q4, r4]
      simp (disch := omega) only [n_ieq, p4, n_bd, iI_l, iI_sub, iL_mul, iL_add, iI_add, n_kT, n_kF, if_true, if_false, Int.reduceEq]
      exact hg _ (by omega) (Or.inr (Or.inr (Or.inr (Or.inr ⟨rfl, rfl⟩))))
    · show k_OK (k_if _ _ _) _
      rw [n_ift (show iI 4 ≤ iI 4 by decide), n_gdt (n_isB2 h4.2), n_nm, n_gdt (n_isB2 h5.2), n_nm, hbw, n_bd, hW2, show 0 + (100 - a) * (100 - b) * A00 + a * (100 - b) * A10 + (100 - a) * b * A01 + a * b * A11 = (Y : Int) by omega, hres2, n_bd, ok_some]
