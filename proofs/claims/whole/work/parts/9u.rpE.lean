/-! the reference's rows give the text's number -/
theorem v_val {w : Nat} {s : k_St} {A ys B : List (Int × Int)} {L : Nat → Int} {v : Int} (hC : v_C w s (A ++ ys ++ B)) (hY : ∀ c, c ∈ ys → t_ok c) (hl : rp_l L ys [] = some [v]) : rp_val (vI s 2) (vI s 3) L (340 * w + A.length) (340 * w + (A.length + ys.length)) = some v := by
  unfold rp_val
  rw [show 340 * w + (A.length + ys.length) - (340 * w + A.length) = ys.length by omega, rp_run_l ys (340 * w + A.length) [] (fun j c hj => by
    have hlt : j < ys.length := by
      by_cases q : j < ys.length
      · exact q
      · rw [List.getElem?_eq_none (by omega)] at hj
        cases hj
    have hok := hY c (List.mem_of_getElem? hj)
    obtain ⟨⟨k1, k2⟩, k3, k4⟩ := hok
    have hc := hC.2 (A.length + j) c (by
      rw [List.append_assoc, List.getElem?_append_right (by omega), show A.length + j - A.length = j by omega, List.getElem?_append_left hlt]
      exact hj)
    rw [show 340 * w + A.length + j = 340 * w + (A.length + j) by omega]
    refine ⟨?_, ?_⟩
    · show (s.1 2 _).toInt = c.1
      rw [hc.1]
      exact iI_to (by omega)
    · show (s.1 3 _).toInt = c.2
      rw [hc.2]
      exact iI_to (by omega)), hl]
theorem v_cls {w : Nat} {s : k_St} {L : Nat → Int} : ∀ (R Pp : List t_C), v_Q w s (Pp ++ R) → (t_fl (Pp ++ R)).length ≤ 160 → (∀ c, c ∈ R → t_RC c) → rp_cls (vI s 2) (vI s 3) (vI s 6) (vI s 7) (vI s 8) w L (90 * w + Pp.length) R.length = some (t_val L R)
  | [], Pp, hQ, hl, hR => rfl
  | c :: R, Pp, hQ, hl, hR => by
    have hc := hQ.2.2 Pp.length c (by
      rw [List.getElem?_append_right (Nat.le_refl _), Nat.sub_self]
      rfl)
    rw [List.take_left] at hc
    obtain ⟨h6, h7, h8⟩ := hc
    have hfl : t_fl (Pp ++ c :: R) = t_fl Pp ++ t_cc c ++ t_fl R := by
      unfold t_fl
      rw [List.flatMap_append, List.flatMap_cons, List.append_assoc]
    have hpp : Pp ++ [c] ++ R = Pp ++ c :: R := by
      rw [List.append_assoc]
      rfl
    have ih := v_cls (L := L) R (Pp ++ [c]) (by rw [hpp]; exact hQ) (by rw [hpp]; exact hl) (fun c' hc' => hR c' (List.mem_cons_of_mem _ hc'))
    have el : (Pp ++ [c]).length = Pp.length + 1 := by
      rw [List.length_append]
      rfl
    rw [el] at ih
    have hlen : (t_fl Pp).length + (t_cc c).length + (t_fl R).length ≤ 160 := by
      rw [hfl, List.length_append, List.length_append] at hl
      exact hl
    have hcc : (t_cc c).length = (t_c1 c.1).length + c.2.2.1.length := by
      unfold t_cc
      rw [List.length_append]
    have hC : v_C w s (t_fl Pp ++ (t_c1 c.1 ++ c.2.2.1) ++ t_fl R) := by
      have := hQ.2.1
      rw [hfl] at this
      exact this
    have e6 : vI s 6 (90 * w + Pp.length) = ((t_fl Pp).length : Int) := by
      show (s.1 6 _).toInt = _
      rw [h6]
      exact iI_to (by omega)
    have e7 : vI s 7 (90 * w + Pp.length) = ((t_fl Pp).length : Int) + ((t_c1 c.1).length : Int) := by
      show (s.1 7 _).toInt = _
      rw [h7]
      exact iI_to (by omega)
    have e8 : vI s 8 (90 * w + Pp.length) = ((t_fl Pp).length : Int) + ((t_cc c).length : Int) := by
      show (s.1 8 _).toInt = _
      rw [h8, List.length_append]
      exact (iI_to (by omega)).trans (by omega)
    obtain ⟨r1, r2, r3⟩ := hR c (List.mem_cons_self ..)
    have hy := r2 L [] (by show 0 + 20 ≤ 80; omega)
    show (if 0 ≤ vI s 6 (90 * w + Pp.length) ∧ 0 ≤ vI s 7 (90 * w + Pp.length) ∧ vI s 7 (90 * w + Pp.length) ≤ 340 ∧ vI s 8 (90 * w + Pp.length) ≤ 340 then
      (if vI s 6 (90 * w + Pp.length) = vI s 7 (90 * w + Pp.length) then rp_val (vI s 2) (vI s 3) L (340 * w + (vI s 7 (90 * w + Pp.length)).toNat) (340 * w + (vI s 8 (90 * w + Pp.length)).toNat)
      else match rp_val (vI s 2) (vI s 3) L (340 * w + (vI s 6 (90 * w + Pp.length)).toNat) (340 * w + (vI s 7 (90 * w + Pp.length)).toNat) with
        | none => none
        | some t => if t ≠ 0 then rp_val (vI s 2) (vI s 3) L (340 * w + (vI s 7 (90 * w + Pp.length)).toNat) (340 * w + (vI s 8 (90 * w + Pp.length)).toNat) else rp_cls (vI s 2) (vI s 3) (vI s 6) (vI s 7) (vI s 8) w L (90 * w + Pp.length + 1) R.length)
    else none) = _
    rw [e6, e7, e8, if_pos (by omega), show (((t_fl Pp).length : Int) + ((t_cc c).length : Int)).toNat = (t_fl Pp).length + (t_c1 c.1).length + c.2.2.1.length by omega, show (((t_fl Pp).length : Int) + ((t_c1 c.1).length : Int)).toNat = (t_fl Pp).length + (t_c1 c.1).length by omega, show ((t_fl Pp).length : Int).toNat = (t_fl Pp).length by omega]
    have hC2 : v_C w s (t_fl Pp ++ t_c1 c.1 ++ c.2.2.1 ++ t_fl R) := by
      rw [← List.append_assoc] at hC
      exact hC
    have v2 := v_val hC2 r3 hy
    rw [List.length_append] at v2
    obtain ⟨co, y⟩ := c
    cases co with
    | none =>
      rw [if_pos (by show ((t_fl Pp).length : Int) = ((t_fl Pp).length : Int) + ((0 : Nat) : Int); omega)]
      exact v2
    | some x =>
      obtain ⟨x1, x2⟩ := r1 x rfl
      have hx := x1 L [] (by show 0 + 20 ≤ 80; omega)
      have hne : x.2.1.length ≠ 0 := fun z => by
        rw [List.length_eq_zero_iff.mp z] at hx
        have hx : some ([] : List Int) = some [x.2.2 L] := hx
        cases hx
      have hC1 : v_C w s (t_fl Pp ++ x.2.1 ++ (y.2.1 ++ t_fl R)) := by
        rw [← List.append_assoc]
        exact hC2
      have v1 := v_val hC1 x2 hx
      rw [if_neg (by show ¬ ((t_fl Pp).length : Int) = ((t_fl Pp).length : Int) + (x.2.1.length : Int); omega)]
      have v1 : rp_val (vI s 2) (vI s 3) L (340 * w + (t_fl Pp).length) (340 * w + ((t_fl Pp).length + (t_c1 (some x)).length)) = some (x.2.2 L) := v1
      rw [v1]
      show (if x.2.2 L ≠ 0 then _ else _) = some (if ¬ x.2.2 L = 0 then y.2.2 L else t_val L R)
      by_cases q : x.2.2 L = 0
      · rw [if_neg (fun z => z q), if_neg (fun z => z q)]
        exact ih
      · rw [if_pos q, if_pos q]
        exact v2
theorem v_rpE {w : Nat} {s : k_St} {P : List t_C} (hQ : v_Q w s P) (hP : P.length ≤ 60) (hl : (t_fl P).length ≤ 160) (hR : ∀ c, c ∈ P → t_RC c) (L : Nat → Int) : rp_E s w L = some (t_val L P) := by
  have e5 : vI s 5 w = (P.length : Int) := by
    show (s.1 5 w).toInt = _
    rw [hQ.1]
    exact iI_to (by omega)
  unfold rp_E
  rw [e5, if_pos (by omega), Int.toNat_natCast]
  exact v_cls P [] hQ hl hR
/-- and its bounds -/
theorem t_cls_B {b : Nat → Int} {N : Nat} (hb : t_by b N) {L : Nat → Int} (hL : r_let L) : ∀ (f : Nat) {i : Nat} {P : List t_C}, i ≤ N → t_cls b N f i = .inr P → -1000000 ≤ t_val L P ∧ t_val L P ≤ 1000000
  | 0, i, P, hi, h => by cases h
  | f + 1, i, P, hi, h => by
    rw [t_cls_s] at h
    cases hq : t_cl b N i with
    | inl e =>
      rw [hq] at h
      cases h
    | inr c0 =>
      rw [hq] at h
      have hp := t_cl_p hb hi hq
      have h0 := hp.2 L hL
      have hat := t_at_p (b := b) hp.1.2
      have h : (if t_ch b N (t_at b N c0.2.1) = 59 then t_ap [c0] (t_cls b N f (t_at b N c0.2.1 + 1)) else if t_ch b N (t_at b N c0.2.1) = -1 then .inr [c0] else .inl (t_at b N c0.2.1)) = (.inr P : Sum Nat (List t_C)) := h
      have one : ∀ R : List t_C, (-1000000 ≤ t_val L R ∧ t_val L R ≤ 1000000) → -1000000 ≤ t_val L (c0 :: R) ∧ t_val L (c0 :: R) ≤ 1000000 := fun R hRb => by
        by_cases q : t_tr L c0.1
        · rw [t_val_t q]
          exact h0
        · rw [t_val_f q]
          exact hRb
      by_cases d1 : t_ch b N (t_at b N c0.2.1) = 59
      · have hlt := t_ch_lt (b := b) (N := N) (i := t_at b N c0.2.1) (by omega)
        rw [if_pos d1] at h
        cases hq2 : t_cls b N f (t_at b N c0.2.1 + 1) with
        | inl e =>
          rw [hq2] at h
          cases h
        | inr P' =>
          rw [hq2] at h
          have h : (.inr ([c0] ++ P') : Sum Nat (List t_C)) = .inr P := h
          cases h
          exact one P' (t_cls_B hb hL f (by omega) hq2)
      · rw [if_neg d1] at h
        by_cases d2 : t_ch b N (t_at b N c0.2.1) = -1
        · rw [if_pos d2] at h
          cases h
          exact one [] ⟨(by decide : (-1000000 : Int) ≤ 0), (by decide : (0 : Int) ≤ 1000000)⟩
        · rw [if_neg d2] at h
          cases h
