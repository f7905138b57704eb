/-! a piece of the reference's code -/
theorem n_workOut {σ : k_St} {i a b : Nat} {L : Nat → Int} {v : Int} (hi : i < 5) (hb : b ≤ 340) (hL : ∀ j, j < 5 → σ.1 9 j = iI (L j) ∧ (-2147483648 ≤ L j ∧ L j ≤ 2147483647)) (h : rp_val (vI σ 2) (vI σ 3) L (340 * i + a) (340 * i + b) = some v) : k_OK (f_X12_workOut (iI i) (iI a) (iI b) σ) (fun r => r.1 = iI v ∧ (-2147483648 ≤ v ∧ v ≤ 2147483647) ∧ n_Fr (fun c => c = 10) σ r.2) := by
  have hrun : rp_run (vI σ 2) (vI σ 3) L (340 * i + a) (340 * i + b - (340 * i + a)) [] = some [v] := by
    unfold rp_val at h
    split at h
    · rename_i w e
      rw [e]
      exact congrArg (fun z => some [z]) (Option.some.inj h)
    · exact absurd h (by simp)
  have hab : a < b := by
    by_cases c : a < b
    · exact c
    · rw [show 340 * i + b - (340 * i + a) = 0 by omega] at hrun
      exact absurd (Option.some.inj hrun) (by simp)
  rw [show 340 * i + b - (340 * i + a) = b - a by omega] at hrun
  unfold f_X12_workOut
  simp only [iI_lit, iI_mul, iI_add, n_nm]
  refine ok_for (b - a) (fun t (z : Int32 × Int32 × k_St) => ∃ st : List Int, z.1 = iI st.length ∧ st.length ≤ 80 ∧ z.2.1 = iI ((340 * i + a + t : Nat) : Int) ∧ n_Fr (fun c => c = 10) σ z.2.2 ∧ n_stk (z.2.2.1 10) st ∧ rp_run (vI σ 2) (vI σ 3) L (340 * i + a + t) (b - a - t) st = some [v]) ?_ (by omega) (j := 0) ⟨[], rfl, by decide, by show iI (340 * (i : Int) + a) = _; congr 1, n_Fr.rf, trivial, hrun⟩ (by omega)
  rintro g t ⟨v4, v5, s⟩ ⟨st, rfl, hlen, rfl, hF, hS, hR⟩ ht hg
  have hF : n_Fr (fun c => c = 10) σ s := hF
  show k_OK (k_if _ _ _) _
  rw [n_ile (by omega) (by omega)]
  by_cases c0 : 340 * (i : Int) + b ≤ ((340 * i + a + t : Nat) : Int)
  · rw [if_pos c0]
    rw [show b - a - t = 0 by omega] at hR
    have e : st = [v] := Option.some.inj hR
    subst e
    rw [n_gix (by omega) (by omega), ok_some]
    exact ⟨hS.1, hS.2.1, hF⟩
  rw [if_neg c0]
  obtain ⟨u, hu⟩ : ∃ u, b - a - t = u + 1 := ⟨b - a - t - 1, by omega⟩
  have hk : 340 * i + a + t < 1700 := by omega
  have e2 : k_rd s 2 (340 * i + a + t) = iI (vI σ 2 (340 * i + a + t)) := by
    show s.1 2 _ = _
    rw [(hF 2 (by decide)).1]
    exact iI_of _
  have e3 : k_rd s 3 (340 * i + a + t) = iI (vI σ 3 (340 * i + a + t)) := by
    show s.1 3 _ = _
    rw [(hF 3 (by decide)).1]
    exact iI_of _
  have r2 := vI_rg σ 2 (340 * i + a + t)
  have r3 := vI_rg σ 3 (340 * i + a + t)
  have q2 : vI σ 2 (340 * i + a + t) = vI σ 2 (340 * i + a + t) := rfl
  rw [hu] at hR
  have hR : (match rp_st (vI σ 2 (340 * i + a + t)) (vI σ 3 (340 * i + a + t)) L st with
    | none => none
    | some st' => rp_run (vI σ 2) (vI σ 3) L (340 * i + a + t + 1) u st') = some [v] := hR
  generalize hK : 340 * i + a + t = K at hR e2 e3 r2 r3 hk
  generalize hC : vI σ 2 K = C at hR e2 r2
  generalize hV : vI σ 3 K = V at hR e3 r3
  simp (disch := omega) only [n_gix, n_jn, iI_cl, Int.toNat_natCast, e2, n_ieq]
  have nx : ∀ (st' : List Int) (sp : Int32) (s' : k_St), sp = iI st'.length → st'.length ≤ 80 → n_Fr (fun c => c = 10) σ s' → n_stk (s'.1 10) st' → rp_st C V L st = some st' → k_OK (g (sp, iI ((K : Int) + 1), s')) (fun r => r.1 = iI v ∧ (-2147483648 ≤ v ∧ v ≤ 2147483647) ∧ n_Fr (fun c => c = 10) σ r.2) := fun st' sp s' h1 h2 h3 h4 h5 => hg _ (by omega) ⟨st', h1, h2, by show iI _ = iI _; congr 1; omega, h3, h4, by
    rw [h5] at hR
    have hR : rp_run (vI σ 2) (vI σ 3) L (K + 1) u st' = some [v] := hR
    rw [show 340 * i + a + (t + 1) = K + 1 by omega, show b - a - (t + 1) = u by omega]
    exact hR⟩
  have hsome : ∃ st', rp_st C V L st = some st' := by
    cases e : rp_st C V L st with
    | none => rw [e] at hR; exact absurd hR (by simp)
    | some st' => exact ⟨st', rfl⟩
  obtain ⟨st', hst⟩ := hsome
  have hst0 := hst
  unfold rp_st at hst0
  by_cases c1 : C = 0
  · rw [if_pos c1] at hst0
    by_cases c2 : st.length < 80
    · rw [if_pos c2] at hst0
      have e := Option.some.inj hst0
      simp (disch := omega) only [if_pos c1, n_gix, iI_cl, Int.toNat_natCast, e3, n_nm, iI_add]
      refine nx st' _ _ ?_ ?_ (hF.wr rfl) ?_ hst
      · rw [← e]
        rfl
      · rw [← e]
        exact c2
      · rw [← e]
        exact ⟨wr_s, r3, n_stk_c (fun j hj => wr_k (by omega)) hS⟩
    · rw [if_neg c2] at hst0
      exact absurd hst0 (by simp)
  rw [if_neg c1] at hst0
  by_cases c1b : C = 1
  · rw [if_pos c1b] at hst0
    by_cases c2 : st.length < 80 ∧ 0 ≤ V ∧ V < 5
    · rw [if_pos c2] at hst0
      have e := Option.some.inj hst0
      have hLV := hL V.toNat (by omega)
      have e9 : k_rd s 9 V.toNat = iI (L V.toNat) := by
        show s.1 9 _ = _
        rw [(hF 9 (by decide)).1]
        exact hLV.1
      simp (disch := omega) only [if_neg c1, if_pos c1b, n_gix, iI_cl, Int.toNat_natCast, e3, n_nm, iI_add, e9]
      refine nx st' _ _ ?_ ?_ (hF.wr rfl) ?_ hst
      · rw [← e]
        rfl
      · rw [← e]
        exact c2.1
      · rw [← e]
        exact ⟨wr_s, hLV.2, n_stk_c (fun j hj => wr_k (by omega)) hS⟩
    · rw [if_neg c2] at hst0
      exact absurd hst0 (by simp)
  rw [if_neg c1b] at hst0
  by_cases c9 : C = 9
  · rw [if_pos c9] at hst0
    cases st with
    | nil => exact absurd hst0 (by simp)
    | cons y r =>
      have hst0 : (if -1000000 ≤ y ∧ y ≤ 1000000 then some ((1 - y) :: r) else none) = some st' := hst0
      by_cases c2 : -1000000 ≤ y ∧ y ≤ 1000000
      · rw [if_pos c2] at hst0
        have e := Option.some.inj hst0
        have hl : ((y :: r).length : Int) = (r.length : Int) + 1 := rfl
        have hr80 : r.length + 1 ≤ 80 := hlen
        have e10 : k_rd s 10 r.length = iI y := hS.1
        simp (disch := omega) only [if_neg c1, if_neg c1b, if_pos c9, n_gix, iI_cl, hl, iI_sub, Int.add_sub_cancel, Int.toNat_natCast, n_nm, iI_add, e10]
        refine nx st' _ _ ?_ ?_ (hF.wr rfl) ?_ hst
        · rw [← e]
          rfl
        · rw [← e]
          exact hr80
        · rw [← e]
          exact ⟨wr_s, by omega, n_stk_c (fun j hj => wr_k (by omega)) hS.2.2⟩
      · rw [if_neg c2] at hst0
        exact absurd hst0 (by simp)
  rw [if_neg c9] at hst0
  match st, hst0, hS, hlen, hst, nx with
  | [], hst0, _, _, _, _ => exact absurd hst0 (by simp)
  | [_], hst0, _, _, _, _ => exact absurd hst0 (by simp)
  | y :: x :: r, hst0, hS, hlen, hst, nx =>
    have hst0 : (if 2 ≤ C ∧ C ≤ 11 then some (rp_wk C x y :: r) else none) = some st' := hst0
    by_cases c2 : 2 ≤ C ∧ C ≤ 11
    · rw [if_pos c2] at hst0
      have e := Option.some.inj hst0
      have hl : ((y :: x :: r).length : Int) = (r.length : Int) + 2 := by
        show ((r.length + 1 + 1 : Nat) : Int) = _
        omega
      have hr80 : r.length + 2 ≤ 80 := hlen
      have ey : k_rd s 10 (r.length + 1) = iI y := hS.1
      have ex : k_rd s 10 r.length = iI x := hS.2.2.1
      have hy := hS.2.1
      have hx := hS.2.2.2.1
      have hwr := rp_wk_r C x y
      simp (disch := omega) only [if_neg c1, if_neg c1b, if_neg c9, hl, iI_neg, iI_add, iI_sub, n_nm, n_gix, iI_cl, show (r.length : Int) + 2 + -1 - 1 = r.length by omega, show (r.length : Int) + 2 + -1 = ((r.length + 1 : Nat) : Int) by omega, show ((r.length + 1 : Nat) : Int) - 1 = r.length by omega, Int.toNat_natCast, ex, ey, iI_l, n_worked, n_bd]
      refine nx st' _ _ ?_ ?_ (hF.wr rfl) ?_ hst
      · rw [← e]
        rfl
      · rw [← e]
        show r.length + 1 ≤ 80
        omega
      · rw [← e]
        exact ⟨wr_s, by omega, n_stk_c (fun j hj => wr_k (by omega)) hS.2.2.2.2⟩
    · rw [if_neg c2] at hst0
      exact absurd hst0 (by simp)
