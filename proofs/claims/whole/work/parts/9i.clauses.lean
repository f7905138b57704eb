/-! the class's texts of a law -/
theorem t_val_t {L : Nat → Int} {c : t_C} {cs : List t_C} (h : t_tr L c.1) : t_val L (c :: cs) = c.2.2.2 L := by
  obtain ⟨co, y⟩ := c
  cases co with
  | none => rfl
  | some x => exact if_pos h
theorem t_val_f {L : Nat → Int} {c : t_C} {cs : List t_C} (h : ¬ t_tr L c.1) : t_val L (c :: cs) = t_val L cs := by
  obtain ⟨co, y⟩ := c
  cases co with
  | none => exact absurd trivial h
  | some x => exact if_neg h
def t_ap (P : List t_C) (x : Sum Nat (List t_C)) : Sum Nat (List t_C) := match x with
  | .inl e => .inl e
  | .inr cs => .inr (P ++ cs)
theorem t_ap_0 (x : Sum Nat (List t_C)) : t_ap [] x = x := by
  cases x with
  | inl e => rfl
  | inr cs => rfl
theorem t_cls_s {b : Nat → Int} {N f i : Nat} : t_cls b N (f + 1) i = match t_cl b N i with
    | .inl e => .inl e
    | .inr c => if t_ch b N (t_at b N c.2.1) = 59 then t_ap [c] (t_cls b N f (t_at b N c.2.1 + 1))
      else if t_ch b N (t_at b N c.2.1) = -1 then .inr [c] else .inl (t_at b N c.2.1) := rfl
theorem t_ap_ap {P Q : List t_C} {x : Sum Nat (List t_C)} : t_ap P (t_ap Q x) = t_ap (P ++ Q) x := by
  cases x with
  | inl e => rfl
  | inr cs => exact congrArg Sum.inr (List.append_assoc _ _ _).symm
theorem t_pr_p {b : Nat → Int} {N i : Nat} (hb : t_by b N) (hi : i ≤ N) {co : Option t_V} {c : t_C} (h : t_pr (t_sum b N 6 i) co = .inr c) : (i < c.2.1 ∧ c.2.1 ≤ N) ∧ ∀ L, r_let L → -1000000 ≤ c.2.2.2 L ∧ c.2.2.2 L ≤ 1000000 := by
  have hg := t_sum_G hb 6 i hi
  cases hq : t_sum b N 6 i with
  | inl e =>
    rw [hq] at h
    cases h
  | inr y =>
    rw [hq] at h hg
    cases h
    exact hg
theorem t_clB_p {b : Nat → Int} {N i : Nat} (hb : t_by b N) (hi : i ≤ N) {c : t_C} (h : t_clB b N i = .inr c) : (i < c.2.1 ∧ c.2.1 ≤ N) ∧ ∀ L, r_let L → -1000000 ≤ c.2.2.2 L ∧ c.2.2.2 L ≤ 1000000 := by
  rw [t_clB_e] at h
  by_cases q : t_ch b N (t_at b N i) = 33 ∨ t_ch b N (t_at b N i) = 40 ∨ t_tst b N i = true
  · rw [if_pos q] at h
    have hw : t_W (i + 1) N (t_bd (t_cnd (t_unit b N 6) b N i) (t_nd b N 63)) := t_W_bd (t_cnd_G (t_unit_G hb 6) i hi) (fun y hy => t_nd_W (by omega) hy)
    cases hq : t_bd (t_cnd (t_unit b N 6) b N i) (t_nd b N 63) with
    | inl e =>
      rw [hq] at h
      cases h
    | inr x =>
      rw [hq] at h hw
      have h1 := hw.1
      have h2 := t_pr_p hb h1.2 h
      exact ⟨by omega, h2.2⟩
  · rw [if_neg q] at h
    exact t_pr_p hb hi h
theorem t_cl_p {b : Nat → Int} {N i : Nat} (hb : t_by b N) (hi : i ≤ N) {c : t_C} (h : t_cl b N i = .inr c) : (i < c.2.1 ∧ c.2.1 ≤ N) ∧ ∀ L, r_let L → -1000000 ≤ c.2.2.2 L ∧ c.2.2.2 L ≤ 1000000 := by
  have hw : ∀ x : t_V, t_bd (t_nd b N 121 (i, [], fun _ => 0)) (t_nd b N 58) = .inr x → i ≤ x.1 ∧ x.1 ≤ N := fun x hx => by
    have h0 : t_W i N (t_bd (t_nd b N 121 (i, [], fun _ => 0)) (t_nd b N 58)) := t_W_bd (lo := i) (t_nd_W (by omega) ⟨⟨Nat.le_refl _, hi⟩, fun _ _ => ⟨(by decide : (-1000000 : Int) ≤ 0), (by decide : (0 : Int) ≤ 1000000)⟩⟩) (fun y hy => t_nd_W (by omega) hy)
    rw [hx] at h0
    exact h0.1
  unfold t_cl at h
  cases hq : t_bd (t_nd b N 121 (i, [], fun _ => 0)) (t_nd b N 58) with
  | inl e =>
    rw [hq] at h
    cases h
  | inr x =>
    rw [hq] at h
    have h1 := hw x hq
    have h2 := t_clB_p hb h1.2 h
    exact ⟨by omega, h2.2⟩
theorem u_clauses {L : Nat → Int} {N : Nat} {b : Nat → Int} (hb : t_by b N) {s : k_St} {i : Nat} (h : u_S 7 N b s i (-1)) (hL : ∀ j, j < 5 → s.1 11 j = iI (L j)) : k_OK (f_X10_readClauses s) (fun s' => u_F9 s s' ∧ match t_cls b N 200 i with
    | .inl e => ∃ i', u_S 7 N b s' i' (e : Nat)
    | .inr cs => (∃ i', u_S 7 N b s' i' (-1)) ∧ (r_let L → s'.1 7 10 = iI (t_val L cs))) := by
  have hN := h.2.2.2.1.2.1
  generalize hX : t_cls b N 200 i = X
  unfold f_X10_readClauses
  simp only [iI_lit]
  rw [ok_nm, ok_nm]
  refine ok_for 160 (fun t (z : Int32 × k_St) => z.1 = iI (t : Nat) ∧ u_F9 s z.2 ∧ ((∃ i' e, X = .inl e ∧ u_S 7 N b z.2 i' (e : Nat)) ∨ ∃ (i' : Nat) (P : List t_C) (V : Int), u_S 7 N b z.2 i' (-1) ∧ t ≤ i' ∧ X = t_ap P (t_cls b N (200 - t) i') ∧ (r_let L → z.2.1 7 10 = iI V ∧ (z.2.1 7 9 = iI 0 → V = 0) ∧ ∀ cs, t_val L (P ++ cs) = if z.2.1 7 9 = iI 0 then t_val L cs else V))) ?_ (by omega) (j := 0) ?_ (by omega)
  rotate_left
  · refine ⟨rfl, (u_F9.rf.wr (Or.inl rfl)).wr (Or.inr rfl), Or.inr ⟨i, [], 0, (h.w9 (Or.inl rfl)).w9 (Or.inr rfl), Nat.zero_le _, ?_, fun q => ⟨wr_s, fun _ => rfl, fun cs => ?_⟩⟩⟩
    · rw [t_ap_0]
      exact hX.symm
    · rw [if_pos ((wr_k (by omega)).trans wr_s)]
      rfl
  rintro gg t ⟨v1, s2⟩ ⟨e4, f2, hcase⟩ ht hgo
  have e4 : v1 = iI (t : Nat) := e4
  subst e4
  have f2 : u_F9 s s2 := f2
  show k_OK (k_if _ _ _) _
  rw [n_ilt (by omega) (by omega), if_neg (by omega)]
  rcases hcase with ⟨i', e, eX, h2⟩ | ⟨i', P, V, h2, hti, eX, hv⟩
  · have h2 : u_S 7 N b s2 i' (e : Nat) := h2
    obtain ⟨s3, e3, h3, f3⟩ := u_need (c := 121) hb h2 (by omega)
    rw [t_fa_e, ite_self] at h3
    obtain ⟨s4, e4, h4, f4⟩ := u_need (c := 58) hb h3 (by omega)
    rw [t_fa_e, ite_self] at h4
    have ec : f_X10_readClause s2 = some s4 := by
      unfold f_X10_readClause
      simp only [iI_lit]
      rw [e3, n_bd, e4, n_bd, u_failed h4, n_bd, if_neg (by omega), n_ieq (by omega) (by omega), if_neg (by omega)]
    rw [ec, n_bd, u_failed h4, n_bd, if_neg (by omega), n_ieq (by omega) (by omega), if_neg (by omega), ok_some, eX]
    exact ⟨f2.tr (f3.tr f4).n9, _, h4⟩
  · have h2 : u_S 7 N b s2 i' (-1) := h2
    have hv : r_let L → s2.1 7 10 = iI V ∧ (s2.1 7 9 = iI 0 → V = 0) ∧ ∀ cs, t_val L (P ++ cs) = if s2.1 7 9 = iI 0 then t_val L cs else V := hv
    have hi' := h2.2.2.2.1.1
    rw [show 200 - t = (200 - (t + 1)) + 1 by omega, t_cls_s] at eX
    rw [ok_bd]
    refine ok_mono (u_clause (L := L) hb h2 (fun q hq => (f2.2 11 q (by omega)).trans (hL q hq))) ?_
    rintro s3 ⟨f3, h3⟩
    cases hq : t_cl b N i' with
    | inl e =>
      rw [hq] at h3 eX
      obtain ⟨i3, h3⟩ := h3
      have h3 : u_S 7 N b s3 i3 (e : Nat) := h3
      have eX : X = .inl e := eX
      rw [u_failed h3, n_bd, if_neg (by omega), n_ieq (by omega) (by omega), if_neg (by omega), ok_some, eX]
      exact ⟨f2.tr f3, _, h3⟩
    | inr c =>
      rw [hq] at h3 eX
      have hp := (t_cl_p hb hi' hq).1
      obtain ⟨h3, hc⟩ := h3
      have h3 : u_S 7 N b s3 c.2.1 (-1) := h3
      have eX : X = t_ap P (if t_ch b N (t_at b N c.2.1) = 59 then t_ap [c] (t_cls b N (200 - (t + 1)) (t_at b N c.2.1 + 1))
      else if t_ch b N (t_at b N c.2.1) = -1 then .inr [c] else .inl (t_at b N c.2.1)) := eX
      obtain ⟨s4, e4, h4, f4⟩ := u_next hb h3
      have hat := t_at_p (b := b) hp.2
      have haa := t_at_at (b := b) hp.2
      have hr := t_ch_r hb (t_at b N c.2.1)
      have f24 := f2.tr (f3.tr f4.n9)
      have key : r_let L → ∃ V', s3.1 7 10 = iI V' ∧ (s3.1 7 9 = iI 0 → V' = 0) ∧ ∀ cs, t_val L (P ++ [c] ++ cs) = if s3.1 7 9 = iI 0 then t_val L cs else V' := fun q => by
        obtain ⟨v1, v2, v3⟩ := hv q
        rcases hc with ⟨g1, g2, g3⟩ | ⟨g1, g2, g3⟩
        · refine ⟨V, g2.trans v1, fun z => v2 (g1.symm.trans z), fun cs => ?_⟩
          rw [List.append_assoc, show [c] ++ cs = c :: cs from rfl, v3, g1]
          by_cases z : s2.1 7 9 = iI 0
          · rw [if_pos z, if_pos z]
            exact t_val_f ((g3 q).resolve_left (fun w => w z))
          · rw [if_neg z, if_neg z]
        · obtain ⟨g4, g5⟩ := g3 q
          refine ⟨c.2.2.2 L, g5, fun z => absurd (g2.symm.trans z) (by decide), fun cs => ?_⟩
          rw [List.append_assoc, show [c] ++ cs = c :: cs from rfl, v3, if_pos g1, t_val_t g4, g2, if_neg (by decide)]
      have e49 : s4.1 7 9 = s3.1 7 9 := f4.2 7 9 (by omega)
      have e410 : s4.1 7 10 = s3.1 7 10 := f4.2 7 10 (by omega)
      rw [u_failed h3, n_bd, if_pos rfl, n_ift rfl, e4, n_b2, iI_neg]
      by_cases c1 : t_ch b N (t_at b N c.2.1) = -1
      · rw [if_neg (by omega), if_pos c1] at eX
        have eX : X = .inr (P ++ [c]) := eX
        have en : t_nx (t_ch b N (t_at b N c.2.1)) = -2 := if_pos c1
        rw [en, n_ift rfl, ok_some, eX]
        refine ⟨f24, ⟨_, h4⟩, fun q => ?_⟩
        obtain ⟨V', w1, w2, w3⟩ := key q
        have w4 := w3 []
        rw [List.append_nil] at w4
        rw [e410, w1, w4]
        by_cases z : s3.1 7 9 = iI 0
        · rw [if_pos z, w2 z]
          rfl
        · rw [if_neg z]
      · have en : t_nx (t_ch b N (t_at b N c.2.1)) = t_ch b N (t_at b N c.2.1) := if_neg c1
        obtain ⟨s5, e5, h5, f5⟩ := u_need (c := 59) hb h4 (by omega)
        rw [haa, t_fa_m] at h5
        have f25 := f24.tr f5.n9
        rw [en, n_ieq (by omega) (by omega), if_neg (by omega), e5, n_bd, ok_nm]
        dsimp only
        rw [iI_add]
        refine hgo (iI ((t : Int) + 1), s5) (by omega) ⟨rfl, f25, ?_⟩
        by_cases c2 : t_ch b N (t_at b N c.2.1) = 59
        · rw [if_pos c2, t_ap_ap] at eX
          rw [if_pos c2, if_pos c2] at h5
          have e59 : s5.1 7 9 = s3.1 7 9 := (f5.2 7 9 (by omega)).trans e49
          have e510 : s5.1 7 10 = s3.1 7 10 := (f5.2 7 10 (by omega)).trans e410
          by_cases q : r_let L
          · obtain ⟨V', w1, w2, w3⟩ := key q
            refine Or.inr ⟨_, P ++ [c], V', h5, by omega, eX, fun _ => ?_⟩
            show s5.1 7 10 = iI V' ∧ (s5.1 7 9 = iI 0 → V' = 0) ∧ ∀ cs, t_val L (P ++ [c] ++ cs) = if s5.1 7 9 = iI 0 then t_val L cs else V'
            rw [e59, e510]
            exact ⟨w1, w2, w3⟩
          · exact Or.inr ⟨_, P ++ [c], 0, h5, by omega, eX, fun z => absurd z q⟩
        · rw [if_neg c2, if_neg c1] at eX
          rw [if_neg c2, if_neg c2] at h5
          exact Or.inl ⟨_, _, eX, h5⟩
