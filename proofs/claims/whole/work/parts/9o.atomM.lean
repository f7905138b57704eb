/-! the reference's atoms, whole -/
theorem v_plain {w N d q : Nat} {b : Nat → Int} {s : k_St} {j : Nat} {cs : List (Int × Int)} (hb : t_by b N) (h : v_S w N b s j d q cs) (hj : t_dg (t_ch b N j)) : k_OK (f_X12_plainNumber s) (fun r => v_F w s r.2 ∧ if t_dg (t_ch b N (t_nm b N 4 j 0).1) then v_E w N r.2 (t_nm b N 4 j 0).1 d (q + 1) else r.1 = iI (t_nm b N 4 j 0).2 ∧ v_S w N b r.2 (t_nm b N 4 j 0).1 d (q + 1) cs) := by
  have hN := h.1.2.1
  generalize hM : t_nm b N 4 j 0 = M
  unfold f_X12_plainNumber
  simp only [iI_lit]
  refine ok_for 4 (fun t (z : Int32 × Int32 × k_St) => ∃ v : Int, z.1 = iI v ∧ (0 ≤ v ∧ v ≤ 9999 ∧ (t ≤ 3 → v ≤ 999) ∧ (t ≤ 2 → v ≤ 99) ∧ (t ≤ 1 → v ≤ 9) ∧ (t = 0 → v ≤ 0)) ∧ z.2.1 = iI (t : Nat) ∧ v_S w N b z.2.2 (j + t) d (q + t) cs ∧ v_F w s z.2.2 ∧ t_nm b N (4 - t) (j + t) v = M) ?_ (by omega) (j := 0) ⟨0, rfl, by omega, rfl, h, v_F.rf, hM⟩ (by omega)
  rintro g t ⟨w4, w5, s2⟩ ⟨v, g1, g2, g3, g4, g5, g6⟩ ht hg
  have g1 : w4 = iI v := g1
  subst g1
  have g3 : w5 = iI (t : Nat) := g3
  subst g3
  have g4 : v_S w N b s2 (j + t) d (q + t) cs := g4
  have g5 : v_F w s s2 := g5
  have hr := t_ch_r hb (j + t)
  have hql := g4.2.2.1
  have e3 : k_rd s2 0 3 = iI ((j + t : Nat) : Int) := g4.2.1.1
  show k_OK (k_jn _ _) _
  simp only [n_jn]
  rw [v_here hb g4]
  have fin : (¬ t = 0) → (t = 4 ∨ ¬ t_dg (t_ch b N (j + t))) → k_OK (k_bd (some (iI (t_ch b N (j + t)))) fun v49 =>
        k_bd (f_X12_isDigit v49) fun v52 =>
        k_if (v52 = iI 0)
          (some (iI v, s2))
          (k_bd (f_X12_bad s2) fun s59 =>
          some (iI v, s59))) (fun r => v_F w s r.2 ∧ if t_dg (t_ch b N M.1) then v_E w N r.2 M.1 d (q + 1) else r.1 = iI M.2 ∧ v_S w N b r.2 M.1 d (q + 1) cs) := fun ht0 hh => by
    have eM : M = (j + t, v) := by
      rw [← g6]
      rcases hh with rfl | hh
      · rfl
      · cases 4 - t with
        | zero => rfl
        | succ f =>
          show (if t_dg (t_ch b N (j + t)) then _ else (j + t, v)) = _
          rw [if_neg hh]
    have eM1 : M.1 = j + t := by rw [eM]
    have eM2 : M.2 = v := by rw [eM]
    rw [eM1, eM2, n_bd, v_dig (by omega), n_bd]
    by_cases c : t_dg (t_ch b N (j + t))
    · obtain ⟨s3, e3, h3, f3⟩ := v_bad g4
      rw [if_pos c, n_iff (by decide), e3, n_bd, ok_some, if_pos c]
      exact ⟨g5.tr f3, h3.mo (Nat.le_refl _) (by omega)⟩
    · rw [if_neg c, n_ift rfl, ok_some, if_neg c]
      exact ⟨g5, rfl, g4.mo (by omega)⟩
  rw [n_ile (by omega) (by omega)]
  by_cases c1 : (4 : Int) ≤ (t : Nat)
  · rw [if_pos c1]
    exact fin (by omega) (Or.inl (by omega))
  · rw [if_neg c1, n_bd, v_dig (by omega), n_bd]
    by_cases c2 : t_dg (t_ch b N (j + t))
    · have hlt := t_ch_lt (b := b) (N := N) (i := j + t) (by have := c2.1; omega)
      have c21 := c2.1
      have c22 := c2.2
      have eg : t_nm b N (4 - (t + 1)) (j + (t + 1)) (10 * v + t_ch b N (j + t) - 48) = M := by
        rw [← g6, show 4 - t = 4 - (t + 1) + 1 by omega]
        show _ = if t_dg (t_ch b N (j + t)) then t_nm b N (4 - (t + 1)) (j + t + 1) (10 * v + t_ch b N (j + t) - 48) else (j + t, v)
        rw [if_pos c2]
        rfl
      rw [if_pos c2, n_iff (by decide), n_bd, iI_mul, iI_add, iI_sub, e3, iI_add, iI_add, ok_nm, ok_nm, ok_nm]
      exact hg _ (by omega) ⟨_, rfl, by omega, rfl, g4.at' (i' := j + (t + 1)) (q' := q + (t + 1)) (by omega) (by omega), g5.w0 (Or.inl rfl), eg⟩
    · rw [if_neg c2, n_ift rfl]
      rw [n_bd] at fin
      rw [n_bd]
      exact fin (fun z => c2 (by subst z; exact hj)) (Or.inr c2)
theorem v_atom {w N d : Nat} {b : Nat → Int} (hb : t_by b N) {p : k_St → Option k_St} {sm : Option (Nat → t_R)} (hd : d ≤ 6) (hn : sm = none → d = 6) (hs : ∀ g, sm = some g → d < 6 ∧ v_P w N b (d + 1) p g) : v_P w N b d (b_X12_atom p) (t_atom sm b N) := by
  intro s i q cs h
  obtain ⟨s1, e1, h1, f1⟩ := v_look hb h
  have hat := t_at_p (b := b) h.2.2.1.1
  have haa := t_at_at (b := b) h.2.2.1.1
  have hr := t_ch_r hb (t_at b N i)
  have hN := h.1.2.1
  have hql := h1.2.2.1
  rw [t_atom_e]
  unfold b_X12_atom
  simp only [iI_lit, iI_neg]
  rw [e1, n_b2]
  generalize t_at b N i = j at *
  have hl := t_lt_r (t_ch b N j)
  rw [v_dig (by omega), n_bd]
  by_cases cd : t_dg (t_ch b N j)
  · rw [if_pos cd, if_pos cd, n_iff (by decide), ok_b2]
    refine ok_mono (v_plain hb h1 cd) ?_
    rintro ⟨r, s2⟩ ⟨f2, h2⟩
    have f2 : v_F w s1 s2 := f2
    dsimp only at h2 ⊢
    by_cases c2 : t_dg (t_ch b N (t_nm b N 4 j 0).1)
    · rw [if_pos c2] at h2 ⊢
      obtain ⟨s3, e3, h3, f3⟩ := v_putE (x := iI 0) (y := r) h2
      rw [e3, n_bd, ok_some]
      exact ⟨(f1.tr f2).tr f3, h3⟩
    · rw [if_neg c2] at h2 ⊢
      obtain ⟨er, h2⟩ := h2
      obtain ⟨s3, e3, h3, f3⟩ := v_put (c := 0) (v := (t_nm b N 4 j 0).2) h2
      rw [er, e3, n_bd, ok_some]
      exact ⟨(f1.tr f2).tr f3, h3⟩
  rw [if_neg cd, if_neg cd, n_ift rfl, v_let (by omega), n_bd, n_ieq (by omega) (by omega)]
  by_cases c3 : t_lt (t_ch b N j) = -1
  · rw [if_pos c3, if_neg (show ¬ ¬ t_lt (t_ch b N j) = -1 by omega), n_ieq (by omega) (by omega)]
    by_cases c9 : t_ch b N j = 91
    · have hlt := t_ch_lt (b := b) (N := N) (i := j) (by omega)
      rw [if_pos c9, if_pos c9]
      obtain ⟨s2, e2, f2, h2⟩ := v_opens h1 hlt
      rw [e2, n_bd]
      cases sm with
      | none =>
        rw [if_pos (hn rfl)] at h2
        have e4 : k_rd s2 0 4 = iI (j : Int) := h2.2
        rw [e4, n_ieq (by omega) (by omega), if_neg (by omega), ok_some]
        exact ⟨f1.tr f2, h2.1.mo (Nat.le_refl _) (by omega)⟩
      | some g =>
        obtain ⟨g1, g2⟩ := hs g rfl
        rw [if_neg (by omega)] at h2
        have e4 : k_rd s2 0 4 = iI (-1) := h2.2.1.2.1
        rw [e4, n_ift rfl, ok_bd]
        refine ok_mono (g2 _ _ _ _ h2) ?_
        rintro s3 ⟨f3, h3⟩
        show k_OK _ (fun s' => v_F w s s' ∧ v_R w N b d q cs (t_bd (g (j + 1)) (t_nd b N 93)) s')
        cases hg : g (j + 1) with
        | inl e =>
          rw [hg] at h3
          obtain ⟨s4, e4, f4, h4⟩ := v_closesE (x := iI 93) h3
          rw [e4, n_bd, ok_some]
          exact ⟨((f1.tr f2).tr f3).tr f4, h4.mo (Nat.le_refl _) (by omega)⟩
        | inr y =>
          rw [hg] at h3
          obtain ⟨s4, e4, f4, h4⟩ := v_closes hb h3 (c := 93) (by omega)
          rw [e4, n_bd, ok_some]
          refine ⟨((f1.tr f2).tr f3).tr f4, ?_⟩
          show v_R w N b d q cs (t_nd b N 93 y) s4
          unfold t_nd
          by_cases q1 : t_ch b N (t_at b N y.1) = 93
          · rw [if_pos q1] at h4 ⊢
            exact h4.mo (by omega)
          · rw [if_neg q1] at h4 ⊢
            exact h4.mo (Nat.le_refl _) (by omega)
    · obtain ⟨s2, e2, h2, f2⟩ := v_bad h1
      rw [if_neg c9, if_neg c9, e2, n_bd, ok_some]
      exact ⟨f1.tr f2, h2⟩
  · have hlt := t_ch_lt (b := b) (N := N) (i := j) (fun z => c3 (by rw [z]; rfl))
    have e3 : k_rd s1 0 3 = iI (j : Int) := h1.2.1.1
    have h2 := h1.at' (i' := j + 1) (q' := q + 1) (by omega) (by omega)
    obtain ⟨s3, e4, h3, f3⟩ := v_put (c := 1) (v := t_lt (t_ch b N j)) h2
    have e4 : f_X12_put (iI 1) (iI (t_lt (t_ch b N j))) (k_wr s1 0 3 (iI ((j : Int) + 1))) = some s3 := e4
    rw [if_neg c3, if_pos c3, e3, iI_add, ok_nm, n_bd, e4, n_bd, ok_some]
    exact ⟨(f1.w0 (Or.inl rfl)).tr f3, h3⟩
theorem v_sum {w N : Nat} {b : Nat → Int} (hb : t_by b N) : ∀ (k n : Nat), k < n → k ≤ 6 → v_P w N b (6 - k) (f_X12_sum n) (t_sum b N k)
  | 0, n + 1, h, h6 => by
    show v_P w N b 6 (b_X12_sum (b_X12_term (b_X12_atom (f_X12_sum n)))) (t_sumO none b N)
    rw [v_G_sum, v_G_term]
    exact v_chain hb (by decide) (by decide) (v_chain hb (by decide) (by decide) (v_atom hb (by omega) (fun _ => rfl) (fun g q => by cases q)) (t_atom_G hb (fun g q => by cases q))) (t_chain_G (t_atom_G hb (fun g q => by cases q)) (by decide) (by decide))
  | k + 1, n + 1, h, h6 => by
    show v_P w N b (6 - (k + 1)) (b_X12_sum (b_X12_term (b_X12_atom (f_X12_sum n)))) (t_sumO (some (t_sum b N k)) b N)
    rw [v_G_sum, v_G_term]
    have hs : ∀ g, some (t_sum b N k) = some g → 6 - (k + 1) < 6 ∧ v_P w N b (6 - (k + 1) + 1) (f_X12_sum n) g := fun g q => by
      cases q
      refine ⟨by omega, ?_⟩
      rw [show 6 - (k + 1) + 1 = 6 - k by omega]
      exact v_sum hb k n (by omega) (by omega)
    have hG : ∀ g, some (t_sum b N k) = some g → t_G N g := fun g q => by
      cases q
      exact t_sum_G hb k
    exact v_chain hb (by decide) (by decide) (v_chain hb (by decide) (by decide) (v_atom hb (by omega) (fun q => by cases q) hs) (t_atom_G hb hG)) (t_chain_G (t_atom_G hb hG) (by decide) (by decide))
