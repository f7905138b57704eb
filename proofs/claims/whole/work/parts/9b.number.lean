/-! the class's numbers -/
theorem u_number {c0 N : Nat} {b : Nat → Int} {s : k_St} {i D : Nat} {lo hi : Int} (hb : t_by b N) (h : u_S c0 N b s i (-1)) (hD : 1 ≤ D ∧ D ≤ 4) (hlo : 0 ≤ lo ∧ lo ≤ 1000000) (hhi : 0 ≤ hi ∧ hi ≤ 1000000) : ∃ r s', f_X3_number c0 (iI D) (iI lo) (iI hi) s = some (r, s') ∧ u_F c0 s s' ∧ (if t_dg (t_ch b N (t_nm b N D (t_at b N i) 0).1) then u_S c0 N b s' (t_nm b N D (t_at b N i) 0).1 ((t_nm b N D (t_at b N i) 0).1 : Int) else if (t_nm b N D (t_at b N i) 0).1 = t_at b N i then u_S c0 N b s' (t_nm b N D (t_at b N i) 0).1 ((t_nm b N D (t_at b N i) 0).1 : Int) else if lo ≤ (t_nm b N D (t_at b N i) 0).2 ∧ (t_nm b N D (t_at b N i) 0).2 ≤ hi then r = iI (t_nm b N D (t_at b N i) 0).2 ∧ u_S c0 N b s' (t_nm b N D (t_at b N i) 0).1 (-1) else u_S c0 N b s' (t_nm b N D (t_at b N i) 0).1 (((t_nm b N D (t_at b N i) 0).1 : Int) - 1)) := by
  obtain ⟨s1, e1, h1, f1⟩ := u_next hb h
  have hj := h1.2.2.2.1
  generalize hJ : t_at b N i = j at *
  have hp := t_nm_p (b := b) (N := N) D (i := j) (v := 0) hj.1 (by omega)
  have h10 : (0 + 1 : Int) * 10 ^ D ≤ 10000 := by
    rcases (show D = 1 ∨ D = 2 ∨ D = 3 ∨ D = 4 by omega) with rfl | rfl | rfl | rfl <;> decide
  generalize hM : t_nm b N D j 0 = M at *
  unfold f_X3_number
  rw [e1, n_b2]
  simp only [iI_lit]
  suffices hh : k_OK (k_loop (fun (g11 : Int32 × Int32 × k_St → Option (Int32 × k_St)) (z11 : Int32 × Int32 × k_St) => match z11 with
    | (v4_11, v5_11, s_11) =>
      k_jn (fun (_ : Unit) =>
        k_if (v5_11 = iI 0)
          (k_bd (f_X3_failAt c0 (k_rd s_11 c0 2) s_11) fun s103 =>
          some (v4_11, s103))
          (k_bd (f_X11_within v4_11 (iI lo) (iI hi)) fun v113 =>
          k_if (v113 = iI 0)
            (k_bd (f_X3_failAt c0 ((k_rd s_11 c0 2) - iI 1) s_11) fun s126 =>
            some (v4_11, s126))
            (some (v4_11, s_11)))) fun j93 =>
      k_if ((k_rd s_11 c0 1) ≤ (k_rd s_11 c0 2))
        (j93 ())
        (k_gd (k_ix (k_rd s_11 c0 2) 160 = true) <|
        k_bd (f_X11_within (k_rd s_11 (c0 + 1) (k_rd s_11 c0 2).toNatClampNeg) (iI 48) (iI 57)) fun v35 =>
        k_if (v35 = iI 0)
          (j93 ())
          (k_if (v5_11 < iI (D : Int))
            (k_gd (k_ix (k_rd s_11 c0 2) 160 = true) <|
            k_nm ((((iI 10 * v4_11) + (k_rd s_11 (c0 + 1) (k_rd s_11 c0 2).toNatClampNeg)) - iI 48)) fun y75 =>
            k_nm (v5_11 + iI 1) fun y77 =>
            k_nm (k_wr s_11 c0 2 ((k_rd s_11 c0 2) + iI 1)) fun s87 =>
            g11 (y75, y77, s87))
            (k_bd (f_X3_failAt c0 (k_rd s_11 c0 2) s_11) fun s52 =>
            some (iI 0, s52))))) 100000 (iI 0, iI 0, s1)) (fun r => u_F c0 s r.2 ∧ (if t_dg (t_ch b N M.1) then u_S c0 N b r.2 M.1 (M.1 : Int) else if M.1 = j then u_S c0 N b r.2 M.1 (M.1 : Int) else if lo ≤ M.2 ∧ M.2 ≤ hi then r.1 = iI M.2 ∧ u_S c0 N b r.2 M.1 (-1) else u_S c0 N b r.2 M.1 ((M.1 : Int) - 1))) by
    obtain ⟨⟨r, s'⟩, e2, h2⟩ := hh
    exact ⟨r, s', e2, h2⟩
  refine ok_for D (fun t (z : Int32 × Int32 × k_St) => ∃ v : Int, z.1 = iI v ∧ (0 ≤ v ∧ v ≤ 9999 ∧ (t ≤ 3 → v ≤ 999) ∧ (t ≤ 2 → v ≤ 99) ∧ (t ≤ 1 → v ≤ 9) ∧ (t = 0 → v ≤ 0)) ∧ z.2.1 = iI (t : Nat) ∧ u_S c0 N b z.2.2 (j + t) (-1) ∧ u_F c0 s z.2.2 ∧ t_nm b N (D - t) (j + t) v = M) ?_ (by omega) (j := 0) ⟨0, rfl, by omega, rfl, h1, f1, hM⟩ (by omega)
  rintro g t ⟨w4, w5, s2⟩ ⟨v, g1, g2, g3, g4, g5, g6⟩ ht hg
  have g1 : w4 = iI v := g1
  subst g1
  have g3 : w5 = iI (t : Nat) := g3
  subst g3
  have g4 : u_S c0 N b s2 (j + t) (-1) := g4
  have g5 : u_F c0 s s2 := g5
  obtain ⟨q1, q2, q3, q4, q5⟩ := id g4
  have d1 : k_rd s2 c0 1 = iI N := q1
  have d2 : k_rd s2 c0 2 = iI ((j + t : Nat) : Int) := q2
  show k_OK (k_jn _ _) _
  simp only [n_jn]
  rw [d1, d2]
  -- the end of the number
  have fin : ¬ t_dg (t_ch b N (j + t)) → k_OK (k_if (iI ((t : Nat) : Int) = iI 0)
          (k_bd (f_X3_failAt c0 (iI ((j + t : Nat) : Int)) s2) fun s103 =>
          some (iI v, s103))
          (k_bd (f_X11_within (iI v) (iI lo) (iI hi)) fun v113 =>
          k_if (v113 = iI 0)
            (k_bd (f_X3_failAt c0 (iI ((j + t : Nat) : Int) - iI 1) s2) fun s126 =>
            some (iI v, s126))
            (some (iI v, s2)))) (fun r => u_F c0 s r.2 ∧ (if t_dg (t_ch b N M.1) then u_S c0 N b r.2 M.1 (M.1 : Int) else if M.1 = j then u_S c0 N b r.2 M.1 (M.1 : Int) else if lo ≤ M.2 ∧ M.2 ≤ hi then r.1 = iI M.2 ∧ u_S c0 N b r.2 M.1 (-1) else u_S c0 N b r.2 M.1 ((M.1 : Int) - 1))) := fun hnd => by
    have eM : M = (j + t, v) := by
      rw [← g6]
      cases D - t with
      | zero => rfl
      | succ f =>
        show (if t_dg (t_ch b N (j + t)) then _ else (j + t, v)) = _
        rw [if_neg hnd]
    have eM1 : M.1 = j + t := by rw [eM]
    have eM2 : M.2 = v := by rw [eM]
    rw [eM1, eM2, n_ieq (by omega) (by omega)]
    by_cases c0' : ((t : Nat) : Int) = 0
    · obtain ⟨s3, e3, h3, f3⟩ := u_failAt g4 (show j + t ≤ N by omega)
      rw [if_pos c0', e3, n_bd, ok_some, if_neg hnd, if_pos (show j + t = j by omega)]
      exact ⟨g5.tr f3, h3⟩
    · rw [if_neg c0', n_within (by omega) (by omega) (by omega), n_bd, n_ib]
      by_cases c1 : lo ≤ v ∧ v ≤ hi
      · rw [if_pos c1, ok_some, if_neg hnd, if_neg (show ¬ j + t = j by omega), if_pos c1]
        exact ⟨g5, rfl, g4⟩
      · obtain ⟨s3, e3, h3, f3⟩ := u_failAt g4 (show j + t - 1 ≤ N by omega)
        rw [if_neg c1, iI_sub, show ((j + t : Nat) : Int) - 1 = ((j + t - 1 : Nat) : Int) by omega, e3, n_bd, ok_some, if_neg hnd, if_neg (show ¬ j + t = j by omega), if_neg c1]
        exact ⟨g5.tr f3, h3⟩
  rw [n_ile (by omega) (by omega)]
  by_cases c1 : (N : Int) ≤ ((j + t : Nat) : Int)
  · rw [if_pos c1]
    exact fin (by
      rw [t_ch_N (by omega)]
      intro q
      exact absurd q.1 (by decide))
  have hlt : j + t < N := by omega
  have hbj := hb (j + t) hlt
  have ebj : k_rd s2 (c0 + 1) (j + t) = iI (b (j + t)) := q5 (j + t) hlt
  have ech : t_ch b N (j + t) = b (j + t) := t_ch_b hlt
  rw [if_neg c1, n_gix (by omega) (by omega), iI_cl (by omega), Int.toNat_natCast, ebj, n_within (by omega) (by omega) (by omega), n_bd, n_ib]
  by_cases c2 : 48 ≤ b (j + t) ∧ b (j + t) ≤ 57
  rotate_left
  · rw [if_neg c2]
    exact fin (by rw [ech]; exact c2)
  rw [if_pos c2, n_ilt (by omega) (by omega)]
  by_cases c3 : ((t : Nat) : Int) < D
  · have eg : t_nm b N (D - (t + 1)) (j + (t + 1)) (10 * v + b (j + t) - 48) = M := by
      rw [← g6, show D - t = D - (t + 1) + 1 by omega]
      show _ = if t_dg (t_ch b N (j + t)) then t_nm b N (D - (t + 1)) (j + t + 1) (10 * v + t_ch b N (j + t) - 48) else (j + t, v)
      rw [ech, if_pos c2]
      rfl
    rw [if_pos c3, n_gix (by omega) (by omega), iI_mul, iI_add, iI_sub, iI_add, iI_add, ok_nm, ok_nm, ok_nm]
    refine hg _ (by omega) ⟨_, rfl, by omega, rfl, ?_, g5.wr (Or.inl rfl), eg⟩
    exact g4.at' (show j + (t + 1) ≤ N by omega)
  · obtain ⟨s3, e3, h3, f3⟩ := u_failAt g4 (show j + t ≤ N by omega)
    have eM : M = (j + t, v) := by
      rw [← g6, show D - t = 0 by omega]
      rfl
    have eM1 : M.1 = j + t := by rw [eM]
    rw [if_neg c3, e3, n_bd, ok_some, eM1, ech, if_pos c2]
    exact ⟨g5.tr f3, h3⟩
