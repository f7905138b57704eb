/-! the class reads a lake -/
def w_F (s s' : k_St) : Prop := s'.2 = s.2 ∧ ∀ c k, ¬ (c = 3 ∨ c = 5 ∨ c = 6) → s'.1 c k = s.1 c k
theorem w_F.rf {s : k_St} : w_F s s := ⟨rfl, fun _ _ _ => rfl⟩
theorem w_F.tr {s s1 s2 : k_St} (h : w_F s s1) (h2 : w_F s1 s2) : w_F s s2 := ⟨h2.1.trans h.1, fun c k q => (h2.2 c k q).trans (h.2 c k q)⟩
theorem w_F.u {s s1 s2 : k_St} (h : w_F s s1) (h2 : u_F 3 s1 s2) : w_F s s2 := ⟨h2.1.trans h.1, fun c k q => (h2.2 c k (by omega)).trans (h.2 c k q)⟩
theorem w_F.wr {s s1 : k_St} {c k : Nat} {x : Int32} (h : w_F s s1) (hc : c = 3 ∨ c = 5 ∨ c = 6) : w_F s (k_wr s1 c k x) := ⟨h.1, fun c' j q => by
  rw [wr_if, if_neg (fun z => q (by rw [z.1]; exact hc))]
  exact h.2 c' j q⟩
theorem u_S.wr {c0 N : Nat} {b : Nat → Int} {s : k_St} {i : Nat} {e : Int} (h : u_S c0 N b s i e) {c k : Nat} {x : Int32} (hc : ¬ c = c0 + 1 ∧ ¬ (c = c0 ∧ k ≤ 3)) : u_S c0 N b (k_wr s c k x) i e := by
  obtain ⟨h1, h2, h3, h4, h5⟩ := h
  refine ⟨?_, ?_, ?_, h4, fun j hj => ?_⟩
  · rw [wr_if, if_neg (by omega)]
    exact h1
  · rw [wr_if, if_neg (by omega)]
    exact h2
  · rw [wr_if, if_neg (by omega)]
    exact h3
  · rw [wr_if, if_neg (by omega)]
    exact h5 j hj
/-- what reading items changes -/
def w_G (C a o : Nat) (s s' : k_St) : Prop := s'.2 = s.2 ∧ ∀ c k, ¬ (c = 3 ∧ (k = 2 ∨ k = 3)) → ¬ (c = a ∧ o ≤ k ∧ k < o + C) → s'.1 c k = s.1 c k
theorem w_G.tr {C a o : Nat} {s s1 s2 : k_St} (h : w_G C a o s s1) (h2 : u_F 3 s1 s2) : w_G C a o s s2 := ⟨h2.1.trans h.1, fun c k q q2 => (h2.2 c k q).trans (h.2 c k q q2)⟩
theorem w_G.w0 {C a o : Nat} {s s1 : k_St} (h : w_G C a o s s1) {k : Nat} {x : Int32} (hk : k < C) : w_G C a o s (k_wr s1 a (o + k) x) := ⟨h.1, fun c j q q2 => by
  rw [wr_if, if_neg (fun z => q2 ⟨z.1, by omega⟩)]
  exact h.2 c j q q2⟩
def w_I (u a o N : Nat) (b : Nat → Int) (s : k_St) (X : l_R) (s' : k_St) : Prop := w_G (l_n u) a o s s' ∧ match X with
  | .inl e => ∃ i', u_S 3 N b s' i' (e : Int)
  | .inr y => if t_ch b N y.1 = 59 ∨ t_ch b N y.1 = -1 then u_S 3 N b s' y.1 (-1) ∧ ∀ k, k < l_n u → s'.1 a (o + k) = iI (y.2 k) else u_S 3 N b s' y.1 (y.1 : Int)
theorem u_items {u u2 u3 a o N i : Nat} {b : Nat → Int} {s : k_St} {g : Nat → Int} (hu : u < 2) (hb : t_by b N) (ha : a = 5 ∨ a = 6) (ho : o + l_n u ≤ k_nX a) (hk : k_nX a ≤ 24) (hs2 : su_n u2 = l_n u) (hs3 : su_n u3 = l_n u) (hv : ∀ k, k < l_n u → su_v u2 k = iI (l_lo u (k : Int)) ∧ su_v u3 k = iI (l_hi u (k : Int))) (h : u_S 3 N b s i (-1)) (hg : ∀ k, k < l_n u → s.1 a (o + k) = iI (g k)) : k_OK (f_X2_readItems u u2 u3 a (iI (o : Int)) s) (w_I u a o N b s (l_its u b N 200 i 0 g)) := by
  have hn4 := l_n_4 hu
  have hN := h.2.2.2.1.2.1
  have hi0 := h.2.2.2.1.1
  generalize hX : l_its u b N 200 i 0 g = X
  unfold f_X2_readItems
  simp only [iI_lit, iI_neg]
  refine ok_for 170 (fun t (z : Int32 × Int32 × k_St) => z.2.1 = iI (t : Int) ∧ w_G (l_n u) a o s z.2.2 ∧ ∃ (i' m : Nat) (q : Nat → Int), X = l_its u b N (200 - t) i' m q ∧ z.1 = iI (m : Int) ∧ m < 16 ∧ u_S 3 N b z.2.2 i' (-1) ∧ (∀ k, k < l_n u → z.2.2.1 a (o + k) = iI (q k)) ∧ t ≤ i' ∧ i' ≤ N) ?_ (by omega) (j := 0) ⟨rfl, ⟨rfl, fun _ _ _ _ => rfl⟩, i, 0, g, hX.symm, rfl, by decide, h, hg, Nat.zero_le _, hi0⟩ (by omega)
  rintro gg t ⟨v6, v7, z⟩ ⟨h7, hf, i', m, q, eX, hm, hm16, h3, h4, ht', hi'⟩ ht hgo
  have h7 : v7 = iI (t : Int) := h7
  subst h7
  have hm : v6 = iI (m : Int) := hm
  subst hm
  have hf : w_G (l_n u) a o s z := hf
  have h3 : u_S 3 N b z i' (-1) := h3
  have h4 : ∀ k, k < l_n u → z.1 a (o + k) = iI (q k) := h4
  have hat := t_at_p (b := b) hi'
  have haa := t_at_at (b := b) hi'
  have hr := t_ch_r hb (t_at b N i')
  have hx := l_ix_r hu (t_ch b N (t_at b N i'))
  obtain ⟨s1, e1, g1, f1⟩ := u_next hb h3
  obtain ⟨sF, eF, gF, fF⟩ := u_fail hb g1
  rw [haa, t_fa_m] at gF
  dsimp only
  rw [n_ilt (by omega) (by omega), if_neg (by omega), e1, n_b2]
  rw [show 200 - t = (199 - t) + 1 by omega] at eX
  unfold l_its at eX
  have hN2 : iI (t_nx (t_ch b N (t_at b N i'))) = iI (-2) ↔ t_ch b N (t_at b N i') = -1 := by
    unfold t_nx
    by_cases qq : t_ch b N (t_at b N i') = -1
    · rw [if_pos qq]
      exact ⟨fun _ => qq, fun _ => rfl⟩
    · rw [if_neg qq, iI_eq (by omega) (by omega)]
      omega
  by_cases c1 : t_ch b N (t_at b N i') = -1
  · have hx1 : u_ix u (t_ch b N (t_at b N i')) = -1 := by
      rw [c1]
      rcases (show u = 0 ∨ u = 1 by omega) with rfl | rfl <;> rfl
    rw [if_pos (Or.inl hx1)] at eX
    rw [n_ift (hN2.mpr c1), ok_some, eX]
    refine ⟨hf.tr f1, ?_⟩
    show if t_ch b N (t_at b N i') = 59 ∨ t_ch b N (t_at b N i') = -1 then _ else _
    rw [if_pos (Or.inr c1)]
    exact ⟨g1, fun k hk => (f1.2 a (o + k) (by omega)).trans (h4 k hk)⟩
  rw [n_iff (fun z => c1 (hN2.mp z))]
  by_cases c2 : t_ch b N (t_at b N i') = 59
  · have hx1 : u_ix u (t_ch b N (t_at b N i')) = -1 := by
      rw [c2]
      rcases (show u = 0 ∨ u = 1 by omega) with rfl | rfl <;> rfl
    rw [if_pos (Or.inl hx1)] at eX
    rw [n_ift ((t_nx_e hb (by decide)).mpr c2), ok_some, eX]
    refine ⟨hf.tr f1, ?_⟩
    show if t_ch b N (t_at b N i') = 59 ∨ t_ch b N (t_at b N i') = -1 then _ else _
    rw [if_pos (Or.inl c2)]
    exact ⟨g1, fun k hk => (f1.2 a (o + k) (by omega)).trans (h4 k hk)⟩
  have hlt := t_ch_lt (b := b) (N := N) (i := t_at b N i') c1
  rw [n_iff (fun z => c2 ((t_nx_e hb (by decide)).mp z)), show t_nx (t_ch b N (t_at b N i')) = t_ch b N (t_at b N i') from if_neg c1, u_idx (by omega) (by omega), n_bd]
  have bad : X = .inr (t_at b N i', q) → k_OK (k_bd (f_X3_fail 3 s1) fun s104 => some s104) (w_I u a o N b s X) := fun eX => by
    rw [eF, n_bd, ok_some, eX]
    refine ⟨(hf.tr f1).tr fF, ?_⟩
    show if t_ch b N (t_at b N i') = 59 ∨ t_ch b N (t_at b N i') = -1 then _ else _
    rw [if_neg (fun z => z.elim c2 c1)]
    exact gF
  have e2 : (Int32.ofNat (su_n u2)) = iI (l_n u : Int) := by
    rw [hs2]
    rcases (show u = 0 ∨ u = 1 by omega) with rfl | rfl <;> rfl
  have e3 : (Int32.ofNat (su_n u3)) = iI (l_n u : Int) := by
    rw [hs3]
    rcases (show u = 0 ∨ u = 1 by omega) with rfl | rfl <;> rfl
  have e4 : (Int32.ofNat (k_nX a)) = iI (k_nX a : Int) := by
    rcases ha with rfl | rfl <;> rfl
  generalize u_ix u (t_ch b N (t_at b N i')) = x at *
  simp only [n_jn]
  rw [e2, e3, e4, iI_sub, iI_sub, iI_add, n_within (by omega) (by omega) (by omega), n_bd, n_ib, n_ile (by omega) (by omega), n_within (by omega) (by omega) (by omega), n_bd, n_ib, n_ift trivial, n_iff (show ¬ iI 1 = iI 0 by decide)]
  by_cases d1 : x = -1
  · rw [if_pos (Or.inl d1)] at eX
    rw [if_neg (by omega)]
    exact bad eX
  obtain ⟨n, rfl⟩ : ∃ n : Nat, x = (n : Int) := ⟨x.toNat, by omega⟩
  rw [Int.toNat_natCast] at eX
  obtain ⟨b1, b2, b5⟩ := y_bits hm16 (show n < 4 by omega)
  rw [if_pos (by omega), if_neg (by omega), if_pos (by omega)]
  by_cases d2 : m / 2 ^ n % 2 = 1
  · rw [if_pos (Or.inr d2)] at eX
    rw [n_iff (fun z => by have := b5.mp z; omega)]
    exact bad eX
  rw [if_neg (fun z => z.elim d1 d2)] at eX
  obtain ⟨b3, b4⟩ := b2 (by omega)
  obtain ⟨s2, e5, g2, f2⟩ := u_pass g1
  rw [if_pos hlt] at g2
  have hl := l_lohi (u := u) (x := (n : Int))
  obtain ⟨hv1, hv2⟩ := hv n (by omega)
  obtain ⟨r, s3, e6, f3, g3⟩ := u_number (D := 2) (lo := l_lo u (n : Int)) (hi := l_hi u (n : Int)) hb g2 (by omega) (by omega) (by omega)
  have e6 : f_X3_number 3 (iI 2) (iI (l_lo u (n : Int))) (iI (l_hi u (n : Int))) s2 = some (r, s3) := e6
  have hnum := l_num_p (b := b) (N := N) (i := t_at b N i' + 1) (lo := l_lo u (n : Int)) (hi := l_hi u (n : Int)) (by omega)
  have hf3 := ((((hf.tr f1).tr f2).tr f3)).w0 (k := n) (x := r) (by omega)
  rw [n_ift (b5.mpr (by omega)), b3, ok_nm, e5, n_bd, hs2, hs3, n_gix (by omega) (by omega), n_gix (by omega) (by omega), iI_cl (by omega), Int.toNat_natCast, hv1, hv2, e6, n_b2, show (o : Int) + (n : Int) = ((o + n : Nat) : Int) by omega, n_gix (by omega) (by omega), iI_cl (by omega), Int.toNat_natCast, ok_nm]
  have g3' : match l_num b N (l_lo u (n : Int)) (l_hi u (n : Int)) (t_at b N i' + 1) with
    | .inl e => ∃ i', u_S 3 N b s3 i' (e : Int)
    | .inr y => r = iI y.2 ∧ u_S 3 N b s3 y.1 (-1) := by
    have hat2 := t_at_p (b := b) (i := t_at b N i' + 1) (N := N) (by omega)
    have hp := (t_nm_p (b := b) (N := N) 2 (i := t_at b N (t_at b N i' + 1)) (v := 0) hat2.2 (by omega)).1
    unfold l_num l_nm
    generalize t_nm b N 2 (t_at b N (t_at b N i' + 1)) 0 = M at *
    by_cases k1 : t_dg (t_ch b N M.1)
    · rw [if_pos k1] at g3 ⊢
      exact ⟨_, g3⟩
    rw [if_neg k1] at g3 ⊢
    by_cases k2 : M.1 = t_at b N (t_at b N i' + 1)
    · rw [if_pos k2] at g3 ⊢
      exact ⟨_, g3⟩
    rw [if_neg k2] at g3 ⊢
    by_cases k3 : l_lo u (n : Int) ≤ M.2 ∧ M.2 ≤ l_hi u (n : Int)
    · rw [if_pos k3] at g3 ⊢
      exact g3
    · rw [if_neg k3] at g3 ⊢
      refine ⟨M.1, ?_⟩
      show u_S 3 N b s3 M.1 ((M.1 - 1 : Nat) : Int)
      rw [show ((M.1 - 1 : Nat) : Int) = (M.1 : Int) - 1 by omega]
      exact g3
  have hwr : ∀ (j : Nat) (e : Int), u_S 3 N b s3 j e → u_S 3 N b (k_wr s3 a (o + n) r) j e := fun j e hj => hj.wr (by omega)
  cases hq : l_num b N (l_lo u (n : Int)) (l_hi u (n : Int)) (t_at b N i' + 1) with
  | inl e =>
    rw [hq] at g3' eX
    obtain ⟨j, g4⟩ := g3'
    have g5 := hwr j _ g4
    rw [u_failed g5, n_bd, n_ieq (by split <;> omega) (by omega), if_neg (by omega), ok_some, eX]
    exact ⟨hf3, j, g5⟩
  | inr y =>
    rw [hq] at g3' eX hnum
    obtain ⟨hr, g4⟩ := g3'
    obtain ⟨⟨n1, n2⟩, n3⟩ := hnum
    have g5 := hwr _ _ g4
    rw [u_failed g5, n_bd, if_pos rfl, n_ift rfl, iI_add, ok_nm]
    refine hgo _ (by omega) ⟨rfl, hf3, y.1, m + 2 ^ n, l_up q n y.2, ?_, rfl, b4, g5, fun k hk => ?_, by omega, n2⟩
    · rw [show 200 - (t + 1) = 199 - t by omega]
      exact eX
    · show (k_wr s3 a (o + n) r).1 a (o + k) = _
      unfold l_up
      by_cases e : k = n
      · subst e
        rw [if_pos rfl, ← hr]
        exact wr_s
      · rw [if_neg e, wr_k (by omega), f3.2 a (o + k) (by omega), f2.2 a (o + k) (by omega), f1.2 a (o + k) (by omega)]
        exact h4 k hk
