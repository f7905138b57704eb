/-! the class's clauses of a lake -/
def w_Q (s : k_St) (K : l_K) : Prop := s.1 3 6 = iI (K.1 : Int) ∧ s.1 3 7 = iB (K.2.1 = true) ∧ (∀ k, k < 4 * K.1 → s.1 5 k = iI (K.2.2.1 k)) ∧ ∀ k, k < 2 → s.1 6 k = iI (K.2.2.2 k)
theorem w_Q.u {s s' : k_St} {K : l_K} (h : w_Q s K) (hF : u_F 3 s s') : w_Q s' K := ⟨(hF.2 3 6 (by omega)).trans h.1, (hF.2 3 7 (by omega)).trans h.2.1, fun k hk => (hF.2 5 k (by omega)).trans (h.2.2.1 k hk), fun k hk => (hF.2 6 k (by omega)).trans (h.2.2.2 k hk)⟩
theorem w_F.G {C a o : Nat} {s s1 s2 : k_St} (h : w_F s s1) (ha : a = 5 ∨ a = 6) (h2 : w_G C a o s1 s2) : w_F s s2 := ⟨h2.1.trans h.1, fun c k q => (h2.2 c k (by omega) (by omega)).trans (h.2 c k q)⟩
/-- how a piece left the class -/
def w_R (N : Nat) (b : Nat → Int) (s : k_St) (x : Sum Nat (Nat × l_K)) : Prop := match x with
  | .inl e => ∃ i', u_S 3 N b s i' (e : Int)
  | .inr y => if t_ch b N y.1 = 59 ∨ t_ch b N y.1 = -1 then u_S 3 N b s y.1 (-1) ∧ w_Q s y.2 else u_S 3 N b s y.1 (y.1 : Int)
def w_6 (s : k_St) : Prop := ∃ n : Nat, s.1 3 6 = iI (n : Int) ∧ n ≤ 6
theorem u_readPlace {N i : Nat} {b : Nat → Int} {s : k_St} {K : l_K} (hb : t_by b N) (h : u_S 3 N b s i (-1)) (hQ : w_Q s K) (h6 : K.1 < 6) : k_OK (f_X2_readPlace s) (fun s' => w_F s s' ∧ w_6 s' ∧ w_R N b s' (l_go (l_pl K) (l_its 0 b N 200 i 0 (l_us 0)))) := by
  have e6 : k_rd s 3 6 = iI (K.1 : Int) := hQ.1
  unfold f_X2_readPlace
  simp only [iI_lit]
  rw [e6, iI_mul, ok_nm, iI_sub, n_ile (by omega) (by omega), if_pos (by omega), iI_add, iI_add, iI_add, iI_add, show (K.1 : Int) * 4 + 0 = ((4 * K.1 + 0 : Nat) : Int) by omega, show (K.1 : Int) * 4 + 1 = ((4 * K.1 + 1 : Nat) : Int) by omega, show (K.1 : Int) * 4 + 2 = ((4 * K.1 + 2 : Nat) : Int) by omega, show (K.1 : Int) * 4 + 3 = ((4 * K.1 + 3 : Nat) : Int) by omega, iI_cl (by omega), iI_cl (by omega), iI_cl (by omega), iI_cl (by omega), Int.toNat_natCast, Int.toNat_natCast, Int.toNat_natCast, Int.toNat_natCast, n_gix (by omega) (by omega), ok_nm, n_gix (by omega) (by omega), ok_nm, n_gix (by omega) (by omega), ok_nm, n_gix (by omega) (by omega), ok_nm, show k_rd (k_wr (k_wr (k_wr (k_wr s 5 (4 * K.1 + 0) (iI 1)) 5 (4 * K.1 + 1) (iI 0)) 5 (4 * K.1 + 2) (iI 0)) 5 (4 * K.1 + 3) (iI 10)) 3 6 = iI (K.1 : Int) from e6, iI_add, ok_nm, show (K.1 : Int) * 4 = ((4 * K.1 : Nat) : Int) by omega, ok_bd]
  have hS := ((((h.wr (c := 5) (k := 4 * K.1 + 0) (x := iI 1) (by omega)).wr (c := 5) (k := 4 * K.1 + 1) (x := iI 0) (by omega)).wr (c := 5) (k := 4 * K.1 + 2) (x := iI 0) (by omega)).wr (c := 5) (k := 4 * K.1 + 3) (x := iI 10) (by omega)).wr (c := 3) (k := 6) (x := iI ((K.1 : Int) + 1)) (by omega)
  have hF := ((((w_F.rf (s := s)).wr (c := 5) (k := 4 * K.1 + 0) (x := iI 1) (by omega)).wr (c := 5) (k := 4 * K.1 + 1) (x := iI 0) (by omega)).wr (c := 5) (k := 4 * K.1 + 2) (x := iI 0) (by omega)).wr (c := 5) (k := 4 * K.1 + 3) (x := iI 10) (by omega) |>.wr (c := 3) (k := 6) (x := iI ((K.1 : Int) + 1)) (by omega)
  have hlow : ∀ k, k < 4 * K.1 → (k_wr (k_wr (k_wr (k_wr (k_wr s 5 (4 * K.1 + 0) (iI 1)) 5 (4 * K.1 + 1) (iI 0)) 5 (4 * K.1 + 2) (iI 0)) 5 (4 * K.1 + 3) (iI 10)) 3 6 (iI ((K.1 : Int) + 1))).1 5 k = iI (K.2.2.1 k) := fun k hk => by
    rw [wr_c (by decide), wr_k (by omega), wr_k (by omega), wr_k (by omega), wr_k (by omega)]
    exact hQ.2.2.1 k hk
  refine ok_mono (u_items (u := 0) (u2 := 0) (u3 := 1) (a := 5) (o := 4 * K.1) (g := l_us 0) (by decide) hb (Or.inl rfl) (by show 4 * K.1 + 4 ≤ 24; omega) (by decide) rfl rfl (fun k hk => ?_) hS (fun k hk => ?_)) ?_
  · have hk : k < 4 := hk
    rcases (show k = 0 ∨ k = 1 ∨ k = 2 ∨ k = 3 by omega) with rfl | rfl | rfl | rfl <;> decide
  · have hk : k < 4 := hk
    rw [wr_c (by decide)]
    rcases (show k = 0 ∨ k = 1 ∨ k = 2 ∨ k = 3 by omega) with rfl | rfl | rfl | rfl
    · rw [wr_k (by omega), wr_k (by omega), wr_k (by omega)]
      exact wr_s
    · rw [wr_k (by omega), wr_k (by omega)]
      exact wr_s
    · rw [wr_k (by omega)]
      exact wr_s
    · exact wr_s
  rintro s4 ⟨f4, g4⟩
  have e36 : s4.1 3 6 = iI (((K.1 + 1 : Nat)) : Int) := by
    rw [f4.2 3 6 (by omega) (by omega), show ((K.1 + 1 : Nat) : Int) = (K.1 : Int) + 1 by omega]
    exact wr_s
  rw [ok_some]
  refine ⟨hF.G (Or.inl rfl) f4, ⟨K.1 + 1, e36, by omega⟩, ?_⟩
  cases hq : l_its 0 b N 200 i 0 (l_us 0) with
  | inl e =>
    rw [hq] at g4
    exact g4
  | inr y =>
    rw [hq] at g4
    show if t_ch b N y.1 = 59 ∨ t_ch b N y.1 = -1 then u_S 3 N b s4 y.1 (-1) ∧ w_Q s4 (l_pl K y).2 else u_S 3 N b s4 y.1 (y.1 : Int)
    have g4 : if t_ch b N y.1 = 59 ∨ t_ch b N y.1 = -1 then u_S 3 N b s4 y.1 (-1) ∧ ∀ k, k < l_n 0 → s4.1 5 (4 * K.1 + k) = iI (y.2 k) else u_S 3 N b s4 y.1 (y.1 : Int) := g4
    by_cases c : t_ch b N y.1 = 59 ∨ t_ch b N y.1 = -1
    rotate_left
    · rw [if_neg c] at g4 ⊢
      exact g4
    rw [if_pos c] at g4 ⊢
    refine ⟨g4.1, e36, (f4.2 3 7 (by omega) (by omega)).trans hQ.2.1, fun k hk => ?_, fun k hk => (f4.2 6 k (by omega) (by omega)).trans (hQ.2.2.2 k hk)⟩
    have hk : k < 4 * (K.1 + 1) := hk
    show s4.1 5 k = iI (if k / 4 = K.1 then y.2 (k % 4) else K.2.2.1 k)
    by_cases e : k / 4 = K.1
    · have g6 := g4.2 (k % 4) (by show k % 4 < 4; omega)
      rw [show 4 * K.1 + k % 4 = k by omega] at g6
      rw [if_pos e]
      exact g6
    · rw [if_neg e, f4.2 5 k (by omega) (by show ¬ (5 = 5 ∧ 4 * K.1 ≤ k ∧ k < 4 * K.1 + 4); omega)]
      exact hlow k (by omega)
/-- the line's -/
theorem u_readLine {N i : Nat} {b : Nat → Int} {s : k_St} {K : l_K} (hb : t_by b N) (h : u_S 3 N b s i (-1)) (hK6 : K.1 ≤ 6) (hQ : w_Q s K) (hLN : ∀ k, k < 2 → K.2.2.2 k = l_us 1 k) : k_OK (f_X2_readItems 1 2 3 6 (iI 0) (k_wr s 3 7 (iI 1))) (fun s' => w_F s s' ∧ w_6 s' ∧ w_R N b s' (l_go (l_ln K) (l_its 1 b N 200 i 0 (l_us 1)))) := by
  have hS := h.wr (c := 3) (k := 7) (x := iI 1) (by omega)
  have hF := (w_F.rf (s := s)).wr (c := 3) (k := 7) (x := iI 1) (by omega)
  refine ok_mono (u_items (u := 1) (u2 := 2) (u3 := 3) (a := 6) (o := 0) (g := l_us 1) (by decide) hb (Or.inr rfl) (by decide) (by decide) rfl rfl (fun k hk => ?_) hS (fun k hk => ?_)) ?_
  · have hk : k < 2 := hk
    rcases (show k = 0 ∨ k = 1 by omega) with rfl | rfl <;> decide
  · have hk : k < 2 := hk
    rw [Nat.zero_add, ← hLN k hk, wr_c (by decide)]
    exact hQ.2.2.2 k hk
  rintro s4 ⟨f4, g4⟩
  have e36 : s4.1 3 6 = iI (K.1 : Int) := (f4.2 3 6 (by omega) (by omega)).trans hQ.1
  refine ⟨hF.G (Or.inr rfl) f4, ⟨K.1, e36, hK6⟩, ?_⟩
  cases hq : l_its 1 b N 200 i 0 (l_us 1) with
  | inl e =>
    rw [hq] at g4
    exact g4
  | inr y =>
    rw [hq] at g4
    show if t_ch b N y.1 = 59 ∨ t_ch b N y.1 = -1 then u_S 3 N b s4 y.1 (-1) ∧ w_Q s4 (l_ln K y).2 else u_S 3 N b s4 y.1 (y.1 : Int)
    have g4 : if t_ch b N y.1 = 59 ∨ t_ch b N y.1 = -1 then u_S 3 N b s4 y.1 (-1) ∧ ∀ k, k < l_n 1 → s4.1 6 (0 + k) = iI (y.2 k) else u_S 3 N b s4 y.1 (y.1 : Int) := g4
    by_cases c : t_ch b N y.1 = 59 ∨ t_ch b N y.1 = -1
    rotate_left
    · rw [if_neg c] at g4 ⊢
      exact g4
    rw [if_pos c] at g4 ⊢
    refine ⟨g4.1, e36, (f4.2 3 7 (by omega) (by omega)).trans wr_s, fun k hk => (f4.2 5 k (by omega) (by omega)).trans (hQ.2.2.1 k hk), fun k hk => ?_⟩
    have g6 := g4.2 k hk
    rw [Nat.zero_add] at g6
    exact g6
