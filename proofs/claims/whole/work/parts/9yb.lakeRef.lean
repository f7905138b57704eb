/-! the reference's reader of lakes -/
def y_S (N : Nat) (b : Nat → Int) (s : k_St) (i : Nat) : Prop := (s.1 0 2 = iI (N : Int) ∧ N ≤ 160 ∧ ∀ j, j < N → s.1 1 j = iI (b j)) ∧ (s.1 0 3 = iI (i : Int) ∧ s.1 0 4 = iI (-1)) ∧ i ≤ N
def y_E (N : Nat) (s : k_St) (e : Nat) : Prop := (∃ i : Nat, s.1 0 3 = iI (i : Int) ∧ i ≤ N) ∧ s.1 0 4 = iI (e : Int) ∧ e ≤ N ∧ N ≤ 160
def y_F (s s' : k_St) : Prop := s'.2 = s.2 ∧ ∀ c k, ¬ (c = 0 ∧ (k = 3 ∨ k = 4)) → s'.1 c k = s.1 c k
theorem y_F.rf {s : k_St} : y_F s s := ⟨rfl, fun _ _ _ => rfl⟩
theorem y_F.tr {s s1 s2 : k_St} (h : y_F s s1) (h2 : y_F s1 s2) : y_F s s2 := ⟨h2.1.trans h.1, fun c k q => (h2.2 c k q).trans (h.2 c k q)⟩
theorem y_F.w0 {s s1 : k_St} {k : Nat} {x : Int32} (h : y_F s s1) (hk : k = 3 ∨ k = 4) : y_F s (k_wr s1 0 k x) := ⟨h.1, fun c j q => by
  rw [wr_if, if_neg (fun z => q ⟨z.1, by rw [z.2]; exact hk⟩)]
  exact h.2 c j q⟩
section Y1
variable {N : Nat} {b : Nat → Int} {s : k_St} {i : Nat}
theorem y_S.at' (h : y_S N b s i) {i' : Nat} (hi : i' ≤ N) : y_S N b (k_wr s 0 3 (iI (i' : Int))) i' := by
  obtain ⟨⟨h1, h2, h3⟩, ⟨h4, h5⟩, h6⟩ := h
  refine ⟨⟨(wr_k (by decide)).trans h1, h2, fun j hj => ?_⟩, ⟨wr_s, (wr_k (by decide)).trans h5⟩, hi⟩
  rw [wr_c (by decide)]
  exact h3 j hj
theorem y_S.wr (h : y_S N b s i) {c k : Nat} {x : Int32} (hc : 2 ≤ c ∨ c = 0 ∧ 5 ≤ k) : y_S N b (k_wr s c k x) i := by
  obtain ⟨⟨h1, h2, h3⟩, ⟨h4, h5⟩, h6⟩ := h
  refine ⟨⟨?_, h2, fun j hj => ?_⟩, ⟨?_, ?_⟩, h6⟩
  · rw [wr_if, if_neg (by omega)]
    exact h1
  · rw [wr_if, if_neg (by omega)]
    exact h3 j hj
  · rw [wr_if, if_neg (by omega)]
    exact h4
  · rw [wr_if, if_neg (by omega)]
    exact h5
theorem y_E.wr {e : Nat} (h : y_E N s e) {c k : Nat} {x : Int32} (hc : 2 ≤ c ∨ c = 0 ∧ 5 ≤ k) : y_E N (k_wr s c k x) e := by
  obtain ⟨⟨i, h1, h2⟩, h3, h4⟩ := h
  refine ⟨⟨i, ?_, h2⟩, ?_, h4⟩
  · rw [wr_if, if_neg (by omega)]
    exact h1
  · rw [wr_if, if_neg (by omega)]
    exact h3
theorem y_here (hb : t_by b N) (h : y_S N b s i) : f_X12_here s = some (iI (t_ch b N i)) := by
  obtain ⟨⟨h1, h2, h3⟩, ⟨h4, h5⟩, h6⟩ := h
  unfold f_X12_here
  simp only [iI_lit, iI_neg]
  rw [show k_rd s 0 2 = _ from h1, show k_rd s 0 3 = _ from h4, n_ile (by omega) (by omega)]
  by_cases c : (N : Int) ≤ i
  · rw [if_pos c, t_ch_N (by omega)]
  · rw [if_neg c, n_gix (by omega) (by omega), iI_cl (by omega), Int.toNat_natCast, t_ch_b (by omega)]
    exact congrArg some (h3 i (by omega))
theorem y_look (hb : t_by b N) (h : y_S N b s i) : ∃ s', f_X12_look s = some (iI (t_ch b N (t_at b N i)), s') ∧ y_S N b s' (t_at b N i) ∧ y_F s s' := by
  have hi := h.2.2
  have hN := h.1.2.1
  suffices hh : k_OK (f_X12_look s) (fun r => r.1 = iI (t_ch b N (t_at b N i)) ∧ y_S N b r.2 (t_at b N i) ∧ y_F s r.2) by
    obtain ⟨⟨r, s'⟩, e1, hr, h2, h3⟩ := hh
    have hr : r = _ := hr
    rw [hr] at e1
    exact ⟨s', e1, h2, h3⟩
  unfold f_X12_look
  refine ok_for N (fun t (z : k_St) => i ≤ t ∧ t_at b N t = t_at b N i ∧ y_S N b z t ∧ y_F s z) ?_ (by omega) (j := i) ⟨Nat.le_refl _, rfl, h, y_F.rf⟩ hi
  rintro g t z ⟨h0, h1, h2, h3⟩ ht hg
  have hr := t_ch_r hb t
  have h23 : k_rd z 0 3 = iI (t : Int) := h2.2.1.1
  dsimp only
  simp only [iI_lit]
  rw [y_here hb h2, n_bd, n_ieq (by omega) (by omega)]
  by_cases c : t_ch b N t = 32
  · have hlt := t_ch_lt (b := b) (N := N) (i := t) (by omega)
    have es := t_at_s (b := b) hlt
    rw [← t_ch_b (b := b) hlt, if_pos c] at es
    rw [if_pos c, h23, iI_add, ok_nm]
    exact hg _ hlt ⟨by omega, by rw [← es]; exact h1, h2.at' (i' := t + 1) (by omega), h3.w0 (Or.inl rfl)⟩
  · have es : t_at b N t = t := by
      by_cases q : t < N
      · rw [t_at_s q, ← t_ch_b (b := b) q, if_neg c]
      · rw [show t = N by omega, t_at_N]
    rw [if_neg c, n_bd, ok_some, ← h1, es]
    exact ⟨rfl, h2, h3⟩
theorem y_bad (h : y_S N b s i) : ∃ s', f_X12_bad s = some s' ∧ y_E N s' i ∧ y_F s s' := by
  obtain ⟨⟨h1, h2, h3⟩, ⟨h4, h5⟩, h6⟩ := h
  refine ⟨k_wr s 0 4 (iI (i : Int)), ?_, ⟨⟨i, (wr_k (by decide)).trans h4, h6⟩, wr_s, h6, h2⟩, y_F.rf.w0 (Or.inr rfl)⟩
  unfold f_X12_bad
  simp only [iI_lit, iI_neg]
  rw [show k_rd s 0 4 = _ from h5, n_ift rfl, show k_rd s 0 3 = _ from h4]
  rfl
theorem y_dig {c : Int} (hc : -1 ≤ c ∧ c ≤ 255) : f_X12_isDigit (iI c) = some (iB (t_dg c)) := by
  unfold f_X12_isDigit iB
  simp only [iI_lit]
  rw [n_ilt (by omega) (by omega), n_ilt (by omega) (by omega)]
  by_cases c1 : c < 48
  · rw [if_pos c1, if_neg (fun z : t_dg c => by have := z.1; omega)]
  rw [if_neg c1]
  by_cases c2 : 57 < c
  · rw [if_pos c2, if_neg (fun z : t_dg c => by have := z.2; omega)]
  · rw [if_neg c2, if_pos (show t_dg c from ⟨by omega, by omega⟩)]
theorem y_in {a lo hi : Int} (h1 : 0 ≤ a ∧ a ≤ 1000) (h2 : 0 ≤ lo ∧ lo ≤ 1000) (h3 : 0 ≤ hi ∧ hi ≤ 1000) : f_X12_in (iI a) (iI lo) (iI hi) = some (iB (lo ≤ a ∧ a ≤ hi)) := by
  unfold f_X12_in iB
  simp only [iI_lit]
  rw [n_ilt (by omega) (by omega), n_ilt (by omega) (by omega)]
  by_cases c1 : a < lo
  · rw [if_pos c1, if_neg (by omega)]
  rw [if_neg c1]
  by_cases c2 : hi < a
  · rw [if_pos c2, if_neg (by omega)]
  · rw [if_neg c2, if_pos (by omega)]
theorem y_number {lo hi : Int} (hb : t_by b N) (h : y_S N b s i) (hlo : 0 ≤ lo ∧ lo ≤ 99) (hhi : 0 ≤ hi ∧ hi ≤ 99) : ∃ r s', f_X12_number (iI lo) (iI hi) s = some (r, s') ∧ y_F s s' ∧ match l_num b N lo hi i with
    | .inl e => y_E N s' e
    | .inr y => r = iI y.2 ∧ y_S N b s' y.1 := by
  obtain ⟨s1, e1, h1, f1⟩ := y_look hb h
  have hj := h1.2.2
  have hN := h.1.2.1
  unfold l_num
  generalize t_at b N i = j at *
  have hr := t_ch_r hb j
  have hr1 := t_ch_r hb (j + 1)
  have hr2 := t_ch_r hb (j + 2)
  have eM : t_nm b N 2 j 0 = if t_dg (t_ch b N j) then (if t_dg (t_ch b N (j + 1)) then (j + 2, 10 * (10 * 0 + t_ch b N j - 48) + t_ch b N (j + 1) - 48) else (j + 1, 10 * 0 + t_ch b N j - 48)) else (j, 0) := rfl
  rw [eM]
  unfold f_X12_number l_nm
  simp only [iI_lit]
  rw [e1, n_b2, y_dig (by omega), n_bd, n_ib]
  by_cases c1 : t_dg (t_ch b N j)
  rotate_left
  · obtain ⟨s2, e2, h2, f2⟩ := y_bad h1
    rw [if_neg c1, if_neg c1, e2, n_bd, if_neg (show ¬ t_dg (t_ch b N (j, (0 : Int)).1) from c1), if_pos rfl]
    exact ⟨_, _, rfl, f1.tr f2, h2⟩
  have hlt := t_ch_lt (b := b) (N := N) (i := j) (by have := c1.1; omega)
  have c11 := c1.1
  have c12 := c1.2
  have e3 : k_rd s1 0 3 = iI (j : Int) := h1.2.1.1
  have h2 := h1.at' (i' := j + 1) (by omega)
  have f2 := f1.w0 (k := 3) (x := iI ((j + 1 : Nat) : Int)) (Or.inl rfl)
  rw [if_pos c1, if_pos c1, y_here hb h1, n_bd, iI_sub, n_nm, e3, iI_add, show (j : Int) + 1 = ((j + 1 : Nat) : Int) by omega, n_nm, y_here hb h2, n_bd, y_dig (by omega), n_bd]
  simp only [n_jn]
  rw [n_ib]
  -- the end of the number
  have fin : ∀ (v : Int) (t : Nat) (z : k_St), 0 ≤ v ∧ v ≤ 99 → j < t ∧ t ≤ N → y_S N b z t → y_F s z → ∃ r s', (k_bd (f_X12_here z) fun v68 =>
      k_bd (f_X12_isDigit v68) fun v71 =>
      k_if (v71 = iI 0)
        (k_bd (f_X12_in (iI v) (iI lo) (iI hi)) fun v87 =>
        k_if (v87 = iI 0)
          (k_nm (k_wr z 0 3 ((k_rd z 0 3) - iI 1)) fun s100 =>
          k_bd (f_X12_bad s100) fun s104 =>
          some (iI v, s104))
          (some (iI v, z)))
        (k_bd (f_X12_bad z) fun s78 =>
        some (iI v, s78))) = some (r, s') ∧ y_F s s' ∧ match (if t_dg (t_ch b N t) then .inl t else if t = j then .inl t else if lo ≤ v ∧ v ≤ hi then .inr (t, v) else .inl (t - 1) : Sum Nat (Nat × Int)) with
    | .inl e => y_E N s' e
    | .inr y => r = iI y.2 ∧ y_S N b s' y.1 := fun v t z hv ht hz hf => by
    have hrt := t_ch_r hb t
    rw [y_here hb hz, n_bd, y_dig (by omega), n_bd, n_ib]
    by_cases d1 : t_dg (t_ch b N t)
    · obtain ⟨s2, e2, h2, f2⟩ := y_bad hz
      rw [if_pos d1, e2, n_bd, if_pos d1]
      exact ⟨_, _, rfl, hf.tr f2, h2⟩
    rw [if_neg d1, if_neg d1, if_neg (by omega), y_in (by omega) (by omega) (by omega), n_bd, n_ib]
    by_cases d2 : lo ≤ v ∧ v ≤ hi
    · rw [if_pos d2, if_pos d2]
      exact ⟨_, _, rfl, hf, rfl, hz⟩
    · have e4 : k_rd z 0 3 = iI (t : Int) := hz.2.1.1
      obtain ⟨s2, e2, h2, f2⟩ := y_bad (hz.at' (i' := t - 1) (by omega))
      rw [if_neg d2, if_neg d2, e4, iI_sub, show (t : Int) - 1 = ((t - 1 : Nat) : Int) by omega, n_nm, e2, n_bd]
      exact ⟨_, _, rfl, (hf.w0 (Or.inl rfl)).tr f2, h2⟩
  by_cases c2 : t_dg (t_ch b N (j + 1))
  · have hlt2 := t_ch_lt (b := b) (N := N) (i := j + 1) (by have := c2.1; omega)
    have c21 := c2.1
    have c22 := c2.2
    have h3 := h2.at' (i' := j + 2) (by omega)
    have e4 : k_rd (k_wr s1 0 3 (iI ((j + 1 : Nat) : Int))) 0 3 = iI ((j + 1 : Nat) : Int) := wr_s
    rw [if_pos c2, if_pos c2, n_bd, iI_mul, iI_add, iI_sub, n_nm, e4, iI_add, show ((j + 1 : Nat) : Int) + 1 = ((j + 2 : Nat) : Int) by omega, n_nm, show 10 * (t_ch b N j - 48) + t_ch b N (j + 1) - 48 = 10 * (10 * 0 + t_ch b N j - 48) + t_ch b N (j + 1) - 48 by omega]
    exact fin _ (j + 2) _ (by omega) (by omega) h3 (f2.w0 (Or.inl rfl))
  · rw [if_neg c2, if_neg c2, show t_ch b N j - 48 = 10 * 0 + t_ch b N j - 48 by omega]
    exact fin _ (j + 1) _ (by omega) (by omega) h2 f2
end Y1
