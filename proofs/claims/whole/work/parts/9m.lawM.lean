/-! the reference's reader of laws, sign by sign -/
def v_F (w : Nat) (s s' : k_St) : Prop := s'.2 = s.2 ∧ ∀ c k, ¬ (c = 0 ∧ (k = 3 ∨ k = 4 ∨ k = 5)) → ¬ ((c = 2 ∨ c = 3) ∧ 340 * w ≤ k) → ¬ (c = 4 ∧ k = w) → s'.1 c k = s.1 c k
theorem v_F.rf {w : Nat} {s : k_St} : v_F w s s := ⟨rfl, fun _ _ _ _ _ => rfl⟩
theorem v_F.tr {w : Nat} {s s1 s2 : k_St} (h : v_F w s s1) (h2 : v_F w s1 s2) : v_F w s s2 := ⟨h2.1.trans h.1, fun c k q1 q2 q3 => (h2.2 c k q1 q2 q3).trans (h.2 c k q1 q2 q3)⟩
theorem v_F.w0 {w : Nat} {s s1 : k_St} {k : Nat} {x : Int32} (h : v_F w s s1) (hk : k = 3 ∨ k = 4 ∨ k = 5) : v_F w s (k_wr s1 0 k x) := ⟨h.1, fun c j q1 q2 q3 => by
  rw [wr_if, if_neg (fun z => q1 ⟨z.1, by rw [z.2]; exact hk⟩)]
  exact h.2 c j q1 q2 q3⟩
def v_C (w : Nat) (s : k_St) (cs : List (Int × Int)) : Prop := s.1 4 w = iI (cs.length : Int) ∧ ∀ j c, cs[j]? = some c → s.1 2 (340 * w + j) = iI c.1 ∧ s.1 3 (340 * w + j) = iI c.2
/-- where the reference stands: slot, place, levels, codes still owed, codes -/
def v_S (w N : Nat) (b : Nat → Int) (s : k_St) (i d q : Nat) (cs : List (Int × Int)) : Prop := (s.1 0 2 = iI (N : Int) ∧ N ≤ 160 ∧ ∀ j, j < N → s.1 1 j = iI (b j)) ∧ (s.1 0 3 = iI (i : Int) ∧ s.1 0 4 = iI (-1) ∧ s.1 0 5 = iI (d : Int) ∧ s.1 0 14 = iI (w : Int)) ∧ (i ≤ N ∧ d ≤ 6 ∧ w ≤ 4 ∧ cs.length + q ≤ i) ∧ v_C w s cs
/-- the same after an error at e -/
def v_E (w N : Nat) (s : k_St) (e d q : Nat) : Prop := ∃ i d' n : Nat, (s.1 0 3 = iI (i : Int) ∧ s.1 0 4 = iI (e : Int) ∧ s.1 0 5 = iI (d' : Int) ∧ s.1 0 14 = iI (w : Int)) ∧ s.1 4 w = iI (n : Int) ∧ (n + q ≤ i ∧ i + d' ≤ N + 14 ∧ d ≤ d' ∧ w ≤ 4 ∧ e ≤ N ∧ N ≤ 160)
section V1
variable {w N : Nat} {b : Nat → Int} {s : k_St} {i d q : Nat} {cs : List (Int × Int)}
theorem v_S.mo (h : v_S w N b s i d q cs) {q' : Nat} (hq : q' ≤ q) : v_S w N b s i d q' cs := ⟨h.1, h.2.1, ⟨h.2.2.1.1, h.2.2.1.2.1, h.2.2.1.2.2.1, by have := h.2.2.1.2.2.2; omega⟩, h.2.2.2⟩
theorem v_E.mo {e : Nat} (h : v_E w N s e d q) {d' q' : Nat} (hd : d' ≤ d) (hq : q' ≤ q) : v_E w N s e d' q' := by
  obtain ⟨i, dd, n, h1, h2, h3⟩ := h
  exact ⟨i, dd, n, h1, h2, by omega⟩
theorem v_S.at' (h : v_S w N b s i d q cs) {i' q' : Nat} (hi : i' ≤ N) (hq : cs.length + q' ≤ i') : v_S w N b (k_wr s 0 3 (iI (i' : Int))) i' d q' cs := by
  obtain ⟨⟨h1, h2, h3⟩, ⟨h4, h5, h6, h7⟩, h8, h9, h10⟩ := h
  refine ⟨⟨(wr_k (by decide)).trans h1, h2, fun j hj => ?_⟩, ⟨wr_s, (wr_k (by decide)).trans h5, (wr_k (by decide)).trans h6, (wr_k (by decide)).trans h7⟩, by omega, ?_, fun j c hc => ?_⟩
  · rw [wr_c (by decide)]
    exact h3 j hj
  · rw [wr_c (by decide)]
    exact h9
  · rw [wr_c (by decide), wr_c (by decide)]
    exact h10 j c hc
theorem v_S.dp (h : v_S w N b s i d q cs) {d' : Nat} (hd : d' ≤ 6) : v_S w N b (k_wr s 0 5 (iI (d' : Int))) i d' q cs := by
  obtain ⟨⟨h1, h2, h3⟩, ⟨h4, h5, h6, h7⟩, h8, h9, h10⟩ := h
  refine ⟨⟨(wr_k (by decide)).trans h1, h2, fun j hj => ?_⟩, ⟨(wr_k (by decide)).trans h4, (wr_k (by decide)).trans h5, wr_s, (wr_k (by decide)).trans h7⟩, by omega, ?_, fun j c hc => ?_⟩
  · rw [wr_c (by decide)]
    exact h3 j hj
  · rw [wr_c (by decide)]
    exact h9
  · rw [wr_c (by decide), wr_c (by decide)]
    exact h10 j c hc
theorem v_here (hb : t_by b N) (h : v_S w N b s i d q cs) : f_X12_here s = some (iI (t_ch b N i)) := by
  obtain ⟨⟨h1, h2, h3⟩, ⟨h4, h5, h6, h7⟩, h8, h9, h10⟩ := h
  unfold f_X12_here
  simp only [iI_lit, iI_neg]
  rw [show k_rd s 0 2 = _ from h1, show k_rd s 0 3 = _ from h4, n_ile (by omega) (by omega)]
  by_cases c : (N : Int) ≤ i
  · rw [if_pos c, t_ch_N (by omega)]
  · rw [if_neg c, n_gix (by omega) (by omega), iI_cl (by omega), Int.toNat_natCast, t_ch_b (by omega)]
    exact congrArg some (h3 i (by omega))
theorem v_look (hb : t_by b N) (h : v_S w N b s i d q cs) : ∃ s', f_X12_look s = some (iI (t_ch b N (t_at b N i)), s') ∧ v_S w N b s' (t_at b N i) d q cs ∧ v_F w s s' := by
  have hi := h.2.2.1
  have hN := h.1.2.1
  have hql := hi.2.2.2
  suffices hh : k_OK (f_X12_look s) (fun r => r.1 = iI (t_ch b N (t_at b N i)) ∧ v_S w N b r.2 (t_at b N i) d q cs ∧ v_F w s r.2) by
    obtain ⟨⟨r, s'⟩, e1, hr, h2, h3⟩ := hh
    have hr : r = _ := hr
    rw [hr] at e1
    exact ⟨s', e1, h2, h3⟩
  unfold f_X12_look
  refine ok_for N (fun t (z : k_St) => i ≤ t ∧ t_at b N t = t_at b N i ∧ v_S w N b z t d q cs ∧ v_F w s z) ?_ (by omega) (j := i) ⟨Nat.le_refl _, rfl, h, v_F.rf⟩ hi.1
  rintro g t z ⟨h0, h1, h2, h3⟩ ht hg
  have hr := t_ch_r hb t
  have h23 : k_rd z 0 3 = iI (t : Int) := h2.2.1.1
  dsimp only
  simp only [iI_lit]
  rw [v_here hb h2, n_bd, n_ieq (by omega) (by omega)]
  by_cases c : t_ch b N t = 32
  · have hlt := t_ch_lt (b := b) (N := N) (i := t) (by omega)
    have es := t_at_s (b := b) hlt
    rw [← t_ch_b (b := b) hlt, if_pos c] at es
    rw [if_pos c, h23, iI_add, ok_nm]
    exact hg _ hlt ⟨by omega, by rw [← es]; exact h1, h2.at' (i' := t + 1) (by omega) (by omega), h3.w0 (Or.inl rfl)⟩
  · have es : t_at b N t = t := by
      by_cases q : t < N
      · rw [t_at_s q, ← t_ch_b (b := b) q, if_neg c]
      · rw [show t = N by omega, t_at_N]
    rw [if_neg c, n_bd, ok_some, ← h1, es]
    exact ⟨rfl, h2, h3⟩
theorem v_bad (h : v_S w N b s i d q cs) : ∃ s', f_X12_bad s = some s' ∧ v_E w N s' i d q ∧ v_F w s s' := by
  obtain ⟨⟨h1, h2, h3⟩, ⟨h4, h5, h6, h7⟩, h8, h9, h10⟩ := h
  refine ⟨k_wr s 0 4 (iI (i : Int)), ?_, ⟨i, d, cs.length, ⟨(wr_k (by decide)).trans h4, wr_s, (wr_k (by decide)).trans h6, (wr_k (by decide)).trans h7⟩, by rw [wr_c (by decide)]; exact h9, by omega⟩, v_F.rf.w0 (Or.inr (Or.inl rfl))⟩
  unfold f_X12_bad
  simp only [iI_lit, iI_neg]
  rw [show k_rd s 0 4 = _ from h5, n_ift rfl, show k_rd s 0 3 = _ from h4]
  rfl
theorem v_E.at1 {e : Nat} (h : v_E w N s e d (q + 1)) : v_E w N s e d q := h.mo (Nat.le_refl _) (by omega)
theorem v_put (h : v_S w N b s i d (q + 1) cs) {c v : Int} : ∃ s', f_X12_put (iI c) (iI v) s = some s' ∧ v_S w N b s' i d q (cs ++ [(c, v)]) ∧ v_F w s s' := by
  obtain ⟨⟨h1, h2, h3⟩, ⟨h4, h5, h6, h7⟩, h8, h9, h10⟩ := h
  have hl : (340 : Int) * (w : Int) + (cs.length : Int) = ((340 * w + cs.length : Nat) : Int) := by omega
  have e14 : k_rd s 0 14 = iI (w : Int) := h7
  have e4 : k_rd s 4 w = iI (cs.length : Int) := h9
  refine ⟨k_wr (k_wr (k_wr s 2 (340 * w + cs.length) (iI c)) 3 (340 * w + cs.length) (iI v)) 4 w (iI ((cs.length : Int) + 1)), ?_, ⟨⟨h1, h2, h3⟩, ⟨h4, h5, h6, h7⟩, ?_, ?_, fun j y hy => ?_⟩, rfl, fun k j q1 q2 q3 => ?_⟩
  · have e14a : ∀ x : Int32, k_rd (k_wr s 2 (340 * w + cs.length) x) 0 14 = iI (w : Int) := fun x => h7
    have e4a : ∀ x : Int32, k_rd (k_wr s 2 (340 * w + cs.length) x) 4 w = iI (cs.length : Int) := fun x => h9
    have e14b : ∀ x y : Int32, k_rd (k_wr (k_wr s 2 (340 * w + cs.length) x) 3 (340 * w + cs.length) y) 0 14 = iI (w : Int) := fun x y => h7
    have e4b : ∀ x y : Int32, k_rd (k_wr (k_wr s 2 (340 * w + cs.length) x) 3 (340 * w + cs.length) y) 4 w = iI (cs.length : Int) := fun x y => h9
    unfold f_X12_put
    simp only [iI_lit]
    rw [e14, iI_cl (by omega), Int.toNat_natCast, e4, iI_mul, iI_add, hl, n_gix (by omega) (by omega), n_gix (by omega) (by omega), iI_cl (by omega), Int.toNat_natCast, n_nm, e14a, iI_cl (by omega), Int.toNat_natCast, e4a, iI_mul, iI_add, hl, n_gix (by omega) (by omega), n_gix (by omega) (by omega), iI_cl (by omega), Int.toNat_natCast, n_nm, e14b, n_nm, n_gix (by omega) (by omega), n_gix (by omega) (by omega), iI_cl (by omega), Int.toNat_natCast, e4b, iI_add, n_nm]
  · rw [List.length_append]
    show i ≤ N ∧ d ≤ 6 ∧ w ≤ 4 ∧ cs.length + 1 + q ≤ i
    omega
  · rw [List.length_append]
    exact wr_s
  · show (k_wr s 2 (340 * w + cs.length) (iI c)).1 2 (340 * w + j) = iI y.1 ∧ (k_wr s 3 (340 * w + cs.length) (iI v)).1 3 (340 * w + j) = iI y.2
    by_cases hj : j < cs.length
    · rw [List.getElem?_append_left hj] at hy
      rw [wr_k (by omega), wr_k (by omega)]
      exact h10 j y hy
    · rw [List.getElem?_append_right (by omega)] at hy
      by_cases hj2 : j = cs.length
      · subst hj2
        rw [Nat.sub_self] at hy
        have hy : some (c, v) = some y := hy
        cases hy
        exact ⟨wr_s, wr_s⟩
      · rw [List.getElem?_eq_none (by show 1 ≤ j - cs.length; omega)] at hy
        cases hy
  · rw [wr_if, if_neg (by omega), wr_if, if_neg (by omega), wr_if, if_neg (by omega)]
theorem v_putE {e : Nat} {x y : Int32} (h : v_E w N s e d (q + 1)) : ∃ s', f_X12_put x y s = some s' ∧ v_E w N s' e d q ∧ v_F w s s' := by
  obtain ⟨i, dd, n, ⟨h4, h5, h6, h7⟩, h9, h8⟩ := h
  have hl : (340 : Int) * (w : Int) + (n : Int) = ((340 * w + n : Nat) : Int) := by omega
  have e14 : k_rd s 0 14 = iI (w : Int) := h7
  have e4 : k_rd s 4 w = iI (n : Int) := h9
  refine ⟨k_wr (k_wr (k_wr s 2 (340 * w + n) x) 3 (340 * w + n) y) 4 w (iI ((n : Int) + 1)), ?_, ⟨i, dd, n + 1, ⟨h4, h5, h6, h7⟩, wr_s, by omega⟩, rfl, fun k j q1 q2 q3 => ?_⟩
  · have e14a : k_rd (k_wr s 2 (340 * w + n) x) 0 14 = iI (w : Int) := h7
    have e4a : k_rd (k_wr s 2 (340 * w + n) x) 4 w = iI (n : Int) := h9
    have e14b : k_rd (k_wr (k_wr s 2 (340 * w + n) x) 3 (340 * w + n) y) 0 14 = iI (w : Int) := h7
    have e4b : k_rd (k_wr (k_wr s 2 (340 * w + n) x) 3 (340 * w + n) y) 4 w = iI (n : Int) := h9
    unfold f_X12_put
    simp only [iI_lit]
    rw [e14, iI_cl (by omega), Int.toNat_natCast, e4, iI_mul, iI_add, hl, n_gix (by omega) (by omega), n_gix (by omega) (by omega), iI_cl (by omega), Int.toNat_natCast, n_nm, e14a, iI_cl (by omega), Int.toNat_natCast, e4a, iI_mul, iI_add, hl, n_gix (by omega) (by omega), n_gix (by omega) (by omega), iI_cl (by omega), Int.toNat_natCast, n_nm, e14b, n_nm, n_gix (by omega) (by omega), n_gix (by omega) (by omega), iI_cl (by omega), Int.toNat_natCast, e4b, iI_add, n_nm]
  · rw [wr_if, if_neg (by omega), wr_if, if_neg (by omega), wr_if, if_neg (by omega)]
end V1
