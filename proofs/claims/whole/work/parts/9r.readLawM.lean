/-! the reference's texts of a law -/
def t_fl (P : List t_C) : List (Int × Int) := P.flatMap t_cc
theorem t_fl_s {P : List t_C} {c : t_C} : t_fl (P ++ [c]) = t_fl P ++ t_cc c := by
  unfold t_fl
  rw [List.flatMap_append]
  show _ ++ (t_cc c ++ []) = _
  rw [List.append_nil]
def v_Q (w : Nat) (s : k_St) (P : List t_C) : Prop := s.1 5 w = iI (P.length : Int) ∧ v_C w s (t_fl P) ∧ ∀ j cl, P[j]? = some cl → s.1 6 (90 * w + j) = iI ((t_fl (P.take j)).length : Int) ∧ s.1 7 (90 * w + j) = iI (((t_fl (P.take j)).length : Int) + ((t_c1 cl.1).length : Int)) ∧ s.1 8 (90 * w + j) = iI ((t_fl (P.take j) ++ t_cc cl).length : Int)
def v_FL (w : Nat) (s s' : k_St) : Prop := s'.2 = s.2 ∧ ∀ c k, ¬ (c = 0 ∧ (k = 3 ∨ k = 4 ∨ k = 5 ∨ k = 14)) → ¬ ((c = 2 ∨ c = 3) ∧ 340 * w ≤ k) → ¬ ((c = 4 ∨ c = 5) ∧ k = w) → ¬ ((c = 6 ∨ c = 7 ∨ c = 8) ∧ 90 * w ≤ k) → s'.1 c k = s.1 c k
theorem v_FL.tr {w : Nat} {s s1 s2 : k_St} (h : v_FL w s s1) (h2 : v_FL w s1 s2) : v_FL w s s2 := ⟨h2.1.trans h.1, fun c k q1 q2 q3 q4 => (h2.2 c k q1 q2 q3 q4).trans (h.2 c k q1 q2 q3 q4)⟩
theorem v_FK.fl {w K : Nat} {s s1 : k_St} (h : v_FK w K s s1) (hK : 90 * w ≤ K) : v_FL w s s1 := ⟨h.1, fun c k q1 q2 q3 q4 => h.2 c k (by omega) q2 q3 (by omega)⟩
theorem v_F.fl {w : Nat} {s s1 : k_St} (h : v_F w s s1) : v_FL w s s1 := ⟨h.1, fun c k q1 q2 q3 q4 => h.2 c k (by omega) q2 (by omega)⟩
theorem t_cl_3 {b : Nat → Int} {N i : Nat} (hb : t_by b N) (hi : i ≤ N) {c : t_C} (h : t_cl b N i = .inr c) : i + 3 ≤ c.2.1 ∧ c.2.1 ≤ N := by
  have hat := t_at_p (b := b) hi
  have h : (match t_bd (t_nd b N 121 (i, [], fun _ => 0)) (t_nd b N 58) with
    | .inl e => .inl e
    | .inr x => t_clB b N x.1) = (.inr c : Sum Nat t_C) := h
  unfold t_nd at h
  dsimp only at h
  by_cases c1 : t_ch b N (t_at b N i) = 121
  · have hlt := t_ch_lt (b := b) (N := N) (i := t_at b N i) (by omega)
    have hat2 := t_at_p (b := b) (show t_at b N i + 1 ≤ N by omega)
    rw [if_pos c1] at h
    have h : (match (if t_ch b N (t_at b N (t_at b N i + 1)) = 58 then .inr (t_at b N (t_at b N i + 1) + 1, [], fun _ => 0) else .inl (t_at b N (t_at b N i + 1)) : t_R) with
      | .inl e => .inl e
      | .inr x => t_clB b N x.1) = (.inr c : Sum Nat t_C) := h
    by_cases c2 : t_ch b N (t_at b N (t_at b N i + 1)) = 58
    · have hlt2 := t_ch_lt (b := b) (N := N) (i := t_at b N (t_at b N i + 1)) (by omega)
      rw [if_pos c2] at h
      have := (t_clB_p hb (show t_at b N (t_at b N i + 1) + 1 ≤ N by omega) h).1
      omega
    · rw [if_neg c2] at h
      cases h
  · rw [if_neg c1] at h
    cases h
/-- one clause more -/
theorem v_step {w N : Nat} {b : Nat → Int} {s : k_St} {i : Nat} {P : List t_C} (hb : t_by b N) (h : v_S w N b s i 0 0 (t_fl P)) (hQ : v_Q w s P) (hP : 3 * P.length ≤ i) : k_OK (f_X12_clause s) (fun s' => v_FL w s s' ∧ match t_cl b N i with
    | .inl e => s'.1 0 4 = iI (e : Int) ∧ e ≤ N
    | .inr c => (∃ i', t_at b N i' = t_at b N c.2.1 ∧ v_S w N b s' i' 0 0 (t_fl (P ++ [c]))) ∧ v_Q w s' (P ++ [c]) ∧ 3 * (P ++ [c]).length ≤ c.2.1 ∧ c.2.1 ≤ N) := by
  have hN := h.1.2.1
  have hi := h.2.2.1.1
  refine ok_mono (v_clause (nc := P.length) (K := 90 * w + P.length) hb h hQ.1 (by omega) rfl) ?_
  rintro s' ⟨f, hR⟩
  refine ⟨f.fl (by omega), ?_⟩
  cases hq : t_cl b N i with
  | inl e =>
    rw [hq] at hR
    exact hR
  | inr c =>
    rw [hq] at hR
    have h3 := t_cl_3 hb hi hq
    obtain ⟨⟨i', r0, r1⟩, r2, r3, r4, r5⟩ := hR
    have el : (P ++ [c]).length = P.length + 1 := by
      rw [List.length_append]
      rfl
    show (∃ i', t_at b N i' = t_at b N c.2.1 ∧ v_S w N b s' i' 0 0 (t_fl (P ++ [c]))) ∧ v_Q w s' (P ++ [c]) ∧ 3 * (P ++ [c]).length ≤ c.2.1 ∧ c.2.1 ≤ N
    rw [el, t_fl_s]
    refine ⟨⟨i', r0, r1⟩, ⟨?_, ?_, fun j cl hj => ?_⟩, by omega, h3.2⟩
    · rw [el]
      exact r2
    · rw [t_fl_s]
      exact r1.2.2.2
    · by_cases q : j < P.length
      · rw [List.getElem?_append_left q] at hj
        rw [List.take_append_of_le_length (by omega), f.2 6 (90 * w + j) (by omega) (by omega) (by omega) (by omega), f.2 7 (90 * w + j) (by omega) (by omega) (by omega) (by omega), f.2 8 (90 * w + j) (by omega) (by omega) (by omega) (by omega)]
        exact hQ.2.2 j cl hj
      · rw [List.getElem?_append_right (by omega)] at hj
        by_cases q2 : j = P.length
        · subst q2
          rw [Nat.sub_self] at hj
          have hj : some c = some cl := hj
          cases hj
          rw [List.take_left]
          exact ⟨r3, r4, r5⟩
        · rw [List.getElem?_eq_none (by show 1 ≤ j - P.length; omega)] at hj
          cases hj
theorem v_readLaw {w N : Nat} {b : Nat → Int} {σ : k_St} (hb : t_by b N) (hw : w ≤ 4) (hN : N ≤ 160) (h2 : σ.1 0 2 = iI (N : Int)) (h1 : ∀ j, j < N → σ.1 1 j = iI (b j)) : k_OK (f_X12_readLaw (iI (w : Int)) σ) (fun r => v_FL w σ r.2 ∧ match t_cls b N 200 0 with
    | .inl e => r.1 = iI (e : Int) ∧ e ≤ N
    | .inr P => r.1 = iI (-1) ∧ v_Q w r.2 P ∧ P.length ≤ 60 ∧ (t_fl P).length ≤ 160) := by
  generalize hX : t_cls b N 200 0 = X
  have eo : ∃ s, f_X12_open (iI (w : Int)) σ = some s ∧ v_FL w σ s ∧ v_S w N b s 0 0 0 [] ∧ s.1 5 w = iI 0 := by
    unfold f_X12_open
    simp only [iI_lit, iI_neg]
    rw [n_nm, n_nm, n_nm, n_nm, n_gix (by omega) (by omega), iI_cl (by omega), Int.toNat_natCast, n_nm, n_gix (by omega) (by omega), n_nm]
    refine ⟨_, rfl, ⟨rfl, fun c k q1 q2 q3 q4 => ?_⟩, ⟨⟨h2, hN, h1⟩, ⟨?_, ?_, ?_, ?_⟩, by show 0 ≤ N ∧ 0 ≤ 6 ∧ w ≤ 4 ∧ 0 + 0 ≤ 0; omega, ?_, fun j c hc => by cases hc⟩, wr_s⟩
    · rw [wr_if, if_neg (by omega), wr_if, if_neg (by omega), wr_if, if_neg (by omega), wr_if, if_neg (by omega), wr_if, if_neg (by omega), wr_if, if_neg (by omega)]
    · rw [wr_c (by decide), wr_c (by decide), wr_k (by decide), wr_k (by decide)]
      exact wr_s
    · rw [wr_c (by decide), wr_c (by decide), wr_k (by decide)]
      exact wr_s
    · rw [wr_c (by decide), wr_c (by decide)]
      exact wr_s
    · rw [wr_c (by decide), wr_c (by decide), wr_k (by decide), wr_k (by decide), wr_k (by decide)]
      exact wr_s
    · rw [wr_c (by decide)]
      exact wr_s
  obtain ⟨s0, e0, f0, g0, g5⟩ := eo
  unfold f_X12_readLaw
  simp only [iI_lit, iI_neg]
  rw [e0, n_bd, ok_bd]
  have hQ0 : v_Q w s0 [] := ⟨g5, g0.2.2.2, fun j cl hj => by cases hj⟩
  refine ok_mono (v_step (P := []) hb g0 hQ0 (Nat.le_refl _)) ?_
  rintro s1 ⟨f1, hh1⟩
  have hX : (match t_cl b N 0 with
    | .inl e => .inl e
    | .inr c => if t_ch b N (t_at b N c.2.1) = 59 then t_ap [c] (t_cls b N 199 (t_at b N c.2.1 + 1))
      else if t_ch b N (t_at b N c.2.1) = -1 then .inr [c] else .inl (t_at b N c.2.1)) = X := by
    rw [← hX]
    exact (t_cls_s (f := 199)).symm
  refine ok_for 160 (fun t (z : k_St) => v_FL w σ z ∧ ((∃ e : Nat, X = .inl e ∧ z.1 0 4 = iI (e : Int) ∧ e ≤ N) ∨ ∃ (P : List t_C) (i' y : Nat), X = (if t_ch b N (t_at b N y) = 59 then t_ap P (t_cls b N (199 - t) (t_at b N y + 1)) else if t_ch b N (t_at b N y) = -1 then .inr P else .inl (t_at b N y)) ∧ t_at b N i' = t_at b N y ∧ v_S w N b z i' 0 0 (t_fl P) ∧ v_Q w z P ∧ 3 * P.length ≤ y ∧ y ≤ N ∧ t ≤ y)) ?_ (by omega) (j := 0) ?_ (by omega)
  rotate_left
  · refine ⟨f0.tr f1, ?_⟩
    cases hq : t_cl b N 0 with
    | inl e =>
      rw [hq] at hh1 hX
      exact Or.inl ⟨e, hX.symm, hh1.1, hh1.2⟩
    | inr c =>
      rw [hq] at hh1 hX
      obtain ⟨⟨i', q0, q1⟩, q2, q3, q4⟩ := hh1
      exact Or.inr ⟨[c], i', c.2.1, hX.symm, q0, q1, q2, q3, q4, Nat.zero_le _⟩
  rintro gg t z ⟨f, hh⟩ ht hgo
  show k_OK (k_jn _ _) _
  simp only [n_jn]
  rcases hh with ⟨e, eX, g4, he⟩ | ⟨P, i', y, eX, q0, q1, q2, q3, q4, q5⟩
  · have g4' : k_rd z 0 4 = iI (e : Int) := g4
    rw [g4', n_ieq (by omega) (by omega), if_neg (by omega)]
    unfold f_X12_atEnd
    simp only [iI_neg, iI_lit]
    rw [g4', n_ieq (by omega) (by omega), if_neg (by omega), n_b2, ok_some, eX]
    exact ⟨f, rfl, he⟩
  · obtain ⟨s2, e2, h2', f2⟩ := v_look hb q1
    rw [q0] at e2 h2'
    have hr := t_ch_r hb (t_at b N y)
    have haty := t_at_p (b := b) q4
    have hayy := t_at_at (b := b) q4
    have g4 : k_rd z 0 4 = iI (-1) := q1.2.1.2.1
    rw [g4, n_ift rfl, e2, n_b2, n_ieq (by omega) (by omega)]
    by_cases c1 : t_ch b N (t_at b N y) = 59
    · have hlt := t_ch_lt (b := b) (N := N) (i := t_at b N y) (by omega)
      have hql := h2'.2.2.1
      have h3 := h2'.at' (i' := t_at b N y + 1) (q' := 0) (by omega) (by omega)
      have e3 : k_rd s2 0 3 = iI ((t_at b N y : Nat) : Int) := h2'.2.1.1
      have f3 := f2.w0 (k := 3) (x := iI ((t_at b N y + 1 : Nat) : Int)) (Or.inl rfl)
      have q2' : v_Q w (k_wr s2 0 3 (iI ((t_at b N y + 1 : Nat) : Int))) P := by
        refine ⟨(f3.2 5 w (by omega) (by omega) (by omega)).trans q2.1, h3.2.2.2, fun j cl hj => ?_⟩
        rw [f3.2 6 _ (by omega) (by omega) (by omega), f3.2 7 _ (by omega) (by omega) (by omega), f3.2 8 _ (by omega) (by omega) (by omega)]
        exact q2.2.2 j cl hj
      rw [if_pos c1, show 199 - t = (199 - (t + 1)) + 1 by omega, t_cls_s] at eX
      rw [if_pos c1, e3, iI_add, ok_nm, ok_bd, show ((t_at b N y : Nat) : Int) + 1 = ((t_at b N y + 1 : Nat) : Int) by omega]
      refine ok_mono (v_step hb h3 q2' (by omega)) ?_
      rintro s4 ⟨f4, hh4⟩
      refine hgo s4 (by omega) ⟨(f.tr f3.fl).tr f4, ?_⟩
      cases hq : t_cl b N (t_at b N y + 1) with
      | inl e =>
        rw [hq] at hh4 eX
        exact Or.inl ⟨e, eX, hh4.1, hh4.2⟩
      | inr c =>
        rw [hq] at hh4 eX
        obtain ⟨⟨i4, p0, p1⟩, p2, p3, p4⟩ := hh4
        have h3' := t_cl_3 hb (by omega) hq
        refine Or.inr ⟨P ++ [c], i4, c.2.1, ?_, p0, p1, p2, p3, p4, by omega⟩
        rw [eX]
        by_cases d1 : t_ch b N (t_at b N c.2.1) = 59
        · rw [if_pos d1]
          show t_ap P (if _ then _ else _) = _
          rw [if_pos d1, t_ap_ap]
        · rw [if_neg d1]
          show t_ap P (if _ then _ else _) = _
          rw [if_neg d1]
          by_cases d2 : t_ch b N (t_at b N c.2.1) = -1
          · rw [if_pos d2, if_pos d2]
            rfl
          · rw [if_neg d2, if_neg d2]
            rfl
    · rw [if_neg c1] at eX
      obtain ⟨s3, e3, h3, f3⟩ := v_look hb h2'
      rw [hayy] at e3 h3
      have g42 : k_rd s2 0 4 = iI (-1) := h2'.2.1.2.1
      have ff := f2.tr f3
      rw [if_neg c1]
      unfold f_X12_atEnd
      simp only [iI_neg, iI_lit]
      rw [g42, n_ift rfl, e3, n_b2, n_ieq (by omega) (by omega)]
      by_cases c2 : t_ch b N (t_at b N y) = -1
      · have g43 : k_rd s3 0 4 = iI (-1) := h3.2.1.2.1
        rw [if_pos c2] at eX
        rw [if_pos c2, g43, n_b2, ok_some, eX]
        have hfin := h3.2.2.1
        refine ⟨f.tr ff.fl, rfl, ⟨(ff.2 5 w (by omega) (by omega) (by omega)).trans q2.1, h3.2.2.2, fun j cl hj => ?_⟩, by omega, by omega⟩
        rw [ff.2 6 _ (by omega) (by omega) (by omega), ff.2 7 _ (by omega) (by omega) (by omega), ff.2 8 _ (by omega) (by omega) (by omega)]
        exact q2.2.2 j cl hj
      · obtain ⟨s4, e4, h4, f4⟩ := v_bad h3
        rw [if_neg c2] at eX
        rw [if_neg c2, e4, n_bd, h4.e4, n_b2, ok_some, eX]
        exact ⟨(f.tr ff.fl).tr f4.fl, rfl, haty.2⟩
