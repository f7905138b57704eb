/-! the class's clauses -/
def u_F9 (s s' : k_St) : Prop := s'.2 = s.2 ∧ ∀ c k, ¬ (c = 7 ∧ (k = 2 ∨ k = 3 ∨ k = 9 ∨ k = 10)) → s'.1 c k = s.1 c k
theorem u_F9.rf {s : k_St} : u_F9 s s := ⟨rfl, fun _ _ _ => rfl⟩
theorem u_F9.tr {s s1 s2 : k_St} (h : u_F9 s s1) (h2 : u_F9 s1 s2) : u_F9 s s2 := ⟨h2.1.trans h.1, fun c k hk => (h2.2 c k hk).trans (h.2 c k hk)⟩
theorem u_F.n9 {s s1 : k_St} (h : u_F 7 s s1) : u_F9 s s1 := ⟨h.1, fun c k hk => h.2 c k (by omega)⟩
theorem u_F9.wr {s s1 : k_St} {k : Nat} {x : Int32} (h : u_F9 s s1) (hk : k = 9 ∨ k = 10) : u_F9 s (k_wr s1 7 k x) := ⟨h.1, fun c j hj => by
  rw [wr_if, if_neg (by omega)]
  exact h.2 c j hj⟩
theorem u_S.w9 {N : Nat} {b : Nat → Int} {s : k_St} {i : Nat} {e : Int} (h : u_S 7 N b s i e) {k : Nat} {x : Int32} (hk : k = 9 ∨ k = 10) : u_S 7 N b (k_wr s 7 k x) i e := by
  obtain ⟨h1, h2, h3, h4, h5⟩ := h
  refine ⟨(wr_k (by omega)).trans h1, (wr_k (by omega)).trans h2, (wr_k (by omega)).trans h3, h4, fun j hj => ?_⟩
  rw [wr_c (by omega)]
  exact h5 j hj
theorem t_un_at {un : Option (Nat → t_R)} {sm : Nat → t_R} {b : Nat → Int} {N i : Nat} (hi : i ≤ N) (hs : sm (t_at b N i) = sm i) : t_un un sm b N (t_at b N i) = t_un un sm b N i := by
  cases un with
  | none => rw [t_un_0, t_un_0, t_at_at hi, hs]
  | some u => rw [t_un_1, t_un_1, t_at_at hi, hs]
theorem t_unit_at {b : Nat → Int} {N i : Nat} (hi : i ≤ N) : ∀ k, t_unit b N k (t_at b N i) = t_unit b N k i
  | 0 => t_un_at hi (t_sum_at hi)
  | _ + 1 => t_un_at hi (t_sum_at hi)
theorem t_cnd_at {b : Nat → Int} {N i k : Nat} (hi : i ≤ N) : t_cnd (t_unit b N k) b N (t_at b N i) = t_cnd (t_unit b N k) b N i := by
  unfold t_cnd
  rw [t_unit_at hi]
def t_tr (L : Nat → Int) (c : Option t_V) : Prop := match c with
  | none => True
  | some x => ¬ x.2.2 L = 0
def t_cb (b : Nat → Int) (N i : Nat) : Prop := t_ch b N (t_at b N i) = 33 ∨ t_ch b N (t_at b N i) = 40 ∨ t_tst b N i = true
def t_pr (x : t_R) (co : Option t_V) : Sum Nat t_C := match x with
  | .inl e => .inl e
  | .inr y => .inr (co, y)
theorem t_clB_e (b : Nat → Int) (N i : Nat) : t_clB b N i = if t_ch b N (t_at b N i) = 33 ∨ t_ch b N (t_at b N i) = 40 ∨ t_tst b N i = true then (match t_bd (t_cnd (t_unit b N 6) b N i) (t_nd b N 63) with
    | .inl e => .inl e
    | .inr x => t_pr (t_sum b N 6 x.1) (some x)) else t_pr (t_sum b N 6 i) none := rfl
theorem u_has {L : Nat → Int} {N : Nat} {b : Nat → Int} (hb : t_by b N) {s : k_St} {i : Nat} (h : u_S 7 N b s i (-1)) (hL : ∀ j, j < 5 → s.1 11 j = iI (L j)) : k_OK (f_X10_hasCondition s) (fun r => u_F 7 s r.2 ∧ (t_cb b N i → r.1 = iI 1 ∧ u_S 7 N b r.2 (t_at b N i) (-1)) ∧ (¬ t_cb b N i → r.1 = iI 0 ∧ (∀ e, t_sum b N 6 i = .inl e → ∃ i', u_S 7 N b r.2 i' (e : Nat)) ∧ ∀ y, t_sum b N 6 i = .inr y → u_S 7 N b r.2 (t_at b N i) (-1))) := by
  obtain ⟨s1, e1, h1, f1⟩ := u_next hb h
  have hi := h.2.2.2.1.1
  unfold f_X10_hasCondition
  simp only [iI_lit]
  rw [e1, n_b2, u_nx_e hb (by omega), u_nx_e hb (by omega)]
  unfold t_cb
  by_cases c1 : t_ch b N (t_at b N i) = 33
  · rw [if_pos c1, ok_some]
    exact ⟨f1, fun _ => ⟨rfl, h1⟩, fun z => absurd (Or.inl c1) z⟩
  rw [if_neg c1]
  by_cases c2 : t_ch b N (t_at b N i) = 40
  · rw [if_pos c2, ok_some]
    exact ⟨f1, fun _ => ⟨rfl, h1⟩, fun z => absurd (Or.inr (Or.inl c2)) z⟩
  rw [if_neg c2, show f_X3_mark 7 s1 = some (k_rd s1 7 2) from rfl, n_bd, ok_b2]
  have hs := u_readSum (L := L) hb 6 20 (by omega) (by omega) s1 (t_at b N i) h1 (fun q hq => (f1.2 11 q (by omega)).trans (hL q hq))
  rw [t_sum_at hi] at hs
  refine ok_mono hs ?_
  rintro ⟨r, s2⟩ ⟨f2, h2⟩
  have f2 : u_F 7 s1 s2 := f2
  dsimp only
  cases hq : t_sum b N 6 i with
  | inl e =>
    rw [hq] at h2
    obtain ⟨i3, h2⟩ := h2
    have h2 : u_S 7 N b s2 i3 (e : Nat) := h2
    have ht : t_tst b N i = false := by
      unfold t_tst
      rw [hq]
    rw [u_failed h2, n_bd, if_neg (by omega), n_ieq (by omega) (by omega), if_neg (by omega), ok_some]
    refine ⟨f1.tr f2, fun z => ?_, fun _ => ⟨rfl, fun e' he => ?_, fun y hy => by cases hy⟩⟩
    · rcases z with z | z | z
      · exact absurd z c1
      · exact absurd z c2
      · rw [ht] at z
        cases z
    · cases he
      exact ⟨_, h2⟩
  | inr y =>
    rw [hq] at h2
    have h2' : u_S 7 N b s2 y.1 (-1) := h2.1
    obtain ⟨s3, e3, h3, f3⟩ := u_next hb h2'
    have ht : t_tst b N i = decide (¬ t_cs (t_ch b N (t_at b N y.1)) = -1) := by
      unfold t_tst
      rw [hq]
    rw [u_failed h2', n_bd, if_pos rfl, n_ift rfl, e3, n_b2, u_isC hb, n_bd]
    have er : f_X3_returnTo 7 (k_rd s1 7 2) s3 = some (k_wr s3 7 2 (iI ((t_at b N i : Nat) : Int))) := by
      rw [show k_rd s1 7 2 = _ from h1.2.1]
      rfl
    have h4 : u_S 7 N b (k_wr s3 7 2 (iI ((t_at b N i : Nat) : Int))) (t_at b N i) (-1) := h3.at' h1.2.2.2.1.1
    have f4 : u_F 7 s (k_wr s3 7 2 (iI ((t_at b N i : Nat) : Int))) := ((f1.tr f2).tr f3).wr (Or.inl rfl)
    rw [er, n_bd]
    by_cases c3 : t_cs (t_ch b N (t_at b N y.1)) = -1
    · rw [if_pos c3, u_isB (Or.inl rfl), ok_some]
      refine ⟨f4, fun z => ?_, fun _ => ⟨rfl, fun e' he => by (cases he), fun y hy => h4⟩⟩
      rcases z with z | z | z
      · exact absurd z c1
      · exact absurd z c2
      · rw [ht, decide_eq_true_eq] at z
        exact absurd c3 z
    · rw [if_neg c3, u_isB (Or.inr rfl), ok_some]
      refine ⟨f4, fun _ => ⟨rfl, h4⟩, fun z => absurd (Or.inr (Or.inr ?_)) z⟩
      rw [ht, decide_eq_true_eq]
      exact c3
def u_Cl (L : Nat → Int) (N : Nat) (b : Nat → Int) (s : k_St) (x : Sum Nat t_C) (s' : k_St) : Prop := u_F9 s s' ∧ match x with
  | .inl e => ∃ i', u_S 7 N b s' i' (e : Nat)
  | .inr c => u_S 7 N b s' c.2.1 (-1) ∧ ((s'.1 7 9 = s.1 7 9 ∧ s'.1 7 10 = s.1 7 10 ∧ (r_let L → ¬ s.1 7 9 = iI 0 ∨ ¬ t_tr L c.1)) ∨ (s.1 7 9 = iI 0 ∧ s'.1 7 9 = iI 1 ∧ (r_let L → t_tr L c.1 ∧ s'.1 7 10 = iI (c.2.2.2 L))))
theorem u_clause {L : Nat → Int} {N : Nat} {b : Nat → Int} (hb : t_by b N) {s : k_St} {i : Nat} (h : u_S 7 N b s i (-1)) (hL : ∀ j, j < 5 → s.1 11 j = iI (L j)) : k_OK (f_X10_readClause s) (u_Cl L N b s (t_cl b N i)) := by
  have hi := h.2.2.2.1.1
  generalize hX : t_cl b N i = X
  obtain ⟨s1, e1, h1, f1⟩ := u_need (c := 121) hb h (by omega)
  obtain ⟨s2, e2, h2, f2⟩ := u_need (c := 58) hb h1 (by omega)
  unfold f_X10_readClause
  simp only [iI_lit]
  rw [e1, n_bd, e2, n_bd, u_failed h2, n_bd]
  have hX : (match t_bd (t_nd b N 121 (i, [], fun _ => 0)) (t_nd b N 58) with
    | .inl e => .inl e
    | .inr x => t_clB b N x.1) = X := hX
  unfold t_nd at hX
  dsimp only at hX
  have f12 := f1.tr f2
  by_cases c1 : t_ch b N (t_at b N i) = 121
  rotate_left
  · rw [if_neg c1] at hX
    rw [if_neg c1, if_neg c1, t_fa_m] at h2
    have h2e : ∃ i', u_S 7 N b s2 i' ((t_at b N i : Nat) : Int) := by
      rw [t_fa_e, ite_self] at h2
      exact ⟨_, h2⟩
    obtain ⟨i2, h2e⟩ := h2e
    rw [if_neg c1, if_neg c1, t_fa_m, t_fa_e, ite_self, if_neg (by omega), n_ieq (by omega) (by omega), if_neg (by omega), ok_some, ← hX]
    exact ⟨f12.n9, _, h2e⟩
  rw [if_pos c1] at hX
  rw [if_pos c1, if_pos c1] at h2
  rw [if_pos c1, if_pos c1]
  have hX : (match (if t_ch b N (t_at b N (t_at b N i + 1)) = 58 then .inr (t_at b N (t_at b N i + 1) + 1, [], fun _ => 0) else .inl (t_at b N (t_at b N i + 1)) : t_R) with
    | .inl e => .inl e
    | .inr x => t_clB b N x.1) = X := hX
  by_cases c2 : t_ch b N (t_at b N (t_at b N i + 1)) = 58
  rotate_left
  · rw [if_neg c2] at hX
    rw [if_neg c2, if_neg c2, t_fa_m] at h2
    rw [if_neg c2, t_fa_m, if_neg (by omega), n_ieq (by omega) (by omega), if_neg (by omega), ok_some, ← hX]
    exact ⟨f12.n9, _, h2⟩
  rw [if_pos c2] at hX
  rw [if_pos c2, if_pos c2] at h2
  rw [if_pos c2, if_pos rfl, n_ift rfl, ok_b2]
  have hX : t_clB b N (t_at b N (t_at b N i + 1) + 1) = X := hX
  generalize t_at b N (t_at b N i + 1) + 1 = j at hX h2
  have hj := h2.2.2.2.1.1
  rw [t_clB_e] at hX
  refine ok_mono (u_has hb h2 (fun q hq => (f12.2 11 q (by omega)).trans (hL q hq))) ?_
  rintro ⟨v23, s3⟩ ⟨f3, hy, hn⟩
  have f3 : u_F 7 s2 s3 := f3
  dsimp only at hy hn ⊢
  refine ok_jnI (fun jn => ∀ (v1 : Int32) s4, u_F 7 s s4 → ((∃ i' e, X = .inl e ∧ u_S 7 N b s4 i' (e : Nat)) ∨ (∃ i' co, X = t_pr (t_sum b N 6 i') co ∧ u_S 7 N b s4 i' (-1) ∧ (r_let L → (v1 = iI 0 ↔ ¬ t_tr L co)))) → k_OK (jn v1 s4) (u_Cl L N b s X)) ?_ ?_
  · intro v1 s4 f4 hcase
    show k_OK (k_bd _ _) _
    have fe : ∀ (x : Int32) s5, u_F 7 s s5 → (∃ i' e, X = .inl e ∧ u_S 7 N b s5 i' (e : Nat)) → k_OK (k_if (v1 = iI 0)
          (some s5)
          (k_if ((k_rd s5 7 9) = iI 0)
            (k_nm (k_wr s5 7 9 (iI 1)) fun s71 =>
            k_nm (k_wr s71 7 10 x) fun s76 =>
            some s76)
            (some s5))) (u_Cl L N b s X) := fun x s5 f5 ⟨i', e, eX, h5⟩ => by
      rw [eX, ok_if]
      refine ⟨fun _ => ?_, fun _ => ?_⟩
      · rw [ok_some]
        exact ⟨f5.n9, _, h5⟩
      · rw [ok_if]
        refine ⟨fun _ => ?_, fun _ => ?_⟩
        · rw [ok_nm, ok_nm, ok_some]
          exact ⟨(f5.n9.wr (Or.inl rfl)).wr (Or.inr rfl), _, (h5.w9 (Or.inl rfl)).w9 (Or.inr rfl)⟩
        · rw [ok_some]
          exact ⟨f5.n9, _, h5⟩
    rcases hcase with ⟨i', e, eX, h4⟩ | ⟨i', co, eX, h4, hv1⟩
    · rw [u_failed h4, n_bd]
      show k_OK (k_jn _ _) _
      simp only [n_jn]
      rw [if_neg (by omega), n_ieq (by omega) (by omega), if_neg (by omega)]
      exact fe _ s4 f4 ⟨i', e, eX, h4⟩
    · rw [u_failed h4, n_bd]
      show k_OK (k_jn _ _) _
      simp only [n_jn]
      rw [if_pos trivial, n_ift rfl, ok_b2]
      refine ok_mono (u_readSum (L := L) hb 6 20 (by omega) (by omega) s4 i' h4 (fun q hq => (f4.2 11 q (by omega)).trans (hL q hq))) ?_
      rintro ⟨r, s5⟩ ⟨f5, h5⟩
      have f5 : u_F 7 s4 s5 := f5
      dsimp only
      have f45 := f4.tr f5
      cases hq : t_sum b N 6 i' with
      | inl e =>
        rw [hq] at h5 eX
        obtain ⟨i5, h5⟩ := h5
        exact fe _ s5 f45 ⟨i5, e, eX, h5⟩
      | inr y =>
        rw [hq] at h5 eX
        have h5' : u_S 7 N b s5 y.1 (-1) := h5.1
        have h5v : r_let L → r = iI (y.2.2 L) := h5.2
        have eX : X = .inr (co, y) := eX
        have e9 : s5.1 7 9 = s.1 7 9 := f45.2 7 9 (by omega)
        have e10 : s5.1 7 10 = s.1 7 10 := f45.2 7 10 (by omega)
        rw [eX]
        by_cases q1 : v1 = iI 0
        · rw [n_ift q1, ok_some]
          exact ⟨f45.n9, h5', Or.inl ⟨e9, e10, fun q => Or.inr ((hv1 q).mp q1)⟩⟩
        · rw [n_iff q1]
          by_cases q2 : k_rd s5 7 9 = iI 0
          · rw [n_ift q2, ok_nm, ok_nm, ok_some]
            refine ⟨(f45.n9.wr (Or.inl rfl)).wr (Or.inr rfl), (h5'.w9 (Or.inl rfl)).w9 (Or.inr rfl), Or.inr ⟨e9.symm.trans q2, (wr_k (by omega)).trans wr_s, fun q => ⟨?_, wr_s.trans (h5v q)⟩⟩⟩
            show t_tr L co
            by_cases z : t_tr L co
            · exact z
            · exact absurd ((hv1 q).mpr z) q1
          · rw [n_iff q2, ok_some]
            exact ⟨f45.n9, h5', Or.inl ⟨e9, e10, fun _ => Or.inl (fun z => q2 (e9.trans z))⟩⟩
  · intro jn hjn
    show k_OK (k_if _ _ _) _
    by_cases cb : t_cb b N j
    · obtain ⟨ev, h3⟩ := hy cb
      rw [if_pos (show t_ch b N (t_at b N j) = 33 ∨ t_ch b N (t_at b N j) = 40 ∨ t_tst b N j = true from cb)] at hX
      rw [ev, n_iff (by decide), ok_b2]
      have hc := u_cond hb (u_readUnit (L := L) hb 6 20 (by omega) (by omega)) (t_unit_G hb 6) (t_unit_Z 6) s3 (t_at b N j) h3 (fun q hq => ((f12.tr f3).2 11 q (by omega)).trans (hL q hq))
      rw [t_cnd_at hj] at hc
      refine ok_mono hc ?_
      rintro ⟨r, s4⟩ ⟨hB, f4, h4⟩
      have f4 : u_F 7 s3 s4 := f4
      dsimp only
      cases hq : t_cnd (t_unit b N 6) b N j with
      | inl e =>
        rw [hq] at h4 hX
        obtain ⟨i5, h4⟩ := h4
        have h4 : u_S 7 N b s4 i5 (e : Nat) := h4
        obtain ⟨s5, e5, h5, f5⟩ := u_need (c := 63) hb h4 (by omega)
        rw [t_fa_e, ite_self] at h5
        rw [e5, n_bd]
        exact hjn _ s5 (((f12.tr f3).tr f4).tr f5) (Or.inl ⟨_, e, hX.symm, h5⟩)
      | inr x =>
        rw [hq] at h4 hX
        have hZ := t_cnd_Z (t_unit_Z 6) _ _ hq L
        have h4' : u_S 7 N b s4 x.1 (-1) := h4.1
        have h4v : r_let L → r = iI (x.2.2 L) := h4.2
        obtain ⟨s5, e5, h5, f5⟩ := u_need (c := 63) hb h4' (by omega)
        rw [t_fa_m] at h5
        rw [e5, n_bd]
        have hX : (match t_nd b N 63 x with
          | .inl e => .inl e
          | .inr x => t_pr (t_sum b N 6 x.1) (some x)) = X := hX
        unfold t_nd at hX
        by_cases q : t_ch b N (t_at b N x.1) = 63
        · rw [if_pos q, if_pos q] at h5
          rw [if_pos q] at hX
          refine hjn _ s5 (((f12.tr f3).tr f4).tr f5) (Or.inr ⟨_, some (t_at b N x.1 + 1, x.2), hX.symm, h5, fun ql => ?_⟩)
          rw [h4v ql, iI_eq (by omega) (by omega)]
          exact ⟨fun a z => z a, fun z => Decidable.byContradiction (fun a => z a)⟩
        · rw [if_neg q, if_neg q] at h5
          rw [if_neg q] at hX
          exact hjn _ s5 (((f12.tr f3).tr f4).tr f5) (Or.inl ⟨_, _, hX.symm, h5⟩)
    · obtain ⟨ev, h3, h3'⟩ := hn cb
      rw [if_neg (show ¬ (t_ch b N (t_at b N j) = 33 ∨ t_ch b N (t_at b N j) = 40 ∨ t_tst b N j = true) from cb)] at hX
      rw [ev, n_ift rfl]
      cases hq : t_sum b N 6 j with
      | inl e =>
        obtain ⟨i5, h5⟩ := h3 e hq
        rw [hq] at hX
        exact hjn _ s3 (f12.tr f3) (Or.inl ⟨_, e, hX.symm, h5⟩)
      | inr y =>
        have h5 := h3' y hq
        refine hjn _ s3 (f12.tr f3) (Or.inr ⟨t_at b N j, none, ?_, h5, fun _ => ⟨fun z => absurd z (by decide), fun z => absurd trivial z⟩⟩)
        rw [t_sum_at hj]
        exact hX.symm
