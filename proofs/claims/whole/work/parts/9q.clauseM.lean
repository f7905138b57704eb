/-! the reference's clauses -/
def v_FK (w K : Nat) (s s' : k_St) : Prop := s'.2 = s.2 ∧ ∀ c k, ¬ (c = 0 ∧ (k = 3 ∨ k = 4 ∨ k = 5)) → ¬ ((c = 2 ∨ c = 3) ∧ 340 * w ≤ k) → ¬ ((c = 4 ∨ c = 5) ∧ k = w) → ¬ ((c = 6 ∨ c = 7 ∨ c = 8) ∧ k = K) → s'.1 c k = s.1 c k
theorem v_FK.rf {w K : Nat} {s : k_St} : v_FK w K s s := ⟨rfl, fun _ _ _ _ _ _ => rfl⟩
theorem v_FK.tr {w K : Nat} {s s1 s2 : k_St} (h : v_FK w K s s1) (h2 : v_FK w K s1 s2) : v_FK w K s s2 := ⟨h2.1.trans h.1, fun c k q1 q2 q3 q4 => (h2.2 c k q1 q2 q3 q4).trans (h.2 c k q1 q2 q3 q4)⟩
theorem v_F.fk {w K : Nat} {s s1 : k_St} (h : v_F w s s1) : v_FK w K s s1 := ⟨h.1, fun c k q1 q2 q3 _ => h.2 c k q1 q2 (fun z => q3 ⟨Or.inl z.1, z.2⟩)⟩
theorem v_FK.wk {w K : Nat} {s s1 : k_St} {c : Nat} {x : Int32} (h : v_FK w K s s1) (hc : c = 6 ∨ c = 7 ∨ c = 8) : v_FK w K s (k_wr s1 c K x) := ⟨h.1, fun c' j q1 q2 q3 q4 => by
  rw [wr_if, if_neg (fun z => q4 ⟨by rw [z.1]; exact hc, z.2⟩)]
  exact h.2 c' j q1 q2 q3 q4⟩
theorem v_FK.w5 {w K : Nat} {s s1 : k_St} {x : Int32} (h : v_FK w K s s1) : v_FK w K s (k_wr s1 5 w x) := ⟨h.1, fun c' j q1 q2 q3 q4 => by
  rw [wr_if, if_neg (fun z => q3 ⟨Or.inr z.1, z.2⟩)]
  exact h.2 c' j q1 q2 q3 q4⟩
def t_c1 (c : Option t_V) : List (Int × Int) := match c with
  | none => []
  | some x => x.2.1
def t_cc (c : t_C) : List (Int × Int) := t_c1 c.1 ++ c.2.2.1
def v_RK (w N : Nat) (b : Nat → Int) (K nc : Nat) (cs : List (Int × Int)) (X : Sum Nat t_C) (s' : k_St) : Prop := match X with
  | .inl e => s'.1 0 4 = iI (e : Int) ∧ e ≤ N
  | .inr c => (∃ i', t_at b N i' = t_at b N c.2.1 ∧ v_S w N b s' i' 0 0 (cs ++ t_cc c)) ∧ s'.1 5 w = iI ((nc : Int) + 1) ∧ s'.1 6 K = iI (cs.length : Int) ∧ s'.1 7 K = iI ((cs.length : Int) + ((t_c1 c.1).length : Int)) ∧ s'.1 8 K = iI ((cs ++ t_cc c).length : Int)
theorem v_clause {w N nc K : Nat} {b : Nat → Int} {s : k_St} {i : Nat} {cs : List (Int × Int)} (hb : t_by b N) (h : v_S w N b s i 0 0 cs) (h5 : s.1 5 w = iI (nc : Int)) (hnc : nc ≤ 60) (hKK : K = 90 * w + nc) : k_OK (f_X12_clause s) (fun s' => v_FK w K s s' ∧ v_RK w N b K nc cs (t_cl b N i) s') := by
  have hN := h.1.2.1
  have hi := h.2.2.1.1
  have hw := h.2.2.1.2.2.1
  generalize hX : t_cl b N i = X
  have e14 : k_rd s 0 14 = iI (w : Int) := h.2.1.2.2.2
  have e5 : k_rd s 5 w = iI (nc : Int) := h5
  have e4 : k_rd s 0 4 = iI (-1) := h.2.1.2.1
  unfold f_X12_clause
  simp only [iI_lit, iI_neg]
  rw [e14, n_gix (by omega) (by omega), iI_cl (by omega), Int.toNat_natCast, e5, iI_mul, iI_add, show (90 : Int) * (w : Int) + (nc : Int) = ((K : Nat) : Int) by omega, ok_nm]
  have hK : K < 450 := by omega
  have hX : (match t_bd (t_nd b N 121 (i, [], fun _ => 0)) (t_nd b N 58) with
    | .inl e => .inl e
    | .inr x => t_clB b N x.1) = X := hX
  unfold t_nd at hX
  dsimp only at hX
  obtain ⟨s1, e1, h1, f1⟩ := v_look hb h
  have hr1 := t_ch_r hb (t_at b N i)
  have hat1 := t_at_p (b := b) hi
  refine ok_jnI (fun jn => (∀ s2, v_S w N b s2 (t_at b N i) 0 0 cs → v_F w s s2 → t_ch b N (t_at b N i) = 121 → k_OK (jn s2) (fun s' => v_FK w K s s' ∧ v_RK w N b K nc cs X s')) ∧ ∀ s2, s2.1 0 4 = iI ((t_at b N i : Nat) : Int) → v_F w s s2 → X = .inl (t_at b N i) → k_OK (jn s2) (fun s' => v_FK w K s s' ∧ v_RK w N b K nc cs X s')) ⟨?_, ?_⟩ ?_
  rotate_left
  · intro s2 g4 f2 eX
    show k_OK (k_nm _ _) _
    rw [ok_nm]
    show k_OK (k_if _ _ _) _
    have g4' : ∀ x : Int32, k_rd (k_wr s2 0 3 x) 0 4 = iI ((t_at b N i : Nat) : Int) := fun x => g4
    rw [g4', n_ieq (by omega) (by omega), if_neg (by omega)]
    show k_OK (k_nm _ _) _
    rw [ok_nm]
    have g4'' : ∀ x y : Int32, k_rd (k_wr (k_wr s2 0 3 x) 0 3 y) 0 4 = iI ((t_at b N i : Nat) : Int) := fun x y => g4
    rw [g4'', n_ieq (by omega) (by omega), if_neg (by omega), ok_some, eX]
    exact ⟨((f2.w0 (Or.inl rfl)).w0 (Or.inl rfl)).fk, g4, hat1.2⟩
  · intro jn hjn
    show k_OK (k_if _ _ _) _
    rw [e4, n_ift rfl, e1, n_b2, n_ieq (by omega) (by omega)]
    by_cases c1 : t_ch b N (t_at b N i) = 121
    · rw [if_pos c1]
      exact hjn.1 s1 h1 f1 c1
    · obtain ⟨s2, e2, h2, f2⟩ := v_bad h1
      rw [if_neg c1] at hX
      rw [if_neg c1, e2, n_bd]
      exact hjn.2 s2 h2.e4 (f1.tr f2) hX.symm
  intro s2 h2 f2 c1
  rw [if_pos c1] at hX
  have hX : (match (if t_ch b N (t_at b N (t_at b N i + 1)) = 58 then .inr (t_at b N (t_at b N i + 1) + 1, [], fun _ => 0) else .inl (t_at b N (t_at b N i + 1)) : t_R) with
    | .inl e => .inl e
    | .inr x => t_clB b N x.1) = X := hX
  have hlt1 := t_ch_lt (b := b) (N := N) (i := t_at b N i) (by omega)
  generalize t_at b N i = j0 at *
  have hql2 := h2.2.2.1
  have h3 := h2.at' (i' := j0 + 1) (q' := 0) (by omega) (by omega)
  have f3 := f2.w0 (k := 3) (x := iI ((j0 + 1 : Nat) : Int)) (Or.inl rfl)
  have e33 : k_rd s2 0 3 = iI (j0 : Int) := h2.2.1.1
  show k_OK (k_nm _ _) _
  rw [ok_nm, e33, iI_add, show (j0 : Int) + 1 = ((j0 + 1 : Nat) : Int) by omega]
  generalize k_wr s2 0 3 (iI ((j0 + 1 : Nat) : Int)) = s3 at *
  have e34 : k_rd s3 0 4 = iI (-1) := h3.2.1.2.1
  obtain ⟨s4, e4', h4, f4⟩ := v_look hb h3
  have hr4 := t_ch_r hb (t_at b N (j0 + 1))
  have hat4 := t_at_p (b := b) (show j0 + 1 ≤ N by omega)
  generalize t_at b N (j0 + 1) = j1 at *
  refine ok_jnI (fun jn => (∀ s5, v_S w N b s5 j1 0 0 cs → v_F w s s5 → t_ch b N j1 = 58 → k_OK (jn s5) (fun s' => v_FK w K s s' ∧ v_RK w N b K nc cs X s')) ∧ ∀ s5, s5.1 0 4 = iI (j1 : Int) → v_F w s s5 → X = .inl j1 → k_OK (jn s5) (fun s' => v_FK w K s s' ∧ v_RK w N b K nc cs X s')) ⟨?_, ?_⟩ ?_
  rotate_left
  · intro s5 g4 f5 eX
    show k_OK (k_nm _ _) _
    rw [ok_nm]
    have g4' : ∀ x : Int32, k_rd (k_wr s5 0 3 x) 0 4 = iI (j1 : Int) := fun x => g4
    rw [g4', n_ieq (by omega) (by omega), if_neg (by omega), ok_some, eX]
    exact ⟨(f5.w0 (Or.inl rfl)).fk, g4, hat4.2⟩
  · intro jn hjn
    show k_OK (k_if _ _ _) _
    rw [e34, n_ift rfl, e4', n_b2, n_ieq (by omega) (by omega)]
    by_cases c2 : t_ch b N j1 = 58
    · rw [if_pos c2]
      exact hjn.1 s4 h4 (f3.tr f4) c2
    · obtain ⟨s5, e5', h5', f5⟩ := v_bad h4
      rw [if_neg c2] at hX
      rw [if_neg c2, e5', n_bd]
      exact hjn.2 s5 h5'.e4 ((f3.tr f4).tr f5) hX.symm
  intro s5 h5' f5 c2
  rw [if_pos c2] at hX
  have hX : t_clB b N (j1 + 1) = X := hX
  have hlt2 := t_ch_lt (b := b) (N := N) (i := j1) (by omega)
  have hql5 := h5'.2.2.1
  have h6 := h5'.at' (i' := j1 + 1) (q' := 0) (by omega) (by omega)
  have f6 := f5.w0 (k := 3) (x := iI ((j1 + 1 : Nat) : Int)) (Or.inl rfl)
  have e53 : k_rd s5 0 3 = iI (j1 : Int) := h5'.2.1.1
  show k_OK (k_nm _ _) _
  rw [ok_nm, e53, iI_add, show (j1 : Int) + 1 = ((j1 + 1 : Nat) : Int) by omega]
  generalize k_wr s5 0 3 (iI ((j1 + 1 : Nat) : Int)) = s6 at *
  have hj : j1 + 1 ≤ N := by omega
  generalize j1 + 1 = j at hX h6 hj
  have e64 : k_rd s6 0 4 = iI (-1) := h6.2.1.2.1
  have e614 : k_rd s6 0 14 = iI (w : Int) := h6.2.1.2.2.2
  have e6c : k_rd s6 4 w = iI (cs.length : Int) := h6.2.2.2.1
  rw [e64, n_ift rfl, e614, n_gix (by omega) (by omega), n_gix (by omega) (by omega), iI_cl (by omega), Int.toNat_natCast, iI_cl (by omega), Int.toNat_natCast, e6c, ok_nm]
  have h7 : v_S w N b (k_wr s6 6 K (iI (cs.length : Int))) j 0 0 cs := h6
  have f7 : v_FK w K s (k_wr s6 6 K (iI (cs.length : Int))) := f6.fk.wk (Or.inl rfl)
  have g7 : (k_wr s6 6 K (iI (cs.length : Int))).1 6 K = iI (cs.length : Int) := wr_s
  have g75 : (k_wr s6 6 K (iI (cs.length : Int))).1 5 w = iI (nc : Int) := (f6.2 5 w (by omega) (by omega) (by omega)).trans h5
  generalize k_wr s6 6 K (iI (cs.length : Int)) = s7 at *
  obtain ⟨s8, e8, h8, f8⟩ := v_look hb h7
  have hr8 := t_ch_r hb (t_at b N j)
  have f78 := f7.tr f8.fk
  have g8 : s8.1 6 K = iI (cs.length : Int) := (f8.2 6 K (by omega) (by omega) (by omega)).trans g7
  have g85 : s8.1 5 w = iI (nc : Int) := (f8.2 5 w (by omega) (by omega) (by omega)).trans g75
  rw [e8, n_b2]
  have hat8 := t_at_p (b := b) hj
  have haa8 := t_at_at (b := b) hj
  rw [t_clB_e] at hX
  refine ok_jnI (fun jn => ∀ (t0 : Int32) s9, v_S w N b s9 (t_at b N j) 0 0 cs → v_FK w K s s9 → s9.1 6 K = iI (cs.length : Int) → s9.1 5 w = iI (nc : Int) → (t0 = iI 1 ∧ (t_ch b N (t_at b N j) = 33 ∨ t_ch b N (t_at b N j) = 40) ∨ t0 = iI 0 ∧ ¬ t_ch b N (t_at b N j) = 33 ∧ ¬ t_ch b N (t_at b N j) = 40) → k_OK (jn t0 s9) (fun s' => v_FK w K s s' ∧ v_RK w N b K nc cs X s')) ?_ ?_
  rotate_left
  · intro jn hjn
    show k_OK (k_jn _ _) _
    simp only [n_jn]
    rw [n_ieq (by omega) (by omega)]
    by_cases c33 : t_ch b N (t_at b N j) = 33
    · rw [if_pos c33]
      exact hjn _ s8 h8 f78 g8 g85 (Or.inl ⟨rfl, Or.inl c33⟩)
    · obtain ⟨s9, e9, h9, f9⟩ := v_look hb h8
      rw [haa8] at e9 h9
      have f79 := f78.tr (f9.fk (K := K))
      have g9 : s9.1 6 K = iI (cs.length : Int) := (f9.2 6 K (by omega) (by omega) (by omega)).trans g8
      have g95 : s9.1 5 w = iI (nc : Int) := (f9.2 5 w (by omega) (by omega) (by omega)).trans g85
      rw [if_neg c33, e9, n_b2, n_ieq (by omega) (by omega)]
      by_cases c40 : t_ch b N (t_at b N j) = 40
      · rw [if_pos c40]
        exact hjn _ s9 h9 f79 g9 g95 (Or.inl ⟨rfl, Or.inr c40⟩)
      · rw [if_neg c40]
        exact hjn _ s9 h9 f79 g9 g95 (Or.inr ⟨rfl, c33, c40⟩)
  intro t0 s9 h9 f9 g9 g95 ht0
  show k_OK (k_jn _ _) _
  refine ok_jnI (fun jn => ∀ (v2 : Int32) s10, v_FK w K s s10 → s10.1 6 K = iI (cs.length : Int) → s10.1 5 w = iI (nc : Int) → s10.1 0 14 = iI (w : Int) → ((∃ e : Nat, X = .inl e ∧ s10.1 0 4 = iI (e : Int) ∧ e ≤ N) ∨ (v2 = iI 0 ∧ ∃ (y : t_V) (i' : Nat), X = .inr (none, y) ∧ t_at b N i' = t_at b N y.1 ∧ v_S w N b s10 i' 0 0 (cs ++ y.2.1)) ∨ (v2 = iI 1 ∧ ∃ x : t_V, X = (match t_nd b N 63 x with | .inl e => .inl e | .inr x' => t_pr (t_sum b N 6 x'.1) (some x')) ∧ v_S w N b s10 x.1 0 0 (cs ++ x.2.1))) → k_OK (jn v2 s10) (fun s' => v_FK w K s s' ∧ v_RK w N b K nc cs X s')) ?_ ?_
  · intro v2 s10 f10 g10 g105 g1014 hcase
    show k_OK (k_gd _ _) _
    rw [n_gix (by omega) (by omega), n_gix (by omega) (by omega), show k_rd s10 6 K = _ from g10, ok_nm]
    have f11 : v_FK w K s (k_wr s10 7 K (iI (cs.length : Int))) := f10.wk (Or.inr (Or.inl rfl))
    have g11 : (k_wr s10 7 K (iI (cs.length : Int))).1 6 K = iI (cs.length : Int) := g10
    have g117 : (k_wr s10 7 K (iI (cs.length : Int))).1 7 K = iI (cs.length : Int) := wr_s
    have g115 : (k_wr s10 7 K (iI (cs.length : Int))).1 5 w = iI (nc : Int) := g105
    have g1114 : (k_wr s10 7 K (iI (cs.length : Int))).1 0 14 = iI (w : Int) := g1014
    have hS : ∀ y cs', v_S w N b s10 y 0 0 cs' → v_S w N b (k_wr s10 7 K (iI (cs.length : Int))) y 0 0 cs' := fun y cs' z => z
    have hE : ∀ e : Nat, s10.1 0 4 = iI (e : Int) → (k_wr s10 7 K (iI (cs.length : Int))).1 0 4 = iI (e : Int) := fun e z => z
    generalize k_wr s10 7 K (iI (cs.length : Int)) = s11 at *
    refine ok_jnI (fun jn => ∀ s12, v_FK w K s s12 → s12.1 6 K = iI (cs.length : Int) → s12.1 5 w = iI (nc : Int) → s12.1 0 14 = iI (w : Int) → ((∃ e : Nat, X = .inl e ∧ s12.1 0 4 = iI (e : Int) ∧ e ≤ N) ∨ ∃ (c : t_C) (i' : Nat), X = .inr c ∧ (t_at b N i' = t_at b N c.2.1 ∧ v_S w N b s12 i' 0 0 (cs ++ t_cc c)) ∧ s12.1 7 K = iI ((cs.length : Int) + ((t_c1 c.1).length : Int))) → k_OK (jn s12) (fun s' => v_FK w K s s' ∧ v_RK w N b K nc cs X s')) ?_ ?_
    · intro s12 f12 g12 g125 g1214 hc
      show k_OK (k_gd _ _) _
      rw [show k_rd s12 0 14 = iI (w : Int) from g1214, n_gix (by omega) (by omega), n_gix (by omega) (by omega), iI_cl (by omega), Int.toNat_natCast, ok_nm]
      show k_OK (k_nm _ _) _
      have e264 : ∀ x, k_rd (k_wr s12 8 K x) 0 14 = iI (w : Int) := fun x => g1214
      have e265 : ∀ x, k_rd (k_wr s12 8 K x) 5 w = iI (nc : Int) := fun x => g125
      rw [ok_nm, e264, n_gix (by omega) (by omega), n_gix (by omega) (by omega), iI_cl (by omega), Int.toNat_natCast, e265, iI_add, ok_nm, ok_some]
      refine ⟨(f12.wk (Or.inr (Or.inr rfl))).w5, ?_⟩
      rcases hc with ⟨e, eX, q1, q2⟩ | ⟨c, i', eX, ⟨q0, q1⟩, q2⟩
      · rw [eX]
        exact ⟨q1, q2⟩
      · rw [eX]
        have q3 : k_rd s12 4 w = iI ((cs ++ t_cc c).length : Int) := q1.2.2.2.1
        rw [q3]
        exact ⟨⟨i', q0, q1⟩, wr_s, g12, q2, by
          rw [wr_c (by decide)]
          exact wr_s⟩
    · intro jn hjn
      show k_OK (k_if _ _ _) _
      rcases hcase with ⟨e, eX, q1, q2⟩ | ⟨rfl, y, i', eX, q0, q1⟩ | ⟨rfl, x, eX, q1⟩
      · rw [ok_if]
        refine ⟨fun _ => hjn s11 f11 g11 g115 g1114 (Or.inl ⟨e, eX, hE e q1, q2⟩), fun _ => ?_⟩
        rw [show k_rd s11 0 4 = _ from hE e q1, n_ieq (by omega) (by omega), if_neg (by omega)]
        exact hjn s11 f11 g11 g115 g1114 (Or.inl ⟨e, eX, hE e q1, q2⟩)
      · rw [n_ift rfl]
        refine hjn s11 f11 g11 g115 g1114 (Or.inr ⟨(none, y), i', eX, ⟨q0, hS _ _ q1⟩, ?_⟩)
        rw [g117]
        show iI (cs.length : Int) = iI ((cs.length : Int) + ((0 : Nat) : Int))
        congr 1
      · have h11 := hS _ _ q1
        obtain ⟨s12, e12, h12, f12⟩ := v_look hb h11
        have hr12 := t_ch_r hb (t_at b N x.1)
        have e114 : k_rd s11 0 4 = iI (-1) := h11.2.1.2.1
        have eX : X = (match (if t_ch b N (t_at b N x.1) = 63 then .inr (t_at b N x.1 + 1, x.2) else .inl (t_at b N x.1) : t_R) with | .inl e => .inl e | .inr x' => t_pr (t_sum b N 6 x'.1) (some x')) := eX
        rw [n_iff (by decide), e114, n_ift rfl, e12, n_b2, n_ieq (by omega) (by omega)]
        have hat12 := t_at_p (b := b) h11.2.2.1.1
        by_cases c63 : t_ch b N (t_at b N x.1) = 63
        · have hlt := t_ch_lt (b := b) (N := N) (i := t_at b N x.1) (by omega)
          have hql := h12.2.2.1
          have h13 := h12.at' (i' := t_at b N x.1 + 1) (q' := 0) (by omega) (by omega)
          have e123 : k_rd s12 0 3 = iI ((t_at b N x.1 : Nat) : Int) := h12.2.1.1
          have e1314 : k_rd (k_wr s12 0 3 (iI ((t_at b N x.1 + 1 : Nat) : Int))) 0 14 = iI (w : Int) := h13.2.1.2.2.2
          have e134 : k_rd (k_wr s12 0 3 (iI ((t_at b N x.1 + 1 : Nat) : Int))) 4 w = iI ((cs ++ x.2.1).length : Int) := h13.2.2.2.1
          rw [if_pos c63] at eX
          have eX : X = t_pr (t_sum b N 6 (t_at b N x.1 + 1)) (some (t_at b N x.1 + 1, x.2)) := eX
          rw [if_pos c63, e123, iI_add, ok_nm, show ((t_at b N x.1 : Nat) : Int) + 1 = ((t_at b N x.1 + 1 : Nat) : Int) by omega, e1314, n_gix (by omega) (by omega), n_gix (by omega) (by omega), iI_cl (by omega), Int.toNat_natCast, e134, ok_nm, ok_bd]
          have h14 : v_S w N b (k_wr (k_wr s12 0 3 (iI ((t_at b N x.1 + 1 : Nat) : Int))) 7 K (iI ((cs ++ x.2.1).length : Int))) (t_at b N x.1 + 1) 0 0 (cs ++ x.2.1) := h13
          have f14 : v_FK w K s (k_wr (k_wr s12 0 3 (iI ((t_at b N x.1 + 1 : Nat) : Int))) 7 K (iI ((cs ++ x.2.1).length : Int))) := (f11.tr (f12.w0 (Or.inl rfl)).fk).wk (Or.inr (Or.inl rfl))
          have g147 : (k_wr (k_wr s12 0 3 (iI ((t_at b N x.1 + 1 : Nat) : Int))) 7 K (iI ((cs ++ x.2.1).length : Int))).1 7 K = iI ((cs ++ x.2.1).length : Int) := wr_s
          have g146 : (k_wr (k_wr s12 0 3 (iI ((t_at b N x.1 + 1 : Nat) : Int))) 7 K (iI ((cs ++ x.2.1).length : Int))).1 6 K = iI (cs.length : Int) := (f12.2 6 K (by omega) (by omega) (by omega)).trans g11
          have g145 : (k_wr (k_wr s12 0 3 (iI ((t_at b N x.1 + 1 : Nat) : Int))) 7 K (iI ((cs ++ x.2.1).length : Int))).1 5 w = iI (nc : Int) := (f12.2 5 w (by omega) (by omega) (by omega)).trans g115
          generalize k_wr (k_wr s12 0 3 (iI ((t_at b N x.1 + 1 : Nat) : Int))) 7 K (iI ((cs ++ x.2.1).length : Int)) = s14 at *
          refine ok_mono (v_sum hb 6 20 (by omega) (by omega) _ _ _ _ h14) ?_
          rintro s15 ⟨f15, h15⟩
          have g156 := (f15.2 6 K (by omega) (by omega) (by omega)).trans g146
          have g157 := (f15.2 7 K (by omega) (by omega) (by omega)).trans g147
          have g155 := (f15.2 5 w (by omega) (by omega) (by omega)).trans g145
          have g1514 := (f15.2 0 14 (by omega) (by omega) (by omega)).trans h14.2.1.2.2.2
          cases hq : t_sum b N 6 (t_at b N x.1 + 1) with
          | inl e =>
            rw [hq] at h15 eX
            have h15 : v_E w N s15 e _ 0 := h15
            exact hjn s15 (f14.tr f15.fk) g156 g155 g1514 (Or.inl ⟨e, eX, h15.e4, h15.eN.1⟩)
          | inr y =>
            rw [hq] at h15 eX
            have h15 : v_S w N b s15 y.1 0 0 (cs ++ x.2.1 ++ y.2.1) := h15
            refine hjn s15 (f14.tr f15.fk) g156 g155 g1514 (Or.inr ⟨(some (t_at b N x.1 + 1, x.2), y), y.1, eX, ⟨rfl, ?_⟩, ?_⟩)
            · show v_S w N b s15 y.1 0 0 (cs ++ (x.2.1 ++ y.2.1))
              rw [← List.append_assoc]
              exact h15
            · rw [g157, List.length_append]
              show iI ((cs.length + x.2.1.length : Nat) : Int) = iI ((cs.length : Int) + (x.2.1.length : Int))
              congr 1
        · obtain ⟨s13, e13, h13, f13⟩ := v_bad h12
          rw [if_neg c63] at eX
          have eX : X = .inl (t_at b N x.1) := eX
          rw [if_neg c63, e13, n_bd, ok_some, eX]
          exact ⟨(f11.tr f12.fk).tr f13.fk, h13.e4, hat12.2⟩
  · intro jn hjn
    show k_OK (k_if _ _ _) _
    rcases ht0 with ⟨rfl, hc⟩ | ⟨rfl, hc1, hc2⟩
    · rw [if_pos (show t_ch b N (t_at b N j) = 33 ∨ t_ch b N (t_at b N j) = 40 ∨ t_tst b N j = true from hc.elim Or.inl (fun z => Or.inr (Or.inl z)))] at hX
      rw [n_iff (by decide), ok_bd]
      refine ok_mono (v_cond hb (v_readUnit (w := w) hb 6 20 (by omega) (by omega)) (t_unit_G hb 6) _ _ _ _ h9) ?_
      rintro s10 ⟨f10, h10⟩
      rw [t_cnd_at hj] at h10
      have g10 := (f10.2 6 K (by omega) (by omega) (by omega)).trans g9
      have g105 := (f10.2 5 w (by omega) (by omega) (by omega)).trans g95
      have g1014 := (f10.2 0 14 (by omega) (by omega) (by omega)).trans h9.2.1.2.2.2
      cases hq : t_cnd (t_unit b N 6) b N j with
      | inl e =>
        rw [hq] at h10 hX
        have h10 : v_E w N s10 e _ 0 := h10
        exact hjn _ s10 (f9.tr f10.fk) g10 g105 g1014 (Or.inl ⟨e, hX.symm, h10.e4, h10.eN.1⟩)
      | inr x =>
        rw [hq] at h10 hX
        exact hjn _ s10 (f9.tr f10.fk) g10 g105 g1014 (Or.inr (Or.inr ⟨rfl, x, hX.symm, h10⟩))
    · rw [n_ift rfl, ok_bd]
      refine ok_mono (v_sum hb 6 20 (by omega) (by omega) _ _ _ _ h9) ?_
      rintro s10 ⟨f10, h10⟩
      rw [t_sum_at hj] at h10
      have g10 := (f10.2 6 K (by omega) (by omega) (by omega)).trans g9
      have g105 := (f10.2 5 w (by omega) (by omega) (by omega)).trans g95
      have g1014 := (f10.2 0 14 (by omega) (by omega) (by omega)).trans h9.2.1.2.2.2
      show k_OK (k_jn _ _) _
      simp only [n_jn]
      cases hq : t_sum b N 6 j with
      | inl e =>
        have ht : t_tst b N j = false := by
          unfold t_tst
          rw [hq]
        rw [if_neg (fun z => by
          rcases z with z | z | z
          · exact hc1 z
          · exact hc2 z
          · rw [ht] at z
            cases z), hq] at hX
        rw [hq] at h10
        have h10 : v_E w N s10 e _ 0 := h10
        have := h10.eN
        rw [h10.e4, n_ieq (by omega) (by omega), if_neg (by omega), n_ift trivial]
        exact hjn _ s10 (f9.tr f10.fk) g10 g105 g1014 (Or.inl ⟨e, hX.symm, h10.e4, h10.eN.1⟩)
      | inr x =>
        rw [hq] at h10
        have h10 : v_S w N b s10 x.1 0 0 (cs ++ x.2.1) := h10
        have ht : t_tst b N j = decide (¬ t_cs (t_ch b N (t_at b N x.1)) = -1) := by
          unfold t_tst
          rw [hq]
        obtain ⟨s11, e11, h11, f11⟩ := v_look hb h10
        have hxN := h10.2.2.1.1
        have g11 := (f11.2 6 K (by omega) (by omega) (by omega)).trans g10
        have g115 := (f11.2 5 w (by omega) (by omega) (by omega)).trans g105
        have g1114 := (f11.2 0 14 (by omega) (by omega) (by omega)).trans g1014
        have e104 : k_rd s10 0 4 = iI (-1) := h10.2.1.2.1
        rw [e104, n_ift rfl, e11, n_b2, v_sig hb, n_bd]
        by_cases cc : t_cs (t_ch b N (t_at b N x.1)) = -1
        · rw [if_neg (fun z => by
            rcases z with z | z | z
            · exact hc1 z
            · exact hc2 z
            · rw [ht, decide_eq_true_eq] at z
              exact z cc), hq] at hX
          rw [if_pos cc, n_ift rfl, n_ift trivial]
          exact hjn _ s11 ((f9.tr f10.fk).tr f11.fk) g11 g115 g1114 (Or.inr (Or.inl ⟨rfl, x, t_at b N x.1, hX.symm, t_at_at hxN, h11⟩))
        · rw [if_pos (Or.inr (Or.inr (by
            rw [ht, decide_eq_true_eq]
            exact cc)))] at hX
          have ecmp : t_cmp (t_sum b N 6) b N (t_at b N x.1, x.2) = t_cmp (t_sum b N 6) b N x := by
            unfold t_cmp
            dsimp only
            rw [t_at_at hxN]
            rfl
          have eun : t_unit b N 6 j = t_cmp (t_sum b N 6) b N x := by
            show t_un (some (t_unit b N 5)) (t_sum b N 6) b N j = _
            rw [t_un_1, if_neg hc1, if_neg hc2, hq]
            rfl
          have ecnd : t_cnd (t_unit b N 6) b N j = t_bd (t_bd (t_cmp (t_sum b N 6) b N x) (t_and (t_unit b N 6) b N)) (t_ors (t_unit b N 6) b N) := by
            unfold t_cnd
            rw [eun]
          rw [ecnd] at hX
          rw [if_neg cc, n_iff (by decide), n_iff (by decide), ok_bd]
          have hcmp := v_cmp (x := (t_at b N x.1, x.2)) hb (v_sum (w := w) hb 6 20 (by omega) (by omega)) h11
          rw [ecmp] at hcmp
          refine ok_mono hcmp ?_
          rintro s12 ⟨f12, h12⟩
          rw [ok_bd]
          have h13 : k_OK (f_X12_goOnAnd 20 s12) (fun s' => v_F w s12 s' ∧ v_R w N b 0 0 cs (t_bd (t_cmp (t_sum b N 6) b N x) (t_and (t_unit b N 6) b N)) s') := by
            show k_OK (b_X12_goOnAnd (f_X12_unit 20) s12) _
            cases hq2 : t_cmp (t_sum b N 6) b N x with
            | inl e =>
              rw [hq2] at h12
              rw [v_L_and]
              refine ok_mono (v_L_E h12) ?_
              rintro s13 rfl
              exact ⟨v_F.rf, h12⟩
            | inr y =>
              rw [hq2] at h12
              rw [v_L_and]
              exact v_loop hb (by decide) (v_readUnit (w := w) hb 6 20 (by omega) (by omega)) (t_unit_G hb 6) (x := y) h12
          refine ok_mono h13 ?_
          rintro s13 ⟨f13, h13⟩
          rw [ok_bd]
          have h14 : k_OK (f_X12_goOnOr 20 s13) (fun s' => v_F w s13 s' ∧ v_R w N b 0 0 cs (t_bd (t_bd (t_cmp (t_sum b N 6) b N x) (t_and (t_unit b N 6) b N)) (t_ors (t_unit b N 6) b N)) s') := by
            show k_OK (b_X12_goOnOr (b_X12_goOnAnd (f_X12_unit 20)) (f_X12_unit 20) s13) _
            cases hq2 : t_bd (t_cmp (t_sum b N 6) b N x) (t_and (t_unit b N 6) b N) with
            | inl e =>
              rw [hq2] at h13
              rw [v_L_or]
              refine ok_mono (v_L_E h13) ?_
              rintro s14 rfl
              exact ⟨v_F.rf, h13⟩
            | inr y =>
              rw [hq2] at h13
              exact v_orP hb (v_readUnit (w := w) hb 6 20 (by omega) (by omega)) (t_unit_G hb 6) (x := y) h13
          refine ok_mono h14 ?_
          rintro s14 ⟨f14, h14⟩
          have f24 := (f12.tr f13).tr f14
          have g14 := (f24.2 6 K (by omega) (by omega) (by omega)).trans g11
          have g145 := (f24.2 5 w (by omega) (by omega) (by omega)).trans g115
          have g1414 := (f24.2 0 14 (by omega) (by omega) (by omega)).trans g1114
          have fall := ((f9.tr f10.fk).tr f11.fk).tr (f24.fk (K := K))
          cases hq3 : t_bd (t_bd (t_cmp (t_sum b N 6) b N x) (t_and (t_unit b N 6) b N)) (t_ors (t_unit b N 6) b N) with
          | inl e =>
            rw [hq3] at h14 hX
            have h14 : v_E w N s14 e 0 0 := h14
            exact hjn _ s14 fall g14 g145 g1414 (Or.inl ⟨e, hX.symm, h14.e4, h14.eN.1⟩)
          | inr y =>
            rw [hq3] at h14 hX
            exact hjn _ s14 fall g14 g145 g1414 (Or.inr (Or.inr ⟨rfl, y, hX.symm, h14⟩))
