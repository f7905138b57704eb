/-! the class's terms -/
def u_ix (i : Nat) (v : Int) : Int := if i = 0 then (if v = 119 then 0 else if v = 115 then 1 else if v = 108 then 2 else if v = 102 then 3 else -1) else if i = 1 then (if v = 107 then 0 else if v = 116 then 1 else -1) else t_lt v
theorem u_idx0 : ∀ i : Fin 3, ∀ v : Fin 256, f_J0_indexOf_0f7a4 i.val (o_i2c (iI (v.val : Int))) (fun _ _ => 0, fun _ _ => 0) = some (iI (u_ix i.val (v.val : Int))) := by decide +kernel
theorem u_idx {i : Nat} (hi : i < 3) {v : Int} (hv : 0 ≤ v ∧ v ≤ 255) {σ : k_St} : f_J0_indexOf_0f7a4 i (o_i2c (iI v)) σ = some (iI (u_ix i v)) := by
  have h := u_idx0 ⟨i, hi⟩ ⟨v.toNat, by omega⟩
  have e : ((v.toNat : Nat) : Int) = v := by omega
  have h : f_J0_indexOf_0f7a4 i (o_i2c (iI ((v.toNat : Nat) : Int))) (fun _ _ => 0, fun _ _ => 0) = some (iI (u_ix i ((v.toNat : Nat) : Int))) := h
  rw [e] at h
  rw [← h]
  unfold f_J0_indexOf_0f7a4 f_J0_indexOf_7cf53 f_J1_indexOf_4cfef f_J1_indexOfChar_4cfef
  rfl
/-- where a piece may end, what it may be worth -/
def t_W (lo N : Nat) (x : t_R) : Prop := match x with
  | .inl e => e ≤ N
  | .inr y => (lo ≤ y.1 ∧ y.1 ≤ N) ∧ ∀ L, r_let L → -1000000 ≤ y.2.2 L ∧ y.2.2 L ≤ 1000000
def t_G (N : Nat) (p : Nat → t_R) : Prop := ∀ i, i ≤ N → t_W (i + 1) N (p i)
theorem rp_bd_b (z : Int) : -1000000 ≤ rp_bd z ∧ rp_bd z ≤ 1000000 := by
  unfold rp_bd
  omega
theorem rp_wk_b (c a b : Int) : -1000000 ≤ rp_wk c a b ∧ rp_wk c a b ≤ 1000000 := by
  unfold rp_wk
  repeat' split
  all_goals first | exact rp_bd_b _ | decide
theorem t_nm_lt {b : Nat → Int} {N i D : Nat} {v : Int} (hi : i ≤ N) (hv : 0 ≤ v) (h : t_dg (t_ch b N i)) : i < (t_nm b N (D + 1) i v).1 := by
  have e : t_nm b N (D + 1) i v = t_nm b N D (i + 1) (10 * v + t_ch b N i - 48) := if_pos h
  have hlt : i < N := by
    by_cases q : i < N
    · exact q
    · rw [t_ch_N (by omega)] at h
      exact absurd h.1 (by decide)
  have h1 := h.1
  have := (t_nm_p (b := b) (N := N) D (i := i + 1) (v := 10 * v + t_ch b N i - 48) (by omega) (by omega)).1
  rw [e]
  omega
theorem t_W.mo {lo lo' N : Nat} {x : t_R} (h : t_W lo N x) (hl : lo' ≤ lo) : t_W lo' N x := by
  cases x with
  | inl e => exact h
  | inr y => exact ⟨⟨Nat.le_trans hl h.1.1, h.1.2⟩, h.2⟩
theorem t_W_bd {lo lo' N : Nat} {x : t_R} {k : t_V → t_R} (h : t_W lo N x) (hk : ∀ y : t_V, t_W lo N (.inr y) → t_W lo' N (k y)) : t_W lo' N (t_bd x k) := by
  cases x with
  | inl e => exact h
  | inr y => exact hk y h
theorem t_lt_r (c : Int) : -1 ≤ t_lt c ∧ t_lt c ≤ 4 := by
  unfold t_lt
  repeat' split
  all_goals decide
theorem t_nd_W {b : Nat → Int} {N : Nat} {c : Int} (hc : 0 ≤ c) {y : t_V} {lo : Nat} (h : t_W lo N (.inr y)) : t_W lo N (t_nd b N c y) := by
  have hp := t_at_p (b := b) h.1.2
  have h1 := h.1.1
  unfold t_nd
  by_cases q : t_ch b N (t_at b N y.1) = c
  · have : t_at b N y.1 < N := by
      by_cases r : t_at b N y.1 < N
      · exact r
      · rw [t_ch_N (by omega)] at q
        omega
    rw [if_pos q]
    exact ⟨⟨by show lo ≤ t_at b N y.1 + 1; omega, by show t_at b N y.1 + 1 ≤ N; omega⟩, h.2⟩
  · rw [if_neg q]
    exact hp.2
theorem t_atom_G {sm : Option (Nat → t_R)} {b : Nat → Int} {N : Nat} (hb : t_by b N) (h : ∀ g, sm = some g → t_G N g) : t_G N (t_atom sm b N) := by
  intro i hi
  have hp := t_at_p (b := b) hi
  have hr := t_ch_r hb (t_at b N i)
  unfold t_atom
  generalize t_at b N i = j at *
  by_cases c1 : t_dg (t_ch b N j)
  · rw [if_pos c1]
    have h1 : j < (t_nm b N 4 j 0).1 := t_nm_lt (D := 3) hp.2 (by omega) c1 (v := 0)
    have h2 := t_nm_p (b := b) (N := N) 4 (i := j) (v := 0) hp.2 (by omega)
    have h3 : (0 + 1 : Int) * 10 ^ 4 = 10000 := by decide
    rw [h3] at h2
    by_cases c2 : t_dg (t_ch b N (t_nm b N 4 j 0).1)
    · rw [if_pos c2]
      exact h2.1.2.1
    · rw [if_neg c2]
      exact ⟨⟨by show i + 1 ≤ (t_nm b N 4 j 0).1; omega, h2.1.2.1⟩, fun L _ => by show -1000000 ≤ (t_nm b N 4 j 0).2 ∧ (t_nm b N 4 j 0).2 ≤ 1000000; omega⟩
  rw [if_neg c1]
  have hl := t_lt_r (t_ch b N j)
  by_cases c2 : t_lt (t_ch b N j) = -1
  · rw [if_neg (by omega)]
    by_cases c3 : t_ch b N j = 91
    · rw [if_pos c3]
      cases sm with
      | none => exact hp.2
      | some g =>
        have hg := h g rfl (j + 1) (by omega)
        exact t_W_bd hg (fun y hy => (t_nd_W (by omega) hy).mo (by omega))
    · rw [if_neg c3]
      exact hp.2
  · rw [if_pos c2]
    have hne : ¬ t_ch b N j = -1 := fun q => c2 (by rw [q]; rfl)
    refine ⟨⟨by show i + 1 ≤ j + 1; omega, by show j + 1 ≤ N; omega⟩, fun L hL => ?_⟩
    have := hL (t_lt (t_ch b N j)).toNat (by omega)
    show -1000000 ≤ L (t_lt (t_ch b N j)).toNat ∧ L (t_lt (t_ch b N j)).toNat ≤ 1000000
    omega
theorem t_lp_G {p : Nat → t_R} {b : Nat → Int} {N : Nat} (hp : t_G N p) {c1 o1 c2 o2 : Int} (h1 : 0 ≤ c1) (h2 : 0 ≤ c2) : ∀ (f : Nat) {x : t_V} {lo : Nat}, t_W lo N (.inr x) → t_W lo N (t_lp p b N c1 o1 c2 o2 f x)
  | 0, x, lo, hx => hx
  | f + 1, x, lo, hx => by
    have ha := t_at_p (b := b) hx.1.2
    have hl := hx.1.1
    have e : t_lp p b N c1 o1 c2 o2 (f + 1) x = if t_ch b N (t_at b N x.1) = c1 then t_bd (p (t_at b N x.1 + 1)) (fun y => t_lp p b N c1 o1 c2 o2 f (t_op o1 x y))
    else if t_ch b N (t_at b N x.1) = c2 then t_bd (p (t_at b N x.1 + 1)) (fun y => t_lp p b N c1 o1 c2 o2 f (t_op o2 x y))
    else .inr (t_at b N x.1, x.2) := rfl
    rw [e]
    have hlt : 0 ≤ t_ch b N (t_at b N x.1) → t_at b N x.1 < N := fun q => by
      by_cases r : t_at b N x.1 < N
      · exact r
      · rw [t_ch_N (by omega)] at q
        omega
    have go : ∀ o : Int, t_at b N x.1 < N → t_W lo N (t_bd (p (t_at b N x.1 + 1)) (fun y => t_lp p b N c1 o1 c2 o2 f (t_op o x y))) := fun o ho =>
      t_W_bd (hp (t_at b N x.1 + 1) (by omega)) (fun y hy => t_lp_G hp h1 h2 f ⟨⟨by have := hy.1.1; show lo ≤ y.1; omega, hy.1.2⟩, fun L _ => rp_wk_b _ _ _⟩)
    by_cases q1 : t_ch b N (t_at b N x.1) = c1
    · rw [if_pos q1]
      exact go o1 (hlt (by omega))
    rw [if_neg q1]
    by_cases q2 : t_ch b N (t_at b N x.1) = c2
    · rw [if_pos q2]
      exact go o2 (hlt (by omega))
    rw [if_neg q2]
    exact ⟨⟨by show lo ≤ t_at b N x.1; omega, ha.2⟩, hx.2⟩
theorem t_chain_G {p : Nat → t_R} {b : Nat → Int} {N : Nat} (hp : t_G N p) {c1 o1 c2 o2 : Int} (h1 : 0 ≤ c1) (h2 : 0 ≤ c2) : t_G N (t_chain p b N c1 o1 c2 o2) := fun i hi => t_W_bd (hp i hi) (fun _ hy => t_lp_G hp h1 h2 200 hy)
theorem t_sumO_G {sm : Option (Nat → t_R)} {b : Nat → Int} {N : Nat} (hb : t_by b N) (h : ∀ g, sm = some g → t_G N g) : t_G N (t_sumO sm b N) := t_chain_G (t_chain_G (t_atom_G hb h) (by decide) (by decide)) (by decide) (by decide)
theorem t_sum_G {b : Nat → Int} {N : Nat} (hb : t_by b N) : ∀ k, t_G N (t_sum b N k)
  | 0 => t_sumO_G hb (fun g q => by cases q)
  | k + 1 => t_sumO_G hb (fun g q => by cases q; exact t_sum_G hb k)
def u_R (L : Nat → Int) (N : Nat) (b : Nat → Int) (x : t_R) (r : Int32 × k_St) : Prop := match x with
  | .inl e => ∃ i', u_S 7 N b r.2 i' (e : Int)
  | .inr y => u_S 7 N b r.2 y.1 (-1) ∧ (r_let L → r.1 = iI (y.2.2 L))
def u_P (L : Nat → Int) (N : Nat) (b : Nat → Int) (f : k_St → Option (Int32 × k_St)) (g : Nat → t_R) : Prop := ∀ s i, u_S 7 N b s i (-1) → (∀ j, j < 5 → s.1 11 j = iI (L j)) → k_OK (f s) (fun r => u_F 7 s r.2 ∧ u_R L N b (g i) r)
theorem t_fa_m {w : Nat} : t_fa (-1) w = w := if_pos rfl
theorem t_fa_e {e w : Nat} : t_fa (e : Int) w = e := if_neg (by omega)
def t_br (sm : Option (Nat → t_R)) (b : Nat → Int) (N j : Nat) : t_R := match sm with
  | none => .inl j
  | some g => t_bd (g (j + 1)) (t_nd b N 93)
theorem t_atom_e (sm : Option (Nat → t_R)) (b : Nat → Int) (N i : Nat) : t_atom sm b N i = if t_dg (t_ch b N (t_at b N i)) then (if t_dg (t_ch b N (t_nm b N 4 (t_at b N i) 0).1) then .inl (t_nm b N 4 (t_at b N i) 0).1 else .inr ((t_nm b N 4 (t_at b N i) 0).1, [(0, (t_nm b N 4 (t_at b N i) 0).2)], fun _ => (t_nm b N 4 (t_at b N i) 0).2))
  else if ¬ t_lt (t_ch b N (t_at b N i)) = -1 then .inr (t_at b N i + 1, [(1, t_lt (t_ch b N (t_at b N i)))], fun L => L (t_lt (t_ch b N (t_at b N i))).toNat)
  else if t_ch b N (t_at b N i) = 91 then t_br sm b N (t_at b N i)
  else .inl (t_at b N i) := rfl
theorem u_atom {L : Nat → Int} {N : Nat} {b : Nat → Int} (hb : t_by b N) {p : Int32 → k_St → Option (Int32 × k_St)} {sm : Option (Nat → t_R)} {d : Nat} (hd : d ≤ 6) (hn : sm = none → d = 6) (hs : ∀ g, sm = some g → d < 6 ∧ u_P L N b (p (iI ((d : Int) + 1))) g) : u_P L N b (b_X10_readAtom p (iI (d : Int))) (t_atom sm b N) := by
  intro s i h hL
  obtain ⟨s1, e1, h1, f1⟩ := u_next hb h
  have hat := t_at_p (b := b) h.2.2.2.1.1
  have haa := t_at_at (b := b) h.2.2.2.1.1
  have hr := t_ch_r hb (t_at b N i)
  have hN := h.2.2.2.1.2.1
  rw [t_atom_e]
  unfold b_X10_readAtom
  rw [e1, n_b2]
  generalize t_at b N i = j at *
  have hl := t_lt_r (t_ch b N j)
  have hnx : t_nx (t_ch b N j) = if t_ch b N j = -1 then -2 else t_ch b N j := rfl
  simp only [iI_lit, iI_neg]
  rw [n_within (by split at hnx <;> omega) (by omega) (by omega), n_bd, n_ib]
  by_cases cd : t_dg (t_ch b N j)
  · have cd1 := cd.1
    have cd2 := cd.2
    rw [if_neg (by omega)] at hnx
    rw [if_pos (by omega), if_pos cd]
    have g1 : j < (t_nm b N 4 j 0).1 := t_nm_lt (D := 3) hat.2 (by omega) cd (v := 0)
    have g2 := t_nm_p (b := b) (N := N) 4 (i := j) (v := 0) hat.2 (by omega)
    have g3 : (0 + 1 : Int) * 10 ^ 4 = 10000 := by decide
    rw [g3] at g2
    obtain ⟨r, s2, e2, f2, h2⟩ := u_number (D := 4) (lo := 0) (hi := 1000000) hb h1 (by omega) (by omega) (by omega)
    rw [haa] at h2
    have e2 : f_X3_number 7 (iI 4) (iI 0) (iI 1000000) s1 = some (r, s2) := e2
    generalize t_nm b N 4 j 0 = M at *
    rw [e2, n_b2, ok_some]
    by_cases c2 : t_dg (t_ch b N M.1)
    · rw [if_pos c2] at h2 ⊢
      exact ⟨f1.tr f2, _, h2⟩
    · rw [if_neg c2, if_neg (by omega), if_pos (by omega)] at h2
      rw [if_neg c2]
      exact ⟨f1.tr f2, h2.2, fun _ => h2.1⟩
  rw [if_neg (by split at hnx <;> omega), if_neg cd]
  refine ok_jnI (fun jn => ∀ s2, u_S 7 N b s2 j (-1) → u_F 7 s s2 → (sm = none ∨ ¬ t_ch b N j = 91) → k_OK (jn s2) (fun r => u_F 7 s r.2 ∧ u_R L N b (if ¬ t_lt (t_ch b N j) = -1 then .inr (j + 1, [(1, t_lt (t_ch b N j))], fun L => L (t_lt (t_ch b N j)).toNat) else if t_ch b N j = 91 then t_br sm b N j else .inl j) r)) ?_ ?_
  · intro s2 h2 f2 hh
    show k_OK (k_jn _ _) _
    simp only [n_jn]
    rw [n_ieq (by split at hnx <;> omega) (by omega)]
    have bad : t_lt (t_ch b N j) = -1 → k_OK (k_bd (f_X3_fail 7 s2) fun s90 => some (iI 0, s90)) (fun r => u_F 7 s r.2 ∧ u_R L N b (if ¬ t_lt (t_ch b N j) = -1 then .inr (j + 1, [(1, t_lt (t_ch b N j))], fun L => L (t_lt (t_ch b N j)).toNat)
      else if t_ch b N j = 91 then t_br sm b N j
      else .inl j) r) := fun q => by
      obtain ⟨s3, e3, h3, f3⟩ := u_fail hb h2
      rw [e3, n_bd, ok_some, if_neg (by omega)]
      rw [haa, t_fa_m] at h3
      refine ⟨f2.tr f3, ?_⟩
      by_cases q9 : t_ch b N j = 91
      · rw [if_pos q9]
        rcases hh with rfl | hh
        · exact ⟨_, h3⟩
        · exact absurd q9 hh
      · rw [if_neg q9]
        exact ⟨_, h3⟩
    by_cases cm : t_ch b N j = -1
    · rw [if_pos cm] at hnx
      rw [if_pos hnx, iI_sub, n_within (by omega) (by omega) (by omega), n_bd, n_ib, if_neg (by omega)]
      exact bad (by rw [cm]; rfl)
    · rw [if_neg cm] at hnx
      rw [if_neg (by omega), hnx, u_idx (by omega) (by omega), n_bd, show u_ix 2 (t_ch b N j) = t_lt (t_ch b N j) from rfl, iI_sub, n_within (by omega) (by omega) (by omega), n_bd, n_ib]
      by_cases c3 : t_lt (t_ch b N j) = -1
      · rw [if_neg (by omega)]
        exact bad c3
      · obtain ⟨s3, e3, h3, f3⟩ := u_pass h2
        rw [if_pos (by omega)] at h3
        rw [if_pos (by omega), e3, n_bd, n_gix (by omega) (by omega), iI_cl (by omega), ok_some, if_pos c3]
        refine ⟨f2.tr f3, h3, fun _ => ?_⟩
        show s3.1 11 _ = _
        rw [(f2.tr f3).2 11 _ (by omega)]
        exact hL _ (by omega)
  · intro jn hjn
    show k_OK (k_if _ _ _) _
    rw [n_ile (by omega) (by omega)]
    cases sm with
    | none =>
      have := hn rfl
      rw [if_pos (by omega)]
      exact hjn s1 h1 f1 (Or.inl rfl)
    | some g =>
      obtain ⟨g1, g2⟩ := hs g rfl
      obtain ⟨s2, e2, h2, f2⟩ := u_take (c := 91) hb h1 (by omega)
      rw [haa] at e2 h2
      rw [if_neg (by omega), e2, n_b2, n_ieq (by split <;> omega) (by omega)]
      by_cases c9 : t_ch b N j = 91
      · rw [if_pos c9] at h2 ⊢
        rw [if_neg (by omega), iI_add, ok_b2, if_neg (show ¬ ¬ t_lt (t_ch b N j) = -1 by rw [c9]; decide), if_pos c9]
        refine ok_mono (g2 s2 (j + 1) h2 (fun q hq => ((f1.tr f2).2 11 q (by omega)).trans (hL q hq))) ?_
        rintro ⟨r, s3⟩ ⟨f3, h3⟩
        dsimp only at f3 ⊢
        show k_OK _ (fun r => u_F 7 s r.2 ∧ u_R L N b (t_bd (g (j + 1)) (t_nd b N 93)) r)
        cases hg : g (j + 1) with
        | inl e =>
          rw [hg] at h3
          obtain ⟨i3, h3⟩ := h3
          obtain ⟨s4, e4, h4, f4⟩ := u_need (c := 93) hb h3 (by omega)
          rw [e4, n_bd, ok_some]
          rw [t_fa_e, ite_self] at h4
          exact ⟨((f1.tr f2).tr f3).tr f4, _, h4⟩
        | inr y =>
          rw [hg] at h3
          obtain ⟨h3, v3⟩ := h3
          obtain ⟨s4, e4, h4, f4⟩ := u_need (c := 93) hb h3 (by omega)
          rw [e4, n_bd, ok_some]
          refine ⟨((f1.tr f2).tr f3).tr f4, ?_⟩
          show u_R L N b (t_nd b N 93 y) _
          unfold t_nd
          rw [t_fa_m] at h4
          by_cases q : t_ch b N (t_at b N y.1) = 93
          · rw [if_pos q, if_pos q] at h4
            rw [if_pos q]
            exact ⟨h4, v3⟩
          · rw [if_neg q, if_neg q] at h4
            rw [if_neg q]
            exact ⟨_, h4⟩
      · rw [if_neg c9] at h2 ⊢
        rw [if_pos rfl]
        exact hjn s2 h2 (f1.tr f2) (Or.inr c9)
