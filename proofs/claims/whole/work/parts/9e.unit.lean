/-! the class's conditions -/
def t_Z (p : Nat → t_R) : Prop := ∀ i y, p i = .inr y → ∀ L, y.2.2 L = 0 ∨ y.2.2 L = 1
theorem rp_wk_Z {c : Int} (hc : 6 ≤ c) (a b : Int) : rp_wk c a b = 0 ∨ rp_wk c a b = 1 := by
  unfold rp_wk
  rw [if_neg (by omega), if_neg (by omega), if_neg (by omega), if_neg (by omega)]
  repeat' split
  all_goals first | exact Or.inl rfl | exact Or.inr rfl
theorem t_lp_Z {p : Nat → t_R} {b : Nat → Int} {N : Nat} {c1 o1 c2 o2 : Int} (h1 : 6 ≤ o1) (h2 : 6 ≤ o2) : ∀ (f : Nat) {x y : t_V}, (∀ L, x.2.2 L = 0 ∨ x.2.2 L = 1) → t_lp p b N c1 o1 c2 o2 f x = .inr y → ∀ L, y.2.2 L = 0 ∨ y.2.2 L = 1
  | 0, x, y, hx, e => by
    have e : (.inr x : t_R) = .inr y := e
    cases e
    exact hx
  | f + 1, x, y, hx, e => by
    rw [t_lp_s] at e
    have go : ∀ o : Int, 6 ≤ o → t_bd (p (t_at b N x.1 + 1)) (fun y => t_lp p b N c1 o1 c2 o2 f (t_op o x y)) = .inr y → ∀ L, y.2.2 L = 0 ∨ y.2.2 L = 1 := fun o ho e => by
      cases hq : p (t_at b N x.1 + 1) with
      | inl k =>
        rw [hq] at e
        cases e
      | inr w =>
        rw [hq] at e
        exact t_lp_Z h1 h2 f (x := t_op o x w) (fun L => rp_wk_Z ho _ _) e
    by_cases q1 : t_ch b N (t_at b N x.1) = c1
    · rw [if_pos q1] at e
      exact go o1 h1 e
    rw [if_neg q1] at e
    by_cases q2 : t_ch b N (t_at b N x.1) = c2
    · rw [if_pos q2] at e
      exact go o2 h2 e
    rw [if_neg q2] at e
    cases e
    exact hx
theorem t_bd_Z {p : Nat → t_R} {k : t_V → t_R} (hp : t_Z p) (hk : ∀ (x y : t_V), (∀ L, x.2.2 L = 0 ∨ x.2.2 L = 1) → k x = .inr y → ∀ L, y.2.2 L = 0 ∨ y.2.2 L = 1) : t_Z (fun i => t_bd (p i) k) := by
  intro i y e
  have e : t_bd (p i) k = .inr y := e
  cases hq : p i with
  | inl k =>
    rw [hq] at e
    cases e
  | inr w =>
    rw [hq] at e
    exact hk w y (hp i w hq) e
theorem t_cnd_Z {u : Nat → t_R} {b : Nat → Int} {N : Nat} (hu : t_Z u) : t_Z (t_cnd u b N) := t_bd_Z (p := fun i => t_bd (u i) (t_and u b N)) (t_bd_Z hu (fun _ _ hx e => t_lp_Z (by decide) (by decide) 200 hx e)) (fun _ _ hx e => t_lp_Z (by decide) (by decide) 200 hx e)
theorem t_and_G {u : Nat → t_R} {b : Nat → Int} {N : Nat} (hu : t_G N u) : t_G N (fun i => t_bd (u i) (t_and u b N)) := fun i hi => t_W_bd (hu i hi) (fun _ hy => t_lp_G hu (by decide) (by decide) 200 hy)
theorem t_cnd_G {u : Nat → t_R} {b : Nat → Int} {N : Nat} (hu : t_G N u) : t_G N (t_cnd u b N) := fun i hi => t_W_bd (t_and_G hu i hi) (fun _ hy => t_lp_G (t_and_G hu) (by decide) (by decide) 200 hy)
theorem t_un_0 {sm : Nat → t_R} {b : Nat → Int} {N i : Nat} : t_un none sm b N i = if t_ch b N (t_at b N i) = 33 then .inl (t_at b N i) else if t_ch b N (t_at b N i) = 40 then .inl (t_at b N i) else t_bd (sm i) (t_cmp sm b N) := rfl
def t_not (x : t_V) : t_R := .inr (x.1, x.2.1 ++ [(9, 0)], fun L => 1 - x.2.2 L)
theorem t_un_1 {u sm : Nat → t_R} {b : Nat → Int} {N i : Nat} : t_un (some u) sm b N i = if t_ch b N (t_at b N i) = 33 then t_bd (u (t_at b N i + 1)) t_not else if t_ch b N (t_at b N i) = 40 then t_bd (t_cnd u b N (t_at b N i + 1)) (t_nd b N 41) else t_bd (sm i) (t_cmp sm b N) := rfl
theorem t_cs_r (c : Int) : t_cs c = -1 ∨ 6 ≤ t_cs c ∧ t_cs c ≤ 8 := by
  unfold t_cs
  repeat' split
  all_goals decide
theorem t_nd_i {b : Nat → Int} {N : Nat} {c : Int} {y z : t_V} (h : t_nd b N c y = .inr z) : z.2 = y.2 := by
  unfold t_nd at h
  by_cases q : t_ch b N (t_at b N y.1) = c
  · rw [if_pos q] at h
    cases h
    rfl
  · rw [if_neg q] at h
    cases h
theorem t_bd_i {x : t_R} {k : t_V → t_R} {y : t_V} (h : t_bd x k = .inr y) : ∃ w, x = .inr w ∧ k w = .inr y := by
  cases x with
  | inl e => cases h
  | inr w => exact ⟨w, rfl, h⟩
theorem t_cmp_Z {sm : Nat → t_R} {b : Nat → Int} {N : Nat} {x y : t_V} (h : t_cmp sm b N x = .inr y) (L : Nat → Int) : y.2.2 L = 0 ∨ y.2.2 L = 1 := by
  unfold t_cmp at h
  have hr := t_cs_r (t_ch b N (t_at b N x.1))
  by_cases q : t_cs (t_ch b N (t_at b N x.1)) = -1
  · rw [if_pos q] at h
    cases h
  · rw [if_neg q] at h
    obtain ⟨w, -, h2⟩ := t_bd_i h
    cases h2
    exact rp_wk_Z (by omega) _ _
theorem t_un_Z {un : Option (Nat → t_R)} {sm : Nat → t_R} {b : Nat → Int} {N : Nat} (hu : ∀ u, un = some u → t_Z u) : t_Z (t_un un sm b N) := by
  intro i y e L
  cases un with
  | none =>
    rw [t_un_0] at e
    by_cases c1 : t_ch b N (t_at b N i) = 33
    · rw [if_pos c1] at e
      cases e
    rw [if_neg c1] at e
    by_cases c2 : t_ch b N (t_at b N i) = 40
    · rw [if_pos c2] at e
      cases e
    rw [if_neg c2] at e
    obtain ⟨w, -, h2⟩ := t_bd_i e
    exact t_cmp_Z h2 L
  | some u =>
    rw [t_un_1] at e
    by_cases c1 : t_ch b N (t_at b N i) = 33
    · rw [if_pos c1] at e
      obtain ⟨w, h1, h2⟩ := t_bd_i e
      cases h2
      have := hu u rfl _ _ h1 L
      show 1 - w.2.2 L = 0 ∨ 1 - w.2.2 L = 1
      omega
    rw [if_neg c1] at e
    by_cases c2 : t_ch b N (t_at b N i) = 40
    · rw [if_pos c2] at e
      obtain ⟨w, h1, h2⟩ := t_bd_i e
      rw [t_nd_i h2]
      exact t_cnd_Z (hu u rfl) _ _ h1 L
    rw [if_neg c2] at e
    obtain ⟨w, -, h2⟩ := t_bd_i e
    exact t_cmp_Z h2 L
theorem t_ch_lt {b : Nat → Int} {N i : Nat} (h : ¬ t_ch b N i = -1) : i < N := by
  by_cases r : i < N
  · exact r
  · exact absurd (t_ch_N (by omega)) h
theorem t_cmp_W {sm : Nat → t_R} {b : Nat → Int} {N lo : Nat} {x : t_V} (hs : t_G N sm) (hx : t_W lo N (.inr x)) : t_W lo N (t_cmp sm b N x) := by
  have hp := t_at_p (b := b) hx.1.2
  have hl := hx.1.1
  unfold t_cmp
  by_cases q : t_cs (t_ch b N (t_at b N x.1)) = -1
  · rw [if_pos q]
    exact hp.2
  · rw [if_neg q]
    have hlt := t_ch_lt (b := b) (N := N) (i := t_at b N x.1) (fun z => q (by rw [z]; rfl))
    exact t_W_bd (hs _ (show t_at b N x.1 + 1 ≤ N by omega)) (fun y hy => ⟨⟨by have := hy.1.1; show lo ≤ y.1; omega, hy.1.2⟩, fun L _ => rp_wk_b _ _ _⟩)
theorem t_un_G {un : Option (Nat → t_R)} {sm : Nat → t_R} {b : Nat → Int} {N : Nat} (hs : t_G N sm) (hu : ∀ u, un = some u → t_G N u ∧ t_Z u) : t_G N (t_un un sm b N) := by
  intro i hi
  have hp := t_at_p (b := b) hi
  cases un with
  | none =>
    rw [t_un_0]
    by_cases c1 : t_ch b N (t_at b N i) = 33
    · rw [if_pos c1]
      exact hp.2
    rw [if_neg c1]
    by_cases c2 : t_ch b N (t_at b N i) = 40
    · rw [if_pos c2]
      exact hp.2
    rw [if_neg c2]
    exact t_W_bd (hs i hi) (fun y hy => t_cmp_W hs hy)
  | some u =>
    obtain ⟨u1, u2⟩ := hu u rfl
    rw [t_un_1]
    by_cases c1 : t_ch b N (t_at b N i) = 33
    · have hlt := t_ch_lt (b := b) (N := N) (i := t_at b N i) (by omega)
      rw [if_pos c1]
      have hg := u1 (t_at b N i + 1) (by omega)
      cases hq : u (t_at b N i + 1) with
      | inl e =>
        rw [hq] at hg
        exact hg
      | inr y =>
        rw [hq] at hg
        have := hg.1.1
        refine ⟨⟨by show i + 1 ≤ y.1; omega, hg.1.2⟩, fun L _ => ?_⟩
        have := u2 _ _ hq L
        show -1000000 ≤ 1 - y.2.2 L ∧ 1 - y.2.2 L ≤ 1000000
        omega
    rw [if_neg c1]
    by_cases c2 : t_ch b N (t_at b N i) = 40
    · have hlt := t_ch_lt (b := b) (N := N) (i := t_at b N i) (by omega)
      rw [if_pos c2]
      exact (t_W_bd (t_cnd_G u1 (t_at b N i + 1) (by omega)) (fun y hy => t_nd_W (by omega) hy)).mo (by omega)
    rw [if_neg c2]
    exact t_W_bd (hs i hi) (fun y hy => t_cmp_W hs hy)
theorem t_unit_Z {b : Nat → Int} {N : Nat} : ∀ k, t_Z (t_unit b N k)
  | 0 => t_un_Z (fun u q => by cases q)
  | k + 1 => t_un_Z (fun u q => by cases q; exact t_unit_Z k)
theorem t_unit_G {b : Nat → Int} {N : Nat} (hb : t_by b N) : ∀ k, t_G N (t_unit b N k)
  | 0 => t_un_G (t_sum_G hb 0) (fun u q => by cases q)
  | k + 1 => t_un_G (t_sum_G hb (k + 1)) (fun u q => by cases q; exact ⟨t_unit_G hb k, t_unit_Z k⟩)
theorem t_atom_at {sm : Option (Nat → t_R)} {b : Nat → Int} {N i : Nat} (hi : i ≤ N) : t_atom sm b N (t_at b N i) = t_atom sm b N i := by
  rw [t_atom_e, t_atom_e, t_at_at hi]
theorem t_chain_at {p : Nat → t_R} {b : Nat → Int} {N i : Nat} {c1 o1 c2 o2 : Int} (h : p (t_at b N i) = p i) : t_chain p b N c1 o1 c2 o2 (t_at b N i) = t_chain p b N c1 o1 c2 o2 i := by
  unfold t_chain
  rw [h]
theorem t_sum_e {b : Nat → Int} {N : Nat} : ∀ k, ∃ sm, t_sum b N k = t_sumO sm b N
  | 0 => ⟨none, rfl⟩
  | k + 1 => ⟨some (t_sum b N k), rfl⟩
theorem t_sum_at {b : Nat → Int} {N i k : Nat} (hi : i ≤ N) : t_sum b N k (t_at b N i) = t_sum b N k i := by
  obtain ⟨sm, e⟩ := t_sum_e (b := b) (N := N) k
  rw [e]
  exact t_chain_at (t_chain_at (t_atom_at hi))
theorem t_sum_bad {b : Nat → Int} {N i k : Nat} (h : t_ch b N (t_at b N i) = 33 ∨ t_ch b N (t_at b N i) = 40) : t_sum b N k i = .inl (t_at b N i) := by
  obtain ⟨sm, e⟩ := t_sum_e (b := b) (N := N) k
  rw [e]
  have ea : t_atom sm b N i = .inl (t_at b N i) := by
    rw [t_atom_e]
    rcases h with h | h
    · rw [h, if_neg (by omega), if_neg (by decide), if_neg (by decide)]
    · rw [h, if_neg (by omega), if_neg (by decide), if_neg (by decide)]
  unfold t_sumO t_chain
  rw [ea]
  rfl
