/-! the rows' own numbers -/
def t_ok (c : Int × Int) : Prop := (0 ≤ c.1 ∧ c.1 ≤ 11) ∧ 0 ≤ c.2 ∧ c.2 ≤ 9999
def t_Y (x : t_R) : Prop := match x with
  | .inl _ => True
  | .inr y => ∀ c, c ∈ y.2.1 → t_ok c
def t_YG (p : Nat → t_R) : Prop := ∀ i, t_Y (p i)
theorem t_Y_bd {x : t_R} {k : t_V → t_R} (h : t_Y x) (hk : ∀ y : t_V, t_Y (.inr y) → t_Y (k y)) : t_Y (t_bd x k) := by
  cases x with
  | inl e => trivial
  | inr y => exact hk y h
theorem t_Y_op {x y : t_V} {o : Int} (hx : t_Y (.inr x)) (hy : t_Y (.inr y)) (ho : 0 ≤ o ∧ o ≤ 11) : t_Y (.inr (t_op o x y)) := fun c hc => by
  have hc : c ∈ x.2.1 ++ y.2.1 ++ [(o, 0)] := hc
  rcases List.mem_append.mp hc with hc | hc
  · rcases List.mem_append.mp hc with hc | hc
    · exact hx c hc
    · exact hy c hc
  · rw [List.mem_singleton.mp hc]
    exact ⟨ho, (by decide : (0 : Int) ≤ 0), (by decide : (0 : Int) ≤ 9999)⟩
theorem t_lp_Y {p : Nat → t_R} {b : Nat → Int} {N : Nat} {c1 o1 c2 o2 : Int} (hp : t_YG p) (h1 : 0 ≤ o1 ∧ o1 ≤ 11) (h2 : 0 ≤ o2 ∧ o2 ≤ 11) : ∀ (f : Nat) {x : t_V}, t_Y (.inr x) → t_Y (t_lp p b N c1 o1 c2 o2 f x)
  | 0, x, hx => hx
  | f + 1, x, hx => by
    rw [t_lp_s]
    by_cases q1 : t_ch b N (t_at b N x.1) = c1
    · rw [if_pos q1]
      exact t_Y_bd (hp _) (fun y hy => t_lp_Y hp h1 h2 f (t_Y_op hx hy h1))
    rw [if_neg q1]
    by_cases q2 : t_ch b N (t_at b N x.1) = c2
    · rw [if_pos q2]
      exact t_Y_bd (hp _) (fun y hy => t_lp_Y hp h1 h2 f (t_Y_op hx hy h2))
    rw [if_neg q2]
    exact hx
theorem t_chain_Y {p : Nat → t_R} {b : Nat → Int} {N : Nat} {c1 o1 c2 o2 : Int} (hp : t_YG p) (h1 : 0 ≤ o1 ∧ o1 ≤ 11) (h2 : 0 ≤ o2 ∧ o2 ≤ 11) : t_YG (t_chain p b N c1 o1 c2 o2) := fun i => t_Y_bd (hp i) (fun y hy => t_lp_Y hp h1 h2 200 hy)
theorem t_nd_Y {b : Nat → Int} {N : Nat} {c : Int} {y : t_V} (h : t_Y (.inr y)) : t_Y (t_nd b N c y) := by
  unfold t_nd
  by_cases q : t_ch b N (t_at b N y.1) = c
  · rw [if_pos q]
    exact h
  · rw [if_neg q]
    trivial
theorem t_nm_0 {b : Nat → Int} {N : Nat} : ∀ (D i : Nat) (v : Int), 0 ≤ v → 0 ≤ (t_nm b N D i v).2 ∧ (t_nm b N D i v).2 + 1 ≤ (v + 1) * 10 ^ D
  | 0, i, v, hv => by
    show 0 ≤ v ∧ v + 1 ≤ (v + 1) * 10 ^ 0
    rw [Int.pow_zero]
    omega
  | D + 1, i, v, hv => by
    have e : t_nm b N (D + 1) i v = if t_dg (t_ch b N i) then t_nm b N D (i + 1) (10 * v + t_ch b N i - 48) else (i, v) := rfl
    have h7 : (v + 1) * 10 ^ (D + 1) = ((v + 1) * 10) * 10 ^ D := by
      rw [Int.pow_succ, Int.mul_assoc, Int.mul_comm (10 ^ D)]
    have hp : (0 : Int) < 10 ^ D := Int.pow_pos (by decide)
    rw [e]
    by_cases c : t_dg (t_ch b N i)
    · have c1 := c.1
      have c2 := c.2
      rw [if_pos c]
      have ih := t_nm_0 (b := b) (N := N) D (i + 1) (10 * v + t_ch b N i - 48) (by omega)
      have h6 : (10 * v + t_ch b N i - 48 + 1) * 10 ^ D ≤ ((v + 1) * 10) * 10 ^ D := Int.mul_le_mul_of_nonneg_right (by omega) (by omega)
      exact ⟨ih.1, by omega⟩
    · rw [if_neg c]
      have h6 : (v + 1) * 10 * 1 ≤ ((v + 1) * 10) * 10 ^ D := Int.mul_le_mul_of_nonneg_left (by omega) (by omega)
      exact ⟨hv, by show v + 1 ≤ _; omega⟩
theorem t_atom_Y {sm : Option (Nat → t_R)} {b : Nat → Int} {N : Nat} (hs : ∀ g, sm = some g → t_YG g) : t_YG (t_atom sm b N) := fun i => by
  rw [t_atom_e]
  generalize t_at b N i = j
  by_cases c1 : t_dg (t_ch b N j)
  · rw [if_pos c1]
    by_cases c2 : t_dg (t_ch b N (t_nm b N 4 j 0).1)
    · rw [if_pos c2]
      trivial
    · rw [if_neg c2]
      intro c hc
      have hc : c ∈ [(0, (t_nm b N 4 j 0).2)] := hc
      have h := t_nm_0 (b := b) (N := N) 4 j 0 (Int.le_refl 0)
      have h3 : (0 + 1 : Int) * 10 ^ 4 = 10000 := by decide
      rw [h3] at h
      rw [List.mem_singleton.mp hc]
      exact ⟨⟨(by decide : (0 : Int) ≤ 0), (by decide : (0 : Int) ≤ 11)⟩, h.1, by show (t_nm b N 4 j 0).2 ≤ 9999; omega⟩
  rw [if_neg c1]
  have hl := t_lt_r (t_ch b N j)
  by_cases c2 : t_lt (t_ch b N j) = -1
  · rw [if_neg (by omega)]
    by_cases c3 : t_ch b N j = 91
    · rw [if_pos c3]
      cases sm with
      | none => trivial
      | some g => exact t_Y_bd (hs g rfl _) (fun y hy => t_nd_Y hy)
    · rw [if_neg c3]
      trivial
  · rw [if_pos c2]
    intro c hc
    have hc : c ∈ [(1, t_lt (t_ch b N j))] := hc
    rw [List.mem_singleton.mp hc]
    exact ⟨⟨(by decide : (0 : Int) ≤ 1), (by decide : (1 : Int) ≤ 11)⟩, by show 0 ≤ t_lt (t_ch b N j); omega, by show t_lt (t_ch b N j) ≤ 9999; omega⟩
theorem t_sum_Y {b : Nat → Int} {N : Nat} : ∀ k, t_YG (t_sum b N k)
  | 0 => t_chain_Y (t_chain_Y (t_atom_Y (fun g q => by cases q)) (by decide) (by decide)) (by decide) (by decide)
  | k + 1 => t_chain_Y (t_chain_Y (t_atom_Y (fun g q => by cases q; exact t_sum_Y k)) (by decide) (by decide)) (by decide) (by decide)
theorem t_cmp_Y {sm : Nat → t_R} {b : Nat → Int} {N : Nat} {x : t_V} (hs : t_YG sm) (hx : t_Y (.inr x)) : t_Y (t_cmp sm b N x) := by
  have hr := t_cs_r (t_ch b N (t_at b N x.1))
  unfold t_cmp
  by_cases q : t_cs (t_ch b N (t_at b N x.1)) = -1
  · rw [if_pos q]
    trivial
  · rw [if_neg q]
    exact t_Y_bd (hs _) (fun y hy => t_Y_op hx hy (by omega))
theorem t_cnd_Y {u : Nat → t_R} {b : Nat → Int} {N : Nat} (hu : t_YG u) : t_YG (t_cnd u b N) := fun i => by
  have ha : t_YG (fun i => t_bd (u i) (t_and u b N)) := fun i => t_Y_bd (hu i) (fun y hy => t_lp_Y hu (by decide) (by decide) 200 hy)
  exact t_Y_bd (ha i) (fun y hy => t_lp_Y ha (by decide) (by decide) 200 hy)
theorem t_un_Y {un : Option (Nat → t_R)} {sm : Nat → t_R} {b : Nat → Int} {N : Nat} (hs : t_YG sm) (hu : ∀ u, un = some u → t_YG u) : t_YG (t_un un sm b N) := fun i => by
  cases un with
  | none =>
    rw [t_un_0]
    by_cases c1 : t_ch b N (t_at b N i) = 33
    · rw [if_pos c1]
      trivial
    rw [if_neg c1]
    by_cases c2 : t_ch b N (t_at b N i) = 40
    · rw [if_pos c2]
      trivial
    rw [if_neg c2]
    exact t_Y_bd (hs i) (fun y hy => t_cmp_Y hs hy)
  | some u =>
    have u1 := hu u rfl
    rw [t_un_1]
    by_cases c1 : t_ch b N (t_at b N i) = 33
    · rw [if_pos c1]
      refine t_Y_bd (u1 _) (fun y hy => fun c hc => ?_)
      have hc : c ∈ y.2.1 ++ [(9, 0)] := hc
      rcases List.mem_append.mp hc with hc | hc
      · exact hy c hc
      · rw [List.mem_singleton.mp hc]
        exact ⟨by decide, by decide, (by decide : (0 : Int) ≤ 9999)⟩
    rw [if_neg c1]
    by_cases c2 : t_ch b N (t_at b N i) = 40
    · rw [if_pos c2]
      exact t_Y_bd (t_cnd_Y u1 _) (fun y hy => t_nd_Y hy)
    rw [if_neg c2]
    exact t_Y_bd (hs i) (fun y hy => t_cmp_Y hs hy)
theorem t_unit_Y {b : Nat → Int} {N : Nat} : ∀ k, t_YG (t_unit b N k)
  | 0 => t_un_Y (t_sum_Y 0) (fun u q => by cases q)
  | k + 1 => t_un_Y (t_sum_Y (k + 1)) (fun u q => by cases q; exact t_unit_Y k)
/-- what a clause that was read gives -/
def t_RC (c : t_C) : Prop := (∀ x, c.1 = some x → t_X 20 (.inr x) ∧ t_Y (.inr x)) ∧ t_X 20 (.inr c.2) ∧ t_Y (.inr c.2)
theorem t_pr_RC {b : Nat → Int} {N i : Nat} {co : Option t_V} {c : t_C} (hco : ∀ x, co = some x → t_X 20 (.inr x) ∧ t_Y (.inr x)) (h : t_pr (t_sum b N 6 i) co = .inr c) : t_RC c := by
  have h1 := t_X.mo (t_sum_X (b := b) (N := N) 6 i) (show 3 + 2 * 6 ≤ 20 by omega)
  have h2 := t_sum_Y (b := b) (N := N) 6 i
  cases hq : t_sum b N 6 i with
  | inl e =>
    rw [hq] at h
    cases h
  | inr y =>
    rw [hq] at h h1 h2
    cases h
    exact ⟨hco, h1, h2⟩
theorem t_cl_RC {b : Nat → Int} {N i : Nat} {c : t_C} (h : t_cl b N i = .inr c) : t_RC c := by
  unfold t_cl at h
  cases hq : t_bd (t_nd b N 121 (i, [], fun _ => 0)) (t_nd b N 58) with
  | inl e =>
    rw [hq] at h
    cases h
  | inr x =>
    rw [hq] at h
    have h : t_clB b N x.1 = .inr c := h
    rw [t_clB_e] at h
    by_cases q : t_ch b N (t_at b N x.1) = 33 ∨ t_ch b N (t_at b N x.1) = 40 ∨ t_tst b N x.1 = true
    · rw [if_pos q] at h
      have h1 : t_X 20 (t_bd (t_cnd (t_unit b N 6) b N x.1) (t_nd b N 63)) := t_X_bd (t_X.mo (t_cnd_X (t_unit_X 6) x.1) (by omega)) (fun y hy => t_nd_X hy)
      have h2 : t_Y (t_bd (t_cnd (t_unit b N 6) b N x.1) (t_nd b N 63)) := t_Y_bd (t_cnd_Y (t_unit_Y 6) x.1) (fun y hy => t_nd_Y hy)
      cases hq2 : t_bd (t_cnd (t_unit b N 6) b N x.1) (t_nd b N 63) with
      | inl e =>
        rw [hq2] at h
        cases h
      | inr y =>
        rw [hq2] at h h1 h2
        exact t_pr_RC (fun x hx => by cases hx; exact ⟨h1, h2⟩) h
    · rw [if_neg q] at h
      exact t_pr_RC (fun x hx => by cases hx) h
theorem t_cls_RC {b : Nat → Int} {N : Nat} : ∀ (f : Nat) {i : Nat} {P : List t_C}, t_cls b N f i = .inr P → ∀ c, c ∈ P → t_RC c
  | 0, i, P, h, c, hc => by cases h
  | f + 1, i, P, h, c, hc => by
    rw [t_cls_s] at h
    cases hq : t_cl b N i with
    | inl e =>
      rw [hq] at h
      cases h
    | inr c0 =>
      rw [hq] at h
      have h0 := t_cl_RC hq
      have h : (if t_ch b N (t_at b N c0.2.1) = 59 then t_ap [c0] (t_cls b N f (t_at b N c0.2.1 + 1)) else if t_ch b N (t_at b N c0.2.1) = -1 then .inr [c0] else .inl (t_at b N c0.2.1)) = (.inr P : Sum Nat (List t_C)) := h
      by_cases d1 : t_ch b N (t_at b N c0.2.1) = 59
      · rw [if_pos d1] at h
        cases hq2 : t_cls b N f (t_at b N c0.2.1 + 1) with
        | inl e =>
          rw [hq2] at h
          cases h
        | inr P' =>
          rw [hq2] at h
          have h : (.inr ([c0] ++ P') : Sum Nat (List t_C)) = .inr P := h
          cases h
          rcases List.mem_append.mp hc with hc | hc
          · rw [List.mem_singleton.mp hc]
            exact h0
          · exact t_cls_RC f hq2 c hc
      · rw [if_neg d1] at h
        by_cases d2 : t_ch b N (t_at b N c0.2.1) = -1
        · rw [if_pos d2] at h
          cases h
          rw [List.mem_singleton.mp hc]
          exact h0
        · rw [if_neg d2] at h
          cases h
