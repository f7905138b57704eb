/-! what the reference's rows reckon -/
def rp_l (L : Nat → Int) : List (Int × Int) → List Int → Option (List Int)
  | [], st => some st
  | c :: r, st => match rp_st c.1 c.2 L st with
    | none => none
    | some st' => rp_l L r st'
theorem rp_l_app {L : Nat → Int} : ∀ {xs ys : List (Int × Int)} {st st' : List Int}, rp_l L xs st = some st' → rp_l L (xs ++ ys) st = rp_l L ys st'
  | [], ys, st, st', h => by
    have h : some st = some st' := h
    cases h
    rfl
  | c :: xs, ys, st, st', h => by
    have h : (match rp_st c.1 c.2 L st with
      | none => none
      | some st' => rp_l L xs st') = some st' := h
    show (match rp_st c.1 c.2 L st with
      | none => none
      | some st' => rp_l L (xs ++ ys) st') = _
    cases hq : rp_st c.1 c.2 L st with
    | none =>
      rw [hq] at h
      cases h
    | some s1 =>
      rw [hq] at h
      exact rp_l_app h
theorem rp_run_l {cd vl : Nat → Int} {L : Nat → Int} : ∀ (ys : List (Int × Int)) (a : Nat) (st : List Int), (∀ j c, ys[j]? = some c → cd (a + j) = c.1 ∧ vl (a + j) = c.2) → rp_run cd vl L a ys.length st = rp_l L ys st
  | [], a, st, h => rfl
  | c :: r, a, st, h => by
    obtain ⟨h1, h2⟩ := h 0 c rfl
    show (match rp_st (cd a) (vl a) L st with
      | none => none
      | some st' => rp_run cd vl L (a + 1) r.length st') = (match rp_st c.1 c.2 L st with
      | none => none
      | some st' => rp_l L r st')
    rw [show cd a = c.1 from h1, show vl a = c.2 from h2]
    cases rp_st c.1 c.2 L st with
    | none => rfl
    | some s1 => exact rp_run_l r (a + 1) s1 (fun j c' hj => by
        rw [show a + 1 + j = a + (j + 1) by omega]
        exact h (j + 1) c' hj)
def t_X (B : Nat) (x : t_R) : Prop := match x with
  | .inl _ => True
  | .inr y => ∀ L st, st.length + B ≤ 80 → rp_l L y.2.1 st = some (y.2.2 L :: st)
def t_XG (B : Nat) (p : Nat → t_R) : Prop := ∀ i, t_X B (p i)
theorem t_X.mo {B B' : Nat} {x : t_R} (h : t_X B x) (hB : B ≤ B') : t_X B' x := by
  cases x with
  | inl e => trivial
  | inr y => exact fun L st hs => h L st (by omega)
theorem t_X_bd {B B' : Nat} {x : t_R} {k : t_V → t_R} (h : t_X B x) (hk : ∀ y : t_V, t_X B (.inr y) → t_X B' (k y)) : t_X B' (t_bd x k) := by
  cases x with
  | inl e => trivial
  | inr y => exact hk y h
theorem rp_st_op {o a b : Int} {L : Nat → Int} {st : List Int} (ho : 2 ≤ o ∧ o ≤ 11 ∧ ¬ o = 9) : rp_st o 0 L (b :: a :: st) = some (rp_wk o a b :: st) := by
  unfold rp_st
  rw [if_neg (by omega), if_neg (by omega), if_neg (by omega)]
  exact if_pos (by omega)
theorem t_X_op {B : Nat} {x y : t_V} {o : Int} (hx : t_X (B + 1) (.inr x)) (hy : t_X B (.inr y)) (ho : 2 ≤ o ∧ o ≤ 11 ∧ ¬ o = 9) : t_X (B + 1) (.inr (t_op o x y)) := fun L st hs => by
  show rp_l L (x.2.1 ++ y.2.1 ++ [(o, 0)]) st = some (rp_wk o (x.2.2 L) (y.2.2 L) :: st)
  rw [List.append_assoc, rp_l_app (hx L st hs), rp_l_app (hy L (x.2.2 L :: st) (by
    show st.length + 1 + B ≤ 80
    omega))]
  show (match rp_st o 0 L (y.2.2 L :: x.2.2 L :: st) with
    | none => none
    | some st' => rp_l L [] st') = _
  rw [rp_st_op ho]
  rfl
theorem t_lp_X {p : Nat → t_R} {b : Nat → Int} {N B : Nat} {c1 o1 c2 o2 : Int} (hp : t_XG B p) (h1 : 2 ≤ o1 ∧ o1 ≤ 11 ∧ ¬ o1 = 9) (h2 : 2 ≤ o2 ∧ o2 ≤ 11 ∧ ¬ o2 = 9) : ∀ (f : Nat) {x : t_V}, t_X (B + 1) (.inr x) → t_X (B + 1) (t_lp p b N c1 o1 c2 o2 f x)
  | 0, x, hx => hx
  | f + 1, x, hx => by
    rw [t_lp_s]
    by_cases q1 : t_ch b N (t_at b N x.1) = c1
    · rw [if_pos q1]
      exact t_X_bd (hp _) (fun y hy => t_lp_X hp h1 h2 f (t_X_op hx hy h1))
    rw [if_neg q1]
    by_cases q2 : t_ch b N (t_at b N x.1) = c2
    · rw [if_pos q2]
      exact t_X_bd (hp _) (fun y hy => t_lp_X hp h1 h2 f (t_X_op hx hy h2))
    rw [if_neg q2]
    exact hx
theorem t_chain_X {p : Nat → t_R} {b : Nat → Int} {N B : Nat} {c1 o1 c2 o2 : Int} (hp : t_XG B p) (h1 : 2 ≤ o1 ∧ o1 ≤ 11 ∧ ¬ o1 = 9) (h2 : 2 ≤ o2 ∧ o2 ≤ 11 ∧ ¬ o2 = 9) : t_XG (B + 1) (t_chain p b N c1 o1 c2 o2) := fun i => t_X_bd (hp i) (fun y hy => t_lp_X hp h1 h2 200 (t_X.mo hy (by omega)))
theorem t_nd_X {B : Nat} {b : Nat → Int} {N : Nat} {c : Int} {y : t_V} (h : t_X B (.inr y)) : t_X B (t_nd b N c y) := by
  unfold t_nd
  by_cases q : t_ch b N (t_at b N y.1) = c
  · rw [if_pos q]
    exact h
  · rw [if_neg q]
    trivial
theorem t_atom_X {sm : Option (Nat → t_R)} {b : Nat → Int} {N B : Nat} (hB : 1 ≤ B) (hs : ∀ g, sm = some g → t_XG B g) : t_XG B (t_atom sm b N) := fun i => by
  rw [t_atom_e]
  generalize t_at b N i = j
  by_cases c1 : t_dg (t_ch b N j)
  · rw [if_pos c1]
    by_cases c2 : t_dg (t_ch b N (t_nm b N 4 j 0).1)
    · rw [if_pos c2]
      trivial
    · rw [if_neg c2]
      intro L st hst
      show (match rp_st 0 (t_nm b N 4 j 0).2 L st with
        | none => none
        | some st' => rp_l L [] st') = some ((t_nm b N 4 j 0).2 :: st)
      rw [show rp_st 0 (t_nm b N 4 j 0).2 L st = some ((t_nm b N 4 j 0).2 :: st) from (if_pos rfl).trans (if_pos (by omega))]
      rfl
  rw [if_neg c1]
  have hl := t_lt_r (t_ch b N j)
  by_cases c2 : t_lt (t_ch b N j) = -1
  · rw [if_neg (by omega)]
    by_cases c3 : t_ch b N j = 91
    · rw [if_pos c3]
      cases sm with
      | none => trivial
      | some g => exact t_X_bd (hs g rfl _) (fun y hy => t_nd_X hy)
    · rw [if_neg c3]
      trivial
  · rw [if_pos c2]
    intro L st hst
    show (match rp_st 1 (t_lt (t_ch b N j)) L st with
      | none => none
      | some st' => rp_l L [] st') = some (L (t_lt (t_ch b N j)).toNat :: st)
    rw [show rp_st 1 (t_lt (t_ch b N j)) L st = some (L (t_lt (t_ch b N j)).toNat :: st) from (if_neg (by decide)).trans ((if_pos rfl).trans (if_pos (by omega)))]
    rfl
theorem t_sum_X {b : Nat → Int} {N : Nat} : ∀ k, t_XG (3 + 2 * k) (t_sum b N k)
  | 0 => t_chain_X (B := 2) (t_chain_X (B := 1) (t_atom_X (by omega) (fun g q => by cases q)) (by decide) (by decide)) (by decide) (by decide)
  | k + 1 => fun i => t_X.mo (t_chain_X (B := 3 + 2 * k + 1) (t_chain_X (B := 3 + 2 * k) (t_atom_X (by omega) (fun g q => by cases q; exact t_sum_X k)) (by decide) (by decide)) (by decide) (by decide) i) (by omega)
theorem t_cmp_X {sm : Nat → t_R} {b : Nat → Int} {N B : Nat} {x : t_V} (hs : t_XG B sm) (hx : t_X B (.inr x)) : t_X (B + 1) (t_cmp sm b N x) := by
  have hr := t_cs_r (t_ch b N (t_at b N x.1))
  unfold t_cmp
  by_cases q : t_cs (t_ch b N (t_at b N x.1)) = -1
  · rw [if_pos q]
    trivial
  · rw [if_neg q]
    exact t_X_bd (hs _) (fun y hy => t_X_op (t_X.mo hx (by omega)) hy (by omega))
theorem t_cnd_X {u : Nat → t_R} {b : Nat → Int} {N B : Nat} (hu : t_XG B u) : t_XG (B + 2) (t_cnd u b N) := fun i => by
  have ha : t_XG (B + 1) (fun i => t_bd (u i) (t_and u b N)) := fun i => t_X_bd (hu i) (fun y hy => t_lp_X hu (by decide) (by decide) 200 (t_X.mo hy (by omega)))
  exact t_X_bd (ha i) (fun y hy => t_lp_X (B := B + 1) ha (by decide) (by decide) 200 (t_X.mo hy (by omega)))
theorem t_un_X {un : Option (Nat → t_R)} {sm : Nat → t_R} {b : Nat → Int} {N B : Nat} (hs : t_XG (B + 1) sm) (hu : ∀ u, un = some u → t_XG B u ∧ t_Z u) : t_XG (B + 2) (t_un un sm b N) := fun i => by
  cases un with
  | none =>
    rw [t_un_0]
    by_cases c1 : t_ch b N (t_at b N i) = 33
    · rw [if_pos c1]
      trivial
    rw [if_neg c1]
    by_cases c2 : t_ch b N (t_at b N i) = 40
    · rw [if_pos c2]
      trivial
    rw [if_neg c2]
    exact t_X_bd (hs i) (fun y hy => t_cmp_X hs hy)
  | some u =>
    obtain ⟨u1, u2⟩ := hu u rfl
    rw [t_un_1]
    by_cases c1 : t_ch b N (t_at b N i) = 33
    · rw [if_pos c1]
      have hX := u1 (t_at b N i + 1)
      cases hq : u (t_at b N i + 1) with
      | inl e => trivial
      | inr y =>
        rw [hq] at hX
        intro L st hst
        have hz := u2 _ _ hq L
        show rp_l L (y.2.1 ++ [(9, 0)]) st = some ((1 - y.2.2 L) :: st)
        rw [rp_l_app (hX L st (by omega))]
        show (match rp_st 9 0 L (y.2.2 L :: st) with
          | none => none
          | some st' => rp_l L [] st') = _
        rw [show rp_st 9 0 L (y.2.2 L :: st) = some ((1 - y.2.2 L) :: st) from (if_neg (by decide)).trans ((if_neg (by decide)).trans ((if_pos rfl).trans (if_pos (by omega))))]
        rfl
    rw [if_neg c1]
    by_cases c2 : t_ch b N (t_at b N i) = 40
    · rw [if_pos c2]
      exact t_X_bd (t_cnd_X u1 _) (fun y hy => t_nd_X hy)
    rw [if_neg c2]
    exact t_X_bd (hs i) (fun y hy => t_cmp_X hs hy)
theorem t_unit_X {b : Nat → Int} {N : Nat} : ∀ k, t_XG (4 + 2 * k) (t_unit b N k)
  | 0 => t_un_X (B := 2) (t_sum_X 0) (fun u q => by cases q)
  | k + 1 => fun i => t_X.mo (t_un_X (B := 4 + 2 * k) (fun i => t_X.mo (t_sum_X (k + 1) i) (by omega)) (fun u q => by cases q; exact ⟨t_unit_X k, t_unit_Z k⟩) i) (by omega)
