/-! a lake's text, as the document says it -/
def l_ch (u : Nat) : Int := if u = 0 then 112 else 98
def l_n (u : Nat) : Nat := if u = 0 then 4 else 2
def l_lo (u : Nat) (x : Int) : Int := if u = 0 then 0 else if x = 0 then 1 else 0
def l_hi (u : Nat) (x : Int) : Int := if u = 0 then (if x = 0 then 9 else if x = 3 then 99 else 3) else if x = 0 then 4 else 99
def l_us (u k : Nat) : Int := if u = 0 then (if k = 0 then 1 else if k = 3 then 10 else 0) else if k = 0 then 2 else 0
abbrev l_R := Sum Nat (Nat × (Nat → Int))
/-- a number, read from j on: M is where it ends, what it is -/
def l_nm (b : Nat → Int) (N : Nat) (lo hi : Int) (M : Nat × Int) (j : Nat) : Sum Nat (Nat × Int) := if t_dg (t_ch b N M.1) then .inl M.1 else if M.1 = j then .inl M.1 else if lo ≤ M.2 ∧ M.2 ≤ hi then .inr M else .inl (M.1 - 1)
def l_num (b : Nat → Int) (N : Nat) (lo hi : Int) (i : Nat) : Sum Nat (Nat × Int) := l_nm b N lo hi (t_nm b N 2 (t_at b N i) 0) (t_at b N i)
def l_up (g : Nat → Int) (x : Nat) (v : Int) : Nat → Int := fun k => if k = x then v else g k
def l_its (u : Nat) (b : Nat → Int) (N : Nat) : Nat → Nat → Nat → (Nat → Int) → l_R
  | 0, i, _, g => .inr (i, g)
  | f + 1, i, m, g =>
    if u_ix u (t_ch b N (t_at b N i)) = -1 ∨ m / 2 ^ (u_ix u (t_ch b N (t_at b N i))).toNat % 2 = 1 then .inr (t_at b N i, g)
    else match l_num b N (l_lo u (u_ix u (t_ch b N (t_at b N i)))) (l_hi u (u_ix u (t_ch b N (t_at b N i)))) (t_at b N i + 1) with
      | .inl e => .inl e
      | .inr y => l_its u b N f y.1 (m + 2 ^ (u_ix u (t_ch b N (t_at b N i))).toNat) (l_up g (u_ix u (t_ch b N (t_at b N i))).toNat y.2)
/-- how many places, whether the line was told, the places' items, the line's -/
abbrev l_K := Nat × Bool × (Nat → Int) × (Nat → Int)
def l_pl (K : l_K) (y : Nat × (Nat → Int)) : Nat × l_K := (y.1, K.1 + 1, K.2.1, (fun k => if k / 4 = K.1 then y.2 (k % 4) else K.2.2.1 k), K.2.2.2)
def l_ln (K : l_K) (y : Nat × (Nat → Int)) : Nat × l_K := (y.1, K.1, true, K.2.2.1, y.2)
def l_go (f : Nat × (Nat → Int) → Nat × l_K) (x : l_R) : Sum Nat (Nat × l_K) := match x with
  | .inl e => .inl e
  | .inr y => .inr (f y)
def l_one (b : Nat → Int) (N i : Nat) (K : l_K) : Sum Nat (Nat × l_K) :=
  if t_ch b N (t_at b N i) = 112 ∧ K.1 < 6 then l_go (l_pl K) (l_its 0 b N 200 (t_at b N i + 1) 0 (l_us 0))
  else if t_ch b N (t_at b N i) = 98 ∧ K.2.1 = false then l_go (l_ln K) (l_its 1 b N 200 (t_at b N i + 1) 0 (l_us 1))
  else .inl (t_at b N i)
def l_cls (b : Nat → Int) (N : Nat) : Nat → Nat → l_K → Sum Nat l_K
  | 0, _, _ => .inl 0
  | f + 1, i, K => match l_one b N i K with
    | .inl e => .inl e
    | .inr y => if t_ch b N (t_at b N y.1) = 59 then l_cls b N f (t_at b N y.1 + 1) y.2 else if t_ch b N (t_at b N y.1) = -1 then .inr y.2 else .inl (t_at b N y.1)
def l_end (N : Nat) (K : l_K) : Sum Nat l_K := if K.1 < 2 ∨ n_sum (fun p => K.2.2.1 (4 * p)) K.1 = 0 then .inl N else .inr K
def l_lake (b : Nat → Int) (N : Nat) : Sum Nat l_K := match l_cls b N 200 0 (0, false, (fun _ => 0), l_us 1) with
  | .inl e => .inl e
  | .inr K => l_end N K
/-! facts of it -/
theorem l_ix_r {u : Nat} (hu : u < 2) (c : Int) : -1 ≤ u_ix u c ∧ u_ix u c < (l_n u : Int) := by
  rcases (show u = 0 ∨ u = 1 by omega) with rfl | rfl <;> unfold u_ix l_n <;> simp only [if_pos, if_neg, Nat.one_ne_zero, if_true, if_false] <;> repeat' split
  all_goals decide
theorem l_num_p {b : Nat → Int} {N i : Nat} {lo hi : Int} (hi' : i ≤ N) : match l_num b N lo hi i with
    | .inl e => e ≤ N
    | .inr y => (i < y.1 ∧ y.1 ≤ N) ∧ lo ≤ y.2 ∧ y.2 ≤ hi := by
  have hat := t_at_p (b := b) hi'
  have hp := (t_nm_p (b := b) (N := N) 2 (i := t_at b N i) (v := 0) hat.2 (by omega)).1
  unfold l_num l_nm
  generalize t_nm b N 2 (t_at b N i) 0 = M at *
  by_cases c1 : t_dg (t_ch b N M.1)
  · rw [if_pos c1]
    exact hp.2.1
  rw [if_neg c1]
  by_cases c2 : M.1 = t_at b N i
  · rw [if_pos c2]
    exact hp.2.1
  rw [if_neg c2]
  by_cases c3 : lo ≤ M.2 ∧ M.2 ≤ hi
  · rw [if_pos c3]
    exact ⟨⟨by show i < M.1; omega, hp.2.1⟩, c3⟩
  · rw [if_neg c3]
    show M.1 - 1 ≤ N
    omega
/-- numbers within their bounds -/
def l_B (u : Nat) (g : Nat → Int) : Prop := ∀ k : Nat, k < l_n u → l_lo u k ≤ g k ∧ g k ≤ l_hi u k
theorem l_us_B {u : Nat} (hu : u < 2) : l_B u (l_us u) := by
  intro k hk
  rcases (show u = 0 ∨ u = 1 by omega) with rfl | rfl
  · have hk : k < 4 := hk
    rcases (show k = 0 ∨ k = 1 ∨ k = 2 ∨ k = 3 by omega) with rfl | rfl | rfl | rfl <;> decide
  · have hk : k < 2 := hk
    rcases (show k = 0 ∨ k = 1 by omega) with rfl | rfl <;> decide
theorem l_its_p {u : Nat} {b : Nat → Int} {N : Nat} (hu : u < 2) (hb : t_by b N) : ∀ (f : Nat) {i m : Nat} {g : Nat → Int}, i ≤ N → N < i + f → l_B u g → match l_its u b N f i m g with
    | .inl e => e ≤ N
    | .inr y => (i ≤ y.1 ∧ y.1 ≤ N ∧ t_at b N y.1 = y.1) ∧ l_B u y.2
  | 0, i, m, g, hi, hf, hg => by omega
  | f + 1, i, m, g, hi, hf, hg => by
    have hat := t_at_p (b := b) hi
    have haa := t_at_at (b := b) hi
    have hx := l_ix_r hu (t_ch b N (t_at b N i))
    have hc : ¬ u_ix u (t_ch b N (t_at b N i)) = -1 → t_at b N i < N := fun q => by
      apply t_ch_lt (b := b)
      intro z
      apply q
      rw [z]
      rcases (show u = 0 ∨ u = 1 by omega) with rfl | rfl <;> rfl
    unfold l_its
    generalize u_ix u (t_ch b N (t_at b N i)) = x at *
    by_cases c : x = -1 ∨ m / 2 ^ x.toNat % 2 = 1
    · rw [if_pos c]
      exact ⟨⟨hat.1, hat.2, haa⟩, hg⟩
    rw [if_neg c]
    have hlt := hc (fun z => c (Or.inl z))
    have hn := l_num_p (b := b) (N := N) (i := t_at b N i + 1) (lo := l_lo u x) (hi := l_hi u x) (by omega)
    cases hq : l_num b N (l_lo u x) (l_hi u x) (t_at b N i + 1) with
    | inl e =>
      rw [hq] at hn
      exact hn
    | inr y =>
      rw [hq] at hn
      obtain ⟨⟨n1, n2⟩, n3⟩ := hn
      have ih := l_its_p hu hb f (i := y.1) (m := m + 2 ^ x.toNat) (g := l_up g x.toNat y.2) n2 (by omega) (fun k hk => by
        unfold l_up
        by_cases e : k = x.toNat
        · rw [if_pos e, show ((k : Nat) : Int) = x by omega]
          exact n3
        · rw [if_neg e]
          exact hg k hk)
      show match l_its u b N f y.1 (m + 2 ^ x.toNat) (l_up g x.toNat y.2) with
        | .inl e => e ≤ N
        | .inr y => (i ≤ y.1 ∧ y.1 ≤ N ∧ t_at b N y.1 = y.1) ∧ l_B u y.2
      cases hr : l_its u b N f y.1 (m + 2 ^ x.toNat) (l_up g x.toNat y.2) with
      | inl e =>
        rw [hr] at ih
        exact ih
      | inr z =>
        rw [hr] at ih
        obtain ⟨⟨i1, i2⟩, i3⟩ := ih
        exact ⟨⟨by omega, i2⟩, i3⟩
def l_OK (K : l_K) : Prop := K.1 ≤ 6 ∧ (∀ p, p < K.1 → l_B 0 (fun k => K.2.2.1 (4 * p + k))) ∧ l_B 1 K.2.2.2
theorem l_one_p {b : Nat → Int} {N i : Nat} {K : l_K} (hb : t_by b N) (hN : N ≤ 160) (hi : i ≤ N) (hK : l_OK K) : match l_one b N i K with
    | .inl e => e ≤ N
    | .inr y => (i < y.1 ∧ y.1 ≤ N ∧ t_at b N y.1 = y.1) ∧ l_OK y.2 := by
  have hat := t_at_p (b := b) hi
  have hlt : ∀ c : Int, 0 ≤ c → t_ch b N (t_at b N i) = c → t_at b N i < N := fun c h0 hc => t_ch_lt (b := b) (by omega)
  unfold l_one
  by_cases c1 : t_ch b N (t_at b N i) = 112 ∧ K.1 < 6
  · have h1 := hlt 112 (by decide) c1.1
    have hp := l_its_p (u := 0) (m := 0) (by decide) hb 200 (i := t_at b N i + 1) (by omega) (by omega) (l_us_B (u := 0) (by decide))
    rw [if_pos c1]
    cases hq : l_its 0 b N 200 (t_at b N i + 1) 0 (l_us 0) with
    | inl e =>
      rw [hq] at hp
      exact hp
    | inr y =>
      rw [hq] at hp
      obtain ⟨⟨p1, p2⟩, p3⟩ := hp
      refine ⟨⟨by show i < y.1; omega, p2⟩, by show K.1 + 1 ≤ 6; omega, fun p hp => ?_, hK.2.2⟩
      have hp : p < K.1 + 1 := hp
      intro k hk
      have hk4 : k < 4 := hk
      show l_lo 0 k ≤ (if (4 * p + k) / 4 = K.1 then y.2 ((4 * p + k) % 4) else K.2.2.1 (4 * p + k)) ∧ (if (4 * p + k) / 4 = K.1 then y.2 ((4 * p + k) % 4) else K.2.2.1 (4 * p + k)) ≤ l_hi 0 k
      by_cases e : p = K.1
      · rw [if_pos (by omega), show (4 * p + k) % 4 = k by omega]
        exact p3 k hk
      · rw [if_neg (by omega)]
        exact hK.2.1 p (by omega) k hk
  rw [if_neg c1]
  by_cases c2 : t_ch b N (t_at b N i) = 98 ∧ K.2.1 = false
  · have h1 := hlt 98 (by decide) c2.1
    have hp := l_its_p (u := 1) (m := 0) (by decide) hb 200 (i := t_at b N i + 1) (by omega) (by omega) (l_us_B (u := 1) (by decide))
    rw [if_pos c2]
    cases hq : l_its 1 b N 200 (t_at b N i + 1) 0 (l_us 1) with
    | inl e =>
      rw [hq] at hp
      exact hp
    | inr y =>
      rw [hq] at hp
      obtain ⟨⟨p1, p2⟩, p3⟩ := hp
      exact ⟨⟨by show i < y.1; omega, p2⟩, hK.1, hK.2.1, p3⟩
  rw [if_neg c2]
  exact hat.2
theorem l_cls_p {b : Nat → Int} {N : Nat} (hb : t_by b N) (hN : N ≤ 160) : ∀ (f : Nat) {i : Nat} {K : l_K}, i ≤ N → l_OK K → match l_cls b N f i K with
    | .inl e => e ≤ N
    | .inr K' => l_OK K'
  | 0, i, K, hi, hK => Nat.zero_le _
  | f + 1, i, K, hi, hK => by
    have h1 := l_one_p hb hN hi hK
    unfold l_cls
    cases hq : l_one b N i K with
    | inl e =>
      rw [hq] at h1
      exact h1
    | inr y =>
      rw [hq] at h1
      obtain ⟨⟨p1, p2, p3⟩, p4⟩ := h1
      show match (if t_ch b N (t_at b N y.1) = 59 then l_cls b N f (t_at b N y.1 + 1) y.2 else if t_ch b N (t_at b N y.1) = -1 then .inr y.2 else .inl (t_at b N y.1)) with
        | .inl e => e ≤ N
        | .inr K' => l_OK K'
      rw [p3]
      by_cases c1 : t_ch b N y.1 = 59
      · have hlt := t_ch_lt (b := b) (N := N) (i := y.1) (by omega)
        rw [if_pos c1]
        exact l_cls_p hb hN f (by omega) p4
      rw [if_neg c1]
      by_cases c2 : t_ch b N y.1 = -1
      · rw [if_pos c2]
        exact p4
      · rw [if_neg c2]
        exact p2
theorem l_lake_p {b : Nat → Int} {N : Nat} (hb : t_by b N) (hN : N ≤ 160) : match l_lake b N with
    | .inl e => e ≤ N
    | .inr K => (2 ≤ K.1 ∧ 0 < n_sum (fun p => K.2.2.1 (4 * p)) K.1) ∧ l_OK K := by
  have h := l_cls_p hb hN 200 (i := 0) (K := (0, false, (fun _ => 0), l_us 1)) (Nat.zero_le _) ⟨by decide, fun p hp => absurd hp (Nat.not_lt_zero p), l_us_B (by decide)⟩
  unfold l_lake
  cases hq : l_cls b N 200 0 (0, false, (fun _ => 0), l_us 1) with
  | inl e =>
    rw [hq] at h
    exact h
  | inr K =>
    rw [hq] at h
    show match l_end N K with
      | .inl e => e ≤ N
      | .inr K => (2 ≤ K.1 ∧ 0 < n_sum (fun p => K.2.2.1 (4 * p)) K.1) ∧ l_OK K
    unfold l_end
    by_cases c : K.1 < 2 ∨ n_sum (fun p => K.2.2.1 (4 * p)) K.1 = 0
    · rw [if_pos c]
      exact Nat.le_refl _
    · rw [if_neg c]
      have h0 : ∀ n, n ≤ K.1 → 0 ≤ n_sum (fun p => K.2.2.1 (4 * p)) n := by
        intro n
        induction n with
        | zero => exact fun _ => Int.le_refl _
        | succ n ih =>
          intro hn
          have h1 : (0 : Int) ≤ K.2.2.1 (4 * n) := (h.2.1 n (by omega) 0 (by decide)).1
          have h2 := ih (by omega)
          show 0 ≤ n_sum (fun p => K.2.2.1 (4 * p)) n + K.2.2.1 (4 * n)
          omega
      have := h0 K.1 (Nat.le_refl _)
      exact ⟨⟨by omega, by omega⟩, h⟩
