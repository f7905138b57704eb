/-! what the two states have in common -/
/-- cells whose numbers nobody asks for between calls -/
def m_scr (c k : Nat) : Bool := match c with
  | 0 => match k with
    | 0 => true
    | 3 => true
    | 4 => true
    | 5 => true
    | 14 => true
    | 19 => true
    | 34 => true
    | 35 => true
    | _ => false
  | 9 => true
  | 10 => true
  | 11 => true
  | 12 => true
  | 16 => true
  | 17 => true
  | 18 => true
  | 19 => true
  | 20 => true
  | 21 => true
  | 25 => true
  | 26 => true
  | 27 => true
  | 28 => true
  | 29 => true
  | 30 => true
  | 31 => true
  | 32 => true
  | _ => false
def x_scr (c k : Nat) : Bool := match c with
  | 3 => true
  | 4 => true
  | 5 => true
  | 6 => true
  | 7 => match k with
    | 4 => false
    | 5 => false
    | _ => true
  | 8 => true
  | 11 => true
  | 31 => true
  | 32 => true
  | 33 => true
  | 34 => true
  | 35 => true
  | 36 => true
  | 37 => true
  | 38 => true
  | 39 => true
  | 40 => true
  | 41 => true
  | 45 => true
  | 46 => true
  | 47 => true
  | _ => false
def n_core (s : Nat → Nat → Bool) (σ : k_St) : k_St := (fun c k => if s c k = true then 0 else σ.1 c k, fun c k => if s c k = true then 0 else σ.2 c k)
abbrev m_c (σ : k_St) : k_St := n_core m_scr σ
abbrev x_c (σ : k_St) : k_St := n_core x_scr σ
section NC
variable {s : Nat → Nat → Bool} {σ σ' τ : k_St} {c k : Nat} {x : Int32} {z : Int64}
theorem n_core_1 (h : n_core s σ = τ) (hs : s c k = false) : σ.1 c k = τ.1 c k := by
  subst h
  show _ = if s c k = true then 0 else σ.1 c k
  rw [hs]
  rfl
theorem n_core_2 (h : n_core s σ = τ) (hs : s c k = false) : σ.2 c k = τ.2 c k := by
  subst h
  show _ = if s c k = true then 0 else σ.2 c k
  rw [hs]
  rfl
theorem n_core_I (h : n_core s σ = τ) (hs : s c k = false) : k_rd σ c k = iI (vI τ c k) := by
  rw [rd_I]
  unfold vI
  rw [n_core_1 h hs]
theorem n_core_L (h : n_core s σ = τ) (hs : s c k = false) : k_rl σ c k = iL (vL τ c k) := by
  rw [rd_L]
  unfold vL
  rw [n_core_2 h hs]
theorem n_core_w1 (hs : s c k = true) : n_core s (k_wr σ c k x) = n_core s σ := by
  refine Prod.ext (funext fun d => funext fun j => ?_) rfl
  show (if s d j = true then 0 else (k_wr σ c k x).1 d j) = if s d j = true then 0 else σ.1 d j
  by_cases h : s d j = true
  · rw [if_pos h, if_pos h]
  · rw [if_neg h, if_neg h, wr_if, if_neg (fun q => h (by rw [q.1, q.2]; exact hs))]
theorem n_core_w0 (hs : s c k = false) : n_core s (k_wr σ c k x) = k_wr (n_core s σ) c k x := by
  refine Prod.ext (funext fun d => funext fun j => ?_) rfl
  show (if s d j = true then 0 else (k_wr σ c k x).1 d j) = (k_wr (n_core s σ) c k x).1 d j
  rw [wr_if, wr_if]
  by_cases h : d = c ∧ j = k
  · rw [if_pos h, if_pos h, h.1, h.2, hs]
    rfl
  · rw [if_neg h, if_neg h]
    rfl
theorem n_core_l1 (hs : s c k = true) : n_core s (k_wl σ c k z) = n_core s σ := by
  refine Prod.ext rfl (funext fun d => funext fun j => ?_)
  show (if s d j = true then 0 else (k_wl σ c k z).2 d j) = if s d j = true then 0 else σ.2 d j
  by_cases h : s d j = true
  · rw [if_pos h, if_pos h]
  · rw [if_neg h, if_neg h, wl_if, if_neg (fun q => h (by rw [q.1, q.2]; exact hs))]
theorem n_core_l0 (hs : s c k = false) : n_core s (k_wl σ c k z) = k_wl (n_core s σ) c k z := by
  refine Prod.ext rfl (funext fun d => funext fun j => ?_)
  show (if s d j = true then 0 else (k_wl σ c k z).2 d j) = (k_wl (n_core s σ) c k z).2 d j
  rw [wl_if, wl_if]
  by_cases h : d = c ∧ j = k
  · rw [if_pos h, if_pos h, h.1, h.2, hs]
    rfl
  · rw [if_neg h, if_neg h]
    rfl
/-- a state that differs in scratch alone -/
theorem n_core_fr (h : ∀ c k, s c k = false → σ'.1 c k = σ.1 c k ∧ σ'.2 c k = σ.2 c k) : n_core s σ' = n_core s σ := by
  refine Prod.ext (funext fun d => funext fun j => ?_) (funext fun d => funext fun j => ?_)
  · show (if s d j = true then 0 else σ'.1 d j) = if s d j = true then 0 else σ.1 d j
    by_cases q : s d j = true
    · rw [if_pos q, if_pos q]
    · rw [if_neg q, if_neg q, (h d j (by cases hh : s d j; rfl; exact absurd hh q)).1]
  · show (if s d j = true then 0 else σ'.2 d j) = if s d j = true then 0 else σ.2 d j
    by_cases q : s d j = true
    · rw [if_pos q, if_pos q]
    · rw [if_neg q, if_neg q, (h d j (by cases hh : s d j; rfl; exact absurd hh q)).2]
end NC
/-! digits -/
def n_e4 (f : Nat → Int) : Int := 64 * f 0 + 16 * f 1 + 4 * f 2 + f 3
def n_p4 (f : Nat → Int) : Int := 1000 * f 0 + 100 * f 1 + 10 * f 2 + f 3
def n_d4 (z : Int) (s : Nat) : Int := match s with
  | 0 => z / 1000 % 10
  | 1 => z / 100 % 10
  | 2 => z / 10 % 10
  | _ => z % 10
/-! the reference's WORTHS, as its rows of code say -/
def rp_bd (z : Int) : Int := max (-1000000) (min 1000000 z)
def rp_wk (c a b : Int) : Int :=
  if c = 2 then rp_bd (a + b) else if c = 3 then rp_bd (a - b) else if c = 4 then rp_bd (a * b) else if c = 5 then (if b = 0 then 0 else rp_bd (a.tdiv b)) else if c = 6 then (if a = b then 1 else 0) else if c = 7 then (if a < b then 1 else 0) else if c = 8 then (if b < a then 1 else 0) else if c = 10 then (if a ≠ 0 ∧ b ≠ 0 then 1 else 0) else (if a ≠ 0 ∨ b ≠ 0 then 1 else 0)
def rp_st (c v : Int) (L : Nat → Int) (st : List Int) : Option (List Int) :=
  if c = 0 then (if st.length < 80 then some (v :: st) else none)
  else if c = 1 then (if st.length < 80 ∧ 0 ≤ v ∧ v < 5 then some (L v.toNat :: st) else none)
  else if c = 9 then (match st with
    | a :: r => if -1000000 ≤ a ∧ a ≤ 1000000 then some ((1 - a) :: r) else none
    | [] => none)
  else (match st with
    | b :: a :: r => if 2 ≤ c ∧ c ≤ 11 then some (rp_wk c a b :: r) else none
    | _ => none)
def rp_run (cd vl : Nat → Int) (L : Nat → Int) : Nat → Nat → List Int → Option (List Int)
  | _, 0, st => some st
  | k, n + 1, st => match rp_st (cd k) (vl k) L st with
    | none => none
    | some st' => rp_run cd vl L (k + 1) n st'
/-- a piece of code's number: it leaves one alone -/
def rp_val (cd vl : Nat → Int) (L : Nat → Int) (a b : Nat) : Option Int := match rp_run cd vl L a (b - a) [] with
  | some [v] => some v
  | _ => none
def rp_cls (cd vl tf sf st : Nat → Int) (i : Nat) (L : Nat → Int) : Nat → Nat → Option Int
  | _, 0 => some 0
  | c, n + 1 =>
    if 0 ≤ tf c ∧ 0 ≤ sf c ∧ sf c ≤ 340 ∧ st c ≤ 340 then
      (if tf c = sf c then rp_val cd vl L (340 * i + (sf c).toNat) (340 * i + (st c).toNat)
      else match rp_val cd vl L (340 * i + (tf c).toNat) (340 * i + (sf c).toNat) with
        | none => none
        | some t => if t ≠ 0 then rp_val cd vl L (340 * i + (sf c).toNat) (340 * i + (st c).toNat) else rp_cls cd vl tf sf st i L (c + 1) n)
    else none
def rp_E (m : k_St) (i : Nat) (L : Nat → Int) : Option Int := if vI m 5 i ≤ 90 then rp_cls (vI m 2) (vI m 3) (vI m 6) (vI m 7) (vI m 8) i L (90 * i) (vI m 5 i).toNat else none
/-! texts, as the document says them: an error and where, or how far, its rows of code, its number -/
abbrev t_V := Nat × List (Int × Int) × ((Nat → Int) → Int)
abbrev t_R := Sum Nat t_V
def t_ch (b : Nat → Int) (N i : Nat) : Int := if i < N then b i else -1
def t_sk (b : Nat → Int) (N : Nat) : Nat → Nat → Nat
  | 0, i => i
  | f + 1, i => if t_ch b N i = 32 then t_sk b N f (i + 1) else i
def t_at (b : Nat → Int) (N i : Nat) : Nat := t_sk b N (N - i) i
abbrev t_dg (c : Int) : Prop := 48 ≤ c ∧ c ≤ 57
def t_lt (c : Int) : Int := if c = 102 then 0 else if c = 112 then 1 else if c = 115 then 2 else if c = 108 then 3 else if c = 119 then 4 else -1
def t_nm (b : Nat → Int) (N : Nat) : Nat → Nat → Int → Nat × Int
  | 0, i, v => (i, v)
  | f + 1, i, v => if t_dg (t_ch b N i) then t_nm b N f (i + 1) (10 * v + t_ch b N i - 48) else (i, v)
def t_bd (x : t_R) (k : t_V → t_R) : t_R := match x with
  | .inl e => .inl e
  | .inr y => k y
/-- a sign that must stand there -/
def t_nd (b : Nat → Int) (N : Nat) (c : Int) (x : t_V) : t_R := if t_ch b N (t_at b N x.1) = c then .inr (t_at b N x.1 + 1, x.2) else .inl (t_at b N x.1)
def t_op (c : Int) (x y : t_V) : t_V := (y.1, x.2.1 ++ y.2.1 ++ [(c, 0)], fun L => rp_wk c (x.2.2 L) (y.2.2 L))
def t_atom (sum : Option (Nat → t_R)) (b : Nat → Int) (N i : Nat) : t_R :=
  if t_dg (t_ch b N (t_at b N i)) then (if t_dg (t_ch b N (t_nm b N 4 (t_at b N i) 0).1) then .inl (t_nm b N 4 (t_at b N i) 0).1 else .inr ((t_nm b N 4 (t_at b N i) 0).1, [(0, (t_nm b N 4 (t_at b N i) 0).2)], fun _ => (t_nm b N 4 (t_at b N i) 0).2))
  else if ¬ t_lt (t_ch b N (t_at b N i)) = -1 then .inr (t_at b N i + 1, [(1, t_lt (t_ch b N (t_at b N i)))], fun L => L (t_lt (t_ch b N (t_at b N i))).toNat)
  else if t_ch b N (t_at b N i) = 91 then (match sum with
    | none => .inl (t_at b N i)
    | some g => t_bd (g (t_at b N i + 1)) (t_nd b N 93))
  else .inl (t_at b N i)
/-- a chain by two signs -/
def t_lp (piece : Nat → t_R) (b : Nat → Int) (N : Nat) (c1 o1 c2 o2 : Int) : Nat → t_V → t_R
  | 0, x => .inr x
  | f + 1, x =>
    if t_ch b N (t_at b N x.1) = c1 then t_bd (piece (t_at b N x.1 + 1)) (fun y => t_lp piece b N c1 o1 c2 o2 f (t_op o1 x y))
    else if t_ch b N (t_at b N x.1) = c2 then t_bd (piece (t_at b N x.1 + 1)) (fun y => t_lp piece b N c1 o1 c2 o2 f (t_op o2 x y))
    else .inr (t_at b N x.1, x.2)
def t_chain (piece : Nat → t_R) (b : Nat → Int) (N : Nat) (c1 o1 c2 o2 : Int) (i : Nat) : t_R := t_bd (piece i) (t_lp piece b N c1 o1 c2 o2 200)
def t_sumO (sum : Option (Nat → t_R)) (b : Nat → Int) (N i : Nat) : t_R := t_chain (t_chain (t_atom sum b N) b N 42 4 47 5) b N 43 2 45 3 i
def t_sum (b : Nat → Int) (N : Nat) : Nat → Nat → t_R
  | 0 => t_sumO none b N
  | k + 1 => t_sumO (some (t_sum b N k)) b N
def t_cs (c : Int) : Int := if c = 61 then 6 else if c = 60 then 7 else if c = 62 then 8 else -1
def t_cmp (sum : Nat → t_R) (b : Nat → Int) (N : Nat) (x : t_V) : t_R :=
  if t_cs (t_ch b N (t_at b N x.1)) = -1 then .inl (t_at b N x.1)
  else t_bd (sum (t_at b N x.1 + 1)) (fun y => .inr (t_op (t_cs (t_ch b N (t_at b N x.1))) x y))
def t_and (unit : Nat → t_R) (b : Nat → Int) (N : Nat) (x : t_V) : t_R := t_lp unit b N 38 10 38 10 200 x
def t_ors (unit : Nat → t_R) (b : Nat → Int) (N : Nat) (x : t_V) : t_R := t_lp (fun i => t_bd (unit i) (t_and unit b N)) b N 124 11 124 11 200 x
def t_cnd (unit : Nat → t_R) (b : Nat → Int) (N i : Nat) : t_R := t_bd (t_bd (unit i) (t_and unit b N)) (t_ors unit b N)
def t_un (unit : Option (Nat → t_R)) (sum : Nat → t_R) (b : Nat → Int) (N i : Nat) : t_R :=
  if t_ch b N (t_at b N i) = 33 then (match unit with
    | none => .inl (t_at b N i)
    | some u => t_bd (u (t_at b N i + 1)) (fun x => .inr (x.1, x.2.1 ++ [(9, 0)], fun L => 1 - x.2.2 L)))
  else if t_ch b N (t_at b N i) = 40 then (match unit with
    | none => .inl (t_at b N i)
    | some u => t_bd (t_cnd u b N (t_at b N i + 1)) (t_nd b N 41))
  else t_bd (sum i) (t_cmp sum b N)
def t_unit (b : Nat → Int) (N : Nat) : Nat → Nat → t_R
  | 0 => t_un none (t_sum b N 0) b N
  | k + 1 => t_un (some (t_unit b N k)) (t_sum b N (k + 1)) b N
/-- a clause: its condition (or none), its sum -/
abbrev t_C := Option t_V × t_V
def t_tst (b : Nat → Int) (N i : Nat) : Bool := match t_sum b N 6 i with
  | .inl _ => false
  | .inr x => decide (¬ t_cs (t_ch b N (t_at b N x.1)) = -1)
def t_clB (b : Nat → Int) (N i : Nat) : Sum Nat t_C :=
  if t_ch b N (t_at b N i) = 33 ∨ t_ch b N (t_at b N i) = 40 ∨ t_tst b N i = true then
    (match t_bd (t_cnd (t_unit b N 6) b N i) (t_nd b N 63) with
    | .inl e => .inl e
    | .inr x => (match t_sum b N 6 x.1 with
      | .inl e => .inl e
      | .inr y => .inr (some x, y)))
  else (match t_sum b N 6 i with
    | .inl e => .inl e
    | .inr y => .inr (none, y))
def t_cl (b : Nat → Int) (N i : Nat) : Sum Nat t_C := match t_bd (t_nd b N 121 (i, [], fun _ => 0)) (t_nd b N 58) with
  | .inl e => .inl e
  | .inr x => t_clB b N x.1
def t_cls (b : Nat → Int) (N : Nat) : Nat → Nat → Sum Nat (List t_C)
  | 0, _ => .inl 0
  | f + 1, i => match t_cl b N i with
    | .inl e => .inl e
    | .inr c => if t_ch b N (t_at b N c.2.1) = 59 then (match t_cls b N f (t_at b N c.2.1 + 1) with
        | .inl e => .inl e
        | .inr cs => .inr (c :: cs))
      else if t_ch b N (t_at b N c.2.1) = -1 then .inr [c] else .inl (t_at b N c.2.1)
def t_val (L : Nat → Int) : List t_C → Int
  | [] => 0
  | (none, y) :: _ => y.2.2 L
  | (some x, y) :: r => if ¬ x.2.2 L = 0 then y.2.2 L else t_val L r
/-- a text's number -/
def n_cut (b : Nat → Int) (len : Nat) : Nat → Int := fun j => if j < len then b j else 0
def n_ev (b : Nat → Int) (len : Nat) (L : Nat → Int) : Int := if ∀ j, j < len → 1 ≤ b j ∧ b j ≤ 255 then (match t_cls (n_cut b len) len 200 0 with
  | .inl _ => 2000000
  | .inr cs => t_val L cs) else 2000000
def r_let (L : Nat → Int) : Prop := ∀ j, j < 5 → 0 ≤ L j ∧ L j ≤ 99
/-! the relation -/
def n_sum (f : Nat → Int) : Nat → Int
  | 0 => 0
  | p + 1 => n_sum f p + f p
def m_sW (m : k_St) (n : Nat) : Int := n_sum (fun p => vI m 13 (4 * p)) n
def r_T (k : Int) (f : Nat → Int) : Prop := ∀ s, s < 4 → 0 ≤ f s ∧ f s < max k 1
def r_R (n : Int) (g : Nat → Int32) (x : Int64) : Prop := ∀ j, j < 16 → o_pl x j = g j ∧ 0 ≤ (g j).toInt ∧ (g j).toInt < max n 1
def r_dy (n k : Int) (x : k_St) (c : Nat) (pl sg ct : Nat → Int32) (dd : Nat → Int64) (dR : Nat → Nat → Int32) (dT : Nat → Int32) (i : Nat) : Prop :=
  (x.1 (c + 1) i = pl i ∧ 0 ≤ (pl i).toInt ∧ (pl i).toInt < n) ∧ (x.1 (c + 2) i = sg i ∧ 0 ≤ (sg i).toInt ∧ (sg i).toInt ≤ 3) ∧ (x.1 (c + 3) i = ct i ∧ 0 ≤ (ct i).toInt ∧ (ct i).toInt ≤ 999) ∧ (r_T k (n_d4 (dT i).toInt) ∧ (0 ≤ (dT i).toInt ∧ (dT i).toInt ≤ 9999) ∧ x.1 (c + 4) i = iI (n_e4 (n_d4 (dT i).toInt))) ∧ r_R n (dR i) (x.2 (c + 5) i) ∧ x.2 (c + 6) i = dd i
def r_st (n k : Int) (x : k_St) (c : Nat) (T R : Nat → Int32) (dr : Int64) (fog thu lost days : Int32) (pl sg ct : Nat → Int32) (dd : Nat → Int64) (dR : Nat → Nat → Int32) (dT : Nat → Int32) : Prop :=
  (r_T k (fun s => (T s).toInt) ∧ x.1 c 0 = iI (n_e4 (fun s => (T s).toInt))) ∧ r_R n R (x.2 c 1) ∧ x.2 c 2 = dr ∧ (x.1 c 3 = fog ∧ (fog = 0 ∨ fog = 1)) ∧ (x.1 c 4 = thu ∧ (thu = 0 ∨ thu = 1)) ∧ (x.1 c 5 = lost ∧ 0 ≤ lost.toInt ∧ lost.toInt ≤ 99) ∧ (x.1 c 6 = days ∧ 0 ≤ days.toInt ∧ days.toInt ≤ 40) ∧ ∀ i : Nat, (i : Int) < days.toInt → r_dy n k x c pl sg ct dd dR dT i
def r_now (x m : k_St) : Prop := r_st (vI m 0 21) (vI m 0 22) x 16 (m.1 14) (m.1 15) (m.2 0 60) (m.1 0 26) (m.1 0 27) (m.1 0 23) (m.1 0 59) (m.1 35) (m.1 36) (m.1 37) (m.2 38) (fun i j => m.1 39 (16 * i + j)) (m.1 40)
def r_img (x m : k_St) : Prop := x.1 0 14 = m.1 0 70 ∧ (m.1 0 70 = 0 ∨ m.1 0 70 = 1 ∧ r_st (vI m 0 21) (vI m 0 22) x 23 (m.1 41) (m.1 42) (m.2 0 72) (m.1 0 68) (m.1 0 69) (m.1 0 67) (m.1 0 71) (fun i => m.1 43 (3 * i)) (fun i => m.1 43 (3 * i + 1)) (fun i => m.1 43 (3 * i + 2)) (m.2 45) (fun i j => m.1 44 (16 * i + j)) (m.1 46))
def r_shf (x m : k_St) : Prop := ∀ s, s < 4 → (m.1 22 s = -1 ∧ x.1 43 s = -1 ∨ 0 < vI m 0 21 ∧ r_T (vI m 0 22) (n_d4 (vI m 22 s)) ∧ (0 ≤ vI m 22 s ∧ vI m 22 s ≤ 9999) ∧ x.1 43 s = iI (n_e4 (n_d4 (vI m 22 s)))) ∧ (m.1 24 s = 0 ∧ x.2 44 s = -1 ∨ m.1 24 s = 1 ∧ 0 < vI m 0 21 ∧ r_R (vI m 0 21) (fun j => m.1 23 (16 * s + j)) (x.2 44 s))
def r_see (x m : k_St) : Prop := (x.1 0 13 = m.1 0 52 ∧ 0 ≤ vI m 0 52 ∧ vI m 0 52 ≤ 20) ∧ ∀ i : Nat, (i : Int) < vI m 0 52 → (x.1 48 i = m.1 33 i ∧ 0 ≤ vI m 33 i ∧ vI m 33 i < vI m 0 21) ∧ (x.1 49 i = m.1 34 i ∧ 0 ≤ vI m 34 i ∧ vI m 34 i < vI m 0 21)
def r_lrn (x m : k_St) : Prop := (x.1 0 15 = m.1 0 28 ∧ (m.1 0 28 = 0 ∨ m.1 0 28 = 1)) ∧ (x.1 0 16 = m.1 0 29 ∧ (m.1 0 29 = 0 ∨ m.1 0 29 = 1))
def r_lak (x m : k_St) : Prop := (x.1 12 0 = m.1 0 21 ∧ 0 ≤ vI m 0 21 ∧ vI m 0 21 ≤ 6) ∧ (x.1 12 1 = m.1 0 22 ∧ 0 ≤ vI m 0 22 ∧ vI m 0 22 ≤ 4) ∧ (vI m 0 21 = 0 → vI m 0 22 = 0) ∧ (0 < vI m 0 21 → 2 ≤ vI m 0 21 ∧ 1 ≤ vI m 0 22 ∧ 0 < m_sW m (vI m 0 21).toNat) ∧ vI x 12 2 = m_sW m (vI m 0 21).toNat ∧ ∀ p : Nat, (p : Int) < vI m 0 21 → (∀ j, j < 4 → x.1 13 (4 * p + j) = m.1 13 (4 * p + j)) ∧ (0 ≤ vI m 13 (4 * p) ∧ vI m 13 (4 * p) ≤ 9) ∧ (0 ≤ vI m 13 (4 * p + 1) ∧ vI m 13 (4 * p + 1) ≤ 3) ∧ (0 ≤ vI m 13 (4 * p + 2) ∧ vI m 13 (4 * p + 2) ≤ 3) ∧ (0 ≤ vI m 13 (4 * p + 3) ∧ vI m 13 (4 * p + 3) ≤ 99)
def r_tap (x m : k_St) : Prop := (x.1 1 1 = m.1 0 2 ∧ 0 ≤ vI m 0 2 ∧ vI m 0 2 ≤ 160) ∧ ∀ k : Nat, (k : Int) < vI m 0 2 → x.1 2 k = m.1 1 k ∧ 1 ≤ vI m 1 k ∧ vI m 1 k ≤ 255
def r_lw (x m : k_St) (i : Nat) : Prop := (0 ≤ vI x 10 i ∧ vI x 10 i ≤ 160) ∧ ∀ L, r_let L → rp_E m i L = some (n_ev (fun j => vI x 9 (160 * i + j)) (vI x 10 i).toNat L) ∧ -1000000 ≤ n_ev (fun j => vI x 9 (160 * i + j)) (vI x 10 i).toNat L ∧ n_ev (fun j => vI x 9 (160 * i + j)) (vI x 10 i).toNat L ≤ 1000000
def r_law (x m : k_St) : Prop := (x.1 7 4 = m.1 0 13 ∧ 0 ≤ vI m 0 13 ∧ vI m 0 13 ≤ 4) ∧ (x.1 7 5 = m.1 0 30 ∧ -1 ≤ vI m 0 30 ∧ vI m 0 30 < vI m 0 13) ∧ ∀ i : Nat, (i : Int) < vI m 0 13 → r_lw x m i
def m_let (m : k_St) (p : Nat) (j : Nat) : Int := match j with
  | 0 => vI m 13 (4 * p + 3)
  | 1 => p
  | 2 => vI m 13 (4 * p + 1)
  | 3 => vI m 13 (4 * p + 2)
  | _ => vI m 13 (4 * p)
def m_V (m : k_St) (p : Nat) : Option Int := if vI m 0 30 = -1 then some (vI m 13 (4 * p + 3)) else match rp_E m (vI m 0 30).toNat (m_let m p) with
  | none => none
  | some v => some (max 0 (min 999 v))
def r_val (x m : k_St) : Prop := ∀ p : Nat, (p : Int) < vI m 0 21 → m_V m p = some (vI x 14 p) ∧ (0 ≤ vI x 14 p ∧ vI x 14 p ≤ 999) ∧ vI x 15 p = vI x 14 p * vI m 13 (4 * p)
def r_all (x m : k_St) : Prop := r_tap x m ∧ r_lak x m ∧ r_now x m ∧ r_img x m ∧ r_shf x m ∧ r_see x m ∧ r_lrn x m ∧ r_law x m ∧ r_val x m
def z_Inv (σX σM : k_St) : Prop := r_all (x_c σX) (m_c σM)
theorem z_init : z_Inv i_X i_M := by
  have h0 : ∀ s, s < 4 → o_pl 0 s = 0 := fun s hs => o_pl_0 (by omega)
  have hR : r_R 0 (fun _ => 0) 0 := fun j hj => ⟨o_pl_0 hj, (by decide : (0 : Int) ≤ (0 : Int32).toInt), (by decide : (0 : Int32).toInt < max 0 1)⟩
  have hT : r_T 0 (fun _ => 0) := fun s hs => ⟨(by decide : (0 : Int) ≤ 0), (by decide : (0 : Int) < max 0 1)⟩
  refine ⟨⟨⟨rfl, by decide, by decide⟩, fun k hk => ?_⟩, ⟨⟨rfl, by decide, by decide⟩, ⟨rfl, by decide, by decide⟩, fun _ => rfl, fun h => absurd h (by decide), rfl, fun p hp => ?_⟩, ⟨⟨hT, rfl⟩, hR, rfl, ⟨rfl, Or.inl rfl⟩, ⟨rfl, Or.inl rfl⟩, ⟨rfl, by decide, by decide⟩, ⟨rfl, by decide, by decide⟩, fun i hi => ?_⟩, ⟨rfl, Or.inl rfl⟩, fun s hs => ?_, ⟨⟨rfl, by decide, by decide⟩, fun i hi => ?_⟩, ⟨⟨rfl, Or.inl rfl⟩, ⟨rfl, Or.inl rfl⟩⟩, ⟨⟨rfl, by decide, by decide⟩, ⟨rfl, by decide, by decide⟩, fun i hi => ?_⟩, fun p hp => ?_⟩
  · exact absurd hk (by show ¬ (k : Int) < 0; omega)
  · exact absurd hp (by show ¬ (p : Int) < 0; omega)
  · exact absurd hi (by show ¬ (i : Int) < 0; omega)
  · rcases (show s = 0 ∨ s = 1 ∨ s = 2 ∨ s = 3 by omega) with rfl | rfl | rfl | rfl <;> exact ⟨Or.inl ⟨rfl, rfl⟩, Or.inl ⟨rfl, rfl⟩⟩
  · exact absurd hi (by show ¬ (i : Int) < 0; omega)
  · exact absurd hi (by show ¬ (i : Int) < 0; omega)
  · exact absurd hp (by show ¬ (p : Int) < 0; omega)
