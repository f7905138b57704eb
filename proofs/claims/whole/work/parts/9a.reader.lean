/-! the class's reader, sign by sign -/
theorem t_sk_p {b : Nat → Int} {N : Nat} : ∀ f i, i ≤ t_sk b N f i ∧ t_sk b N f i ≤ i + f
  | 0, i => ⟨Nat.le_refl _, Nat.le_refl _⟩
  | f + 1, i => by
    have ih := t_sk_p (b := b) (N := N) f (i + 1)
    show i ≤ (if t_ch b N i = 32 then t_sk b N f (i + 1) else i) ∧ (if t_ch b N i = 32 then t_sk b N f (i + 1) else i) ≤ i + (f + 1)
    split <;> omega
theorem t_at_p {b : Nat → Int} {N i : Nat} (hi : i ≤ N) : i ≤ t_at b N i ∧ t_at b N i ≤ N := by
  have := t_sk_p (b := b) (N := N) (N - i) i
  unfold t_at
  omega
theorem t_at_s {b : Nat → Int} {N i : Nat} (hi : i < N) : t_at b N i = if b i = 32 then t_at b N (i + 1) else i := by
  unfold t_at
  rw [show N - i = (N - (i + 1)) + 1 by omega]
  show (if t_ch b N i = 32 then t_sk b N (N - (i + 1)) (i + 1) else i) = _
  unfold t_ch
  rw [if_pos hi]
theorem t_at_N {b : Nat → Int} {N : Nat} : t_at b N N = N := by
  unfold t_at
  rw [Nat.sub_self]
  rfl
theorem t_ch_N {b : Nat → Int} {N i : Nat} (hi : N ≤ i) : t_ch b N i = -1 := if_neg (by omega)
theorem t_ch_b {b : Nat → Int} {N i : Nat} (hi : i < N) : t_ch b N i = b i := if_pos hi
def t_by (b : Nat → Int) (N : Nat) : Prop := ∀ j, j < N → 1 ≤ b j ∧ b j ≤ 255
theorem t_ch_r {b : Nat → Int} {N : Nat} (hb : t_by b N) (i : Nat) : (t_ch b N i = -1 ∧ N ≤ i) ∨ ((1 ≤ t_ch b N i ∧ t_ch b N i ≤ 255) ∧ i < N) := by
  by_cases h : i < N
  · rw [t_ch_b h]
    exact Or.inr ⟨hb i h, h⟩
  · exact Or.inl ⟨t_ch_N (by omega), by omega⟩
theorem t_at_i {b : Nat → Int} {N : Nat} : ∀ (k : Nat) {i : Nat}, N - i ≤ k → i ≤ N → t_at b N (t_at b N i) = t_at b N i ∧ ¬ t_ch b N (t_at b N i) = 32
  | 0, i, hk, hi => by
    have e : i = N := by omega
    subst e
    rw [t_at_N, t_at_N]
    exact ⟨rfl, by rw [t_ch_N (Nat.le_refl _)]; decide⟩
  | k + 1, i, hk, hi => by
    by_cases h : i < N
    · rw [t_at_s h]
      by_cases c : b i = 32
      · rw [if_pos c]
        exact t_at_i k (by omega) (by omega)
      · rw [if_neg c, t_at_s h, if_neg c]
        exact ⟨rfl, by rw [t_ch_b h]; exact c⟩
    · have e : i = N := by omega
      subst e
      rw [t_at_N, t_at_N]
      exact ⟨rfl, by rw [t_ch_N (Nat.le_refl _)]; decide⟩
theorem t_at_at {b : Nat → Int} {N i : Nat} (hi : i ≤ N) : t_at b N (t_at b N i) = t_at b N i := (t_at_i (N - i) (Nat.le_refl _) hi).1
/-- where the class's reader stands -/
def u_S (c0 N : Nat) (b : Nat → Int) (s : k_St) (i : Nat) (e : Int) : Prop := s.1 c0 1 = iI N ∧ s.1 c0 2 = iI i ∧ s.1 c0 3 = iI e ∧ (i ≤ N ∧ N ≤ 160 ∧ -1 ≤ e ∧ e ≤ N) ∧ ∀ j, j < N → s.1 (c0 + 1) j = iI (b j)
def u_F (c0 : Nat) (s s' : k_St) : Prop := s'.2 = s.2 ∧ ∀ c k, ¬ (c = c0 ∧ (k = 2 ∨ k = 3)) → s'.1 c k = s.1 c k
theorem u_F.rf {c0 : Nat} {s : k_St} : u_F c0 s s := ⟨rfl, fun _ _ _ => rfl⟩
theorem u_F.tr {c0 : Nat} {s s1 s2 : k_St} (h : u_F c0 s s1) (h2 : u_F c0 s1 s2) : u_F c0 s s2 := ⟨h2.1.trans h.1, fun c k hk => (h2.2 c k hk).trans (h.2 c k hk)⟩
theorem u_F.wr {c0 : Nat} {s s1 : k_St} {k : Nat} {x : Int32} (h : u_F c0 s s1) (hk : k = 2 ∨ k = 3) : u_F c0 s (k_wr s1 c0 k x) := ⟨h.1, fun c j hj => by
  rw [wr_if, if_neg (fun q => hj ⟨q.1, by rw [q.2]; exact hk⟩)]
  exact h.2 c j hj⟩
section U1
variable {c0 N : Nat} {b : Nat → Int} {s : k_St} {i : Nat} {e : Int}
theorem u_S.at' (h : u_S c0 N b s i e) {i' : Nat} (hi : i' ≤ N) : u_S c0 N b (k_wr s c0 2 (iI i')) i' e := by
  obtain ⟨h1, h2, h3, h4, h5⟩ := h
  refine ⟨(wr_k (by decide)).trans h1, wr_s, (wr_k (by decide)).trans h3, ⟨hi, h4.2⟩, fun j hj => ?_⟩
  rw [wr_c (by omega)]
  exact h5 j hj
theorem u_S.er (h : u_S c0 N b s i e) {e' : Int} (he : -1 ≤ e' ∧ e' ≤ N) : u_S c0 N b (k_wr s c0 3 (iI e')) i e' := by
  obtain ⟨h1, h2, h3, h4, h5⟩ := h
  refine ⟨(wr_k (by decide)).trans h1, (wr_k (by decide)).trans h2, wr_s, ⟨h4.1, h4.2.1, he⟩, fun j hj => ?_⟩
  rw [wr_c (by omega)]
  exact h5 j hj
def t_nx (c : Int) : Int := if c = -1 then -2 else c
theorem u_next (hb : t_by b N) (h : u_S c0 N b s i e) : ∃ s', f_X3_next c0 s = some (iI (t_nx (t_ch b N (t_at b N i))), s') ∧ u_S c0 N b s' (t_at b N i) e ∧ u_F c0 s s' := by
  have hi := h.2.2.2.1
  unfold f_X3_next
  suffices hh : k_OK (k_loop (fun (g0 : k_St → Option (Int32 × k_St)) (z0 : k_St) => match z0 with
    | s_0 =>
      k_jn (fun (_ : Unit) =>
        k_if ((k_rd s_0 c0 1) ≤ (k_rd s_0 c0 2))
          (some ((-2 : Int32), s_0))
          (k_gd (k_ix (k_rd s_0 c0 2) 160 = true) <|
          some ((k_rd s_0 (c0 + 1) (k_rd s_0 c0 2).toNatClampNeg), s_0))) fun j38 =>
      k_if ((k_rd s_0 c0 1) ≤ (k_rd s_0 c0 2))
        (j38 ())
        (k_gd (k_ix (k_rd s_0 c0 2) 160 = true) <|
        k_if ((k_rd s_0 (c0 + 1) (k_rd s_0 c0 2).toNatClampNeg) = (32 : Int32))
          (k_nm (k_wr s_0 c0 2 ((k_rd s_0 c0 2) + (1 : Int32))) fun s32 =>
          g0 s32)
          (j38 ()))) 100000 s) (fun r => r.1 = iI (t_nx (t_ch b N (t_at b N i))) ∧ u_S c0 N b r.2 (t_at b N i) e ∧ u_F c0 s r.2) by
    obtain ⟨⟨r, s'⟩, e1, hr, h2, h3⟩ := hh
    have hr : r = _ := hr
    rw [hr] at e1
    exact ⟨s', e1, h2, h3⟩
  refine ok_for N (fun t (z : k_St) => i ≤ t ∧ t_at b N t = t_at b N i ∧ u_S c0 N b z t e ∧ u_F c0 s z) ?_ (by omega) (j := i) ⟨Nat.le_refl _, rfl, h, u_F.rf⟩ hi.1
  rintro g t z ⟨h0, h1, h2, h3⟩ ht hg
  obtain ⟨q1, q2, q3, q4, q5⟩ := id h2
  have e1 : k_rd z c0 1 = iI N := q1
  have e2 : k_rd z c0 2 = iI t := q2
  show k_OK (k_jn _ _) _
  simp only [n_jn, iI_lit]
  rw [e1, e2, n_ile (by omega) (by omega)]
  by_cases c1 : (N : Int) ≤ t
  · have et : t = N := by omega
    subst et
    rw [if_pos c1, n_ile (by omega) (by omega), if_pos c1, ok_some, ← h1, t_at_N, t_ch_N (Nat.le_refl _)]
    exact ⟨rfl, h2, h3⟩
  have hbt := hb t (by omega)
  have e3 : k_rd z (c0 + 1) t = iI (b t) := q5 t (by omega)
  have es := t_at_s (b := b) (show t < N by omega)
  rw [if_neg c1, n_gix (by omega) (by omega), iI_cl (by omega), Int.toNat_natCast, e3, n_ieq (by omega) (by omega)]
  by_cases c2 : b t = 32
  · rw [if_pos c2] at es
    rw [if_pos c2, iI_add, ok_nm]
    exact hg _ (by omega) ⟨by omega, by rw [← es]; exact h1, h2.at' (i' := t + 1) (by omega), h3.wr (Or.inl rfl)⟩
  · rw [if_neg c2] at es
    rw [if_neg c2, n_ile (by omega) (by omega), if_neg c1, n_gix (by omega) (by omega), ok_some, ← h1, es, t_ch_b (by omega)]
    unfold t_nx
    rw [if_neg (by omega)]
    exact ⟨rfl, h2, h3⟩
theorem u_pass (h : u_S c0 N b s i e) : ∃ s', f_X3_pass c0 s = some s' ∧ u_S c0 N b s' (if i < N then i + 1 else i) e ∧ u_F c0 s s' := by
  obtain ⟨q1, q2, q3, q4, q5⟩ := id h
  unfold f_X3_pass
  rw [show k_rd s c0 1 = _ from q1, show k_rd s c0 2 = _ from q2, n_ile (by omega) (by omega)]
  by_cases c : i < N
  · rw [if_neg (by omega), if_pos c, show (1 : Int32) = iI 1 from rfl, iI_add, n_nm]
    exact ⟨_, rfl, h.at' (i' := i + 1) (by omega), u_F.rf.wr (Or.inl rfl)⟩
  · rw [if_pos (by omega), if_neg c]
    exact ⟨_, rfl, h, u_F.rf⟩
theorem t_nx_e {b : Nat → Int} {N j : Nat} (hb : t_by b N) {c : Int} (hc : 0 ≤ c ∧ c ≤ 255) : iI (t_nx (t_ch b N j)) = iI c ↔ t_ch b N j = c := by
  have := t_ch_r hb j
  unfold t_nx
  by_cases q : t_ch b N j = -1
  · rw [if_pos q, iI_eq (by omega) (by omega)]
    omega
  · rw [if_neg q, iI_eq (by omega) (by omega)]
theorem u_take (hb : t_by b N) (h : u_S c0 N b s i e) {c : Int} (hc : 0 ≤ c ∧ c ≤ 255) : ∃ s', f_X3_take c0 (iI c) s = some (iI (if t_ch b N (t_at b N i) = c then 1 else 0), s') ∧ u_S c0 N b s' (if t_ch b N (t_at b N i) = c then t_at b N i + 1 else t_at b N i) e ∧ u_F c0 s s' := by
  obtain ⟨s1, e1, h1, f1⟩ := u_next hb h
  have hr := t_ch_r hb (t_at b N i)
  unfold f_X3_take
  rw [e1, n_b2]
  by_cases q : t_ch b N (t_at b N i) = c
  · obtain ⟨s2, e2, h2, f2⟩ := u_pass h1
    rw [n_ift ((t_nx_e hb hc).mpr q), e2, n_bd, if_pos q, if_pos q]
    rw [if_pos (by omega)] at h2
    exact ⟨s2, rfl, h2, f1.tr f2⟩
  · rw [n_iff (fun z => q ((t_nx_e hb hc).mp z)), if_neg q, if_neg q]
    exact ⟨s1, rfl, h1, f1⟩
def t_fa (e : Int) (w : Nat) : Int := if e = -1 then (w : Int) else e
theorem u_failAt (h : u_S c0 N b s i e) {w : Nat} (hw : w ≤ N) : ∃ s', f_X3_failAt c0 (iI w) s = some s' ∧ u_S c0 N b s' i (t_fa e w) ∧ u_F c0 s s' := by
  obtain ⟨q1, q2, q3, q4, q5⟩ := id h
  unfold f_X3_failAt t_fa
  rw [show k_rd s c0 3 = _ from q3, show (-1 : Int32) = iI (-1) from rfl, n_ieq (by omega) (by omega)]
  by_cases c : e = -1
  · rw [if_pos c, if_pos c, n_nm]
    exact ⟨_, rfl, h.er (by omega), u_F.rf.wr (Or.inr rfl)⟩
  · rw [if_neg c, if_neg c]
    exact ⟨_, rfl, h, u_F.rf⟩
theorem u_need (hb : t_by b N) (h : u_S c0 N b s i e) {c : Int} (hc : 0 ≤ c ∧ c ≤ 255) : ∃ s', f_X3_need c0 (iI c) s = some s' ∧ u_S c0 N b s' (if t_ch b N (t_at b N i) = c then t_at b N i + 1 else t_at b N i) (if t_ch b N (t_at b N i) = c then e else t_fa e (t_at b N i)) ∧ u_F c0 s s' := by
  obtain ⟨s1, e1, h1, f1⟩ := u_next hb h
  have hr := t_ch_r hb (t_at b N i)
  unfold f_X3_need
  rw [e1, n_b2]
  by_cases q : t_ch b N (t_at b N i) = c
  · rw [n_ift ((t_nx_e hb hc).mpr q), show k_rd s1 c0 2 = _ from h1.2.1, show (1 : Int32) = iI 1 from rfl, iI_add, n_nm, if_pos q, if_pos q]
    exact ⟨_, rfl, h1.at' (i' := t_at b N i + 1) (by omega), f1.wr (Or.inl rfl)⟩
  · obtain ⟨s2, e2, h2, f2⟩ := u_failAt h1 h1.2.2.2.1.1
    rw [n_iff (fun z => q ((t_nx_e hb hc).mp z)), show k_rd s1 c0 2 = _ from h1.2.1, e2, n_bd, if_neg q, if_neg q]
    exact ⟨s2, rfl, h2, f1.tr f2⟩
theorem u_fail (hb : t_by b N) (h : u_S c0 N b s i e) : ∃ s', f_X3_fail c0 s = some s' ∧ u_S c0 N b s' (t_at b N i) (t_fa e (t_at b N i)) ∧ u_F c0 s s' := by
  obtain ⟨s1, e1, h1, f1⟩ := u_next hb h
  obtain ⟨s2, e2, h2, f2⟩ := u_failAt h1 h1.2.2.2.1.1
  unfold f_X3_fail
  rw [e1, n_b2, show k_rd s1 c0 2 = _ from h1.2.1, e2, n_bd]
  exact ⟨s2, rfl, h2, f1.tr f2⟩
theorem u_failed (h : u_S c0 N b s i e) : f_X3_failed c0 s = some (iI (if e = -1 then 0 else 1)) := by
  obtain ⟨q1, q2, q3, q4, q5⟩ := id h
  unfold f_X3_failed
  rw [show k_rd s c0 3 = _ from q3, show (-1 : Int32) = iI (-1) from rfl, n_ieq (by omega) (by omega)]
  by_cases c : e = -1
  · rw [if_pos c, if_pos c]
    rfl
  · rw [if_neg c, if_neg c]
    rfl
/-- numbers -/
theorem t_nm_p {b : Nat → Int} {N : Nat} : ∀ (D : Nat) {i : Nat} {v : Int}, i ≤ N → 0 ≤ v → (i ≤ (t_nm b N D i v).1 ∧ (t_nm b N D i v).1 ≤ N ∧ (t_nm b N D i v).1 ≤ i + D) ∧ 0 ≤ (t_nm b N D i v).2 ∧ (t_nm b N D i v).2 + 1 ≤ (v + 1) * 10 ^ D
  | 0, i, v, hi, hv => by
    show (i ≤ i ∧ i ≤ N ∧ i ≤ i + 0) ∧ 0 ≤ v ∧ v + 1 ≤ (v + 1) * 10 ^ 0
    rw [Int.pow_zero]
    omega
  | D + 1, i, v, hi, hv => by
    have e : t_nm b N (D + 1) i v = if t_dg (t_ch b N i) then t_nm b N D (i + 1) (10 * v + t_ch b N i - 48) else (i, v) := rfl
    rw [e]
    by_cases c : t_dg (t_ch b N i)
    · have hlt : i < N := by
        by_cases q : i < N
        · exact q
        · rw [t_ch_N (by omega)] at c
          exact absurd c.1 (by decide)
      rw [if_pos c]
      have c1 := c.1
      have c2 := c.2
      obtain ⟨⟨h1, h2, h3⟩, h4, h5⟩ := t_nm_p (b := b) (N := N) D (i := i + 1) (v := 10 * v + t_ch b N i - 48) (by omega) (by omega)
      refine ⟨by omega, h4, ?_⟩
      have h6 : (10 * v + t_ch b N i - 48 + 1) * 10 ^ D ≤ ((v + 1) * 10) * 10 ^ D := Int.mul_le_mul_of_nonneg_right (by omega) (Int.le_of_lt (Int.pow_pos (by decide)))
      have h7 : (v + 1) * 10 ^ (D + 1) = ((v + 1) * 10) * 10 ^ D := by
        rw [Int.pow_succ, Int.mul_assoc, Int.mul_comm (10 ^ D)]
      omega
    · rw [if_neg c]
      refine ⟨by show i ≤ i ∧ i ≤ N ∧ i ≤ i + (D + 1); omega, hv, ?_⟩
      have h6 : (v + 1) * 1 ≤ (v + 1) * 10 ^ (D + 1) := Int.mul_le_mul_of_nonneg_left (by
        have : (0 : Int) < 10 ^ (D + 1) := Int.pow_pos (by decide)
        omega) (by omega)
      show v + 1 ≤ _
      omega
end U1
