/-! the class's sums -/
def u_h (x : Int64) : Int64 := o_lmax (-1000000 : Int64) (o_lmin (1000000 : Int64) x)
theorem u_held (x : Int64) : f_X10_held x = some (u_h x) := rfl
theorem u_h_e {z : Int} (h : -9223372036854775808 ≤ z ∧ z ≤ 9223372036854775807) : u_h (iL z) = iL (rp_bd z) := by
  unfold u_h rp_bd
  rw [show (-1000000 : Int64) = iL (-1000000) from rfl, show (1000000 : Int64) = iL 1000000 from rfl, iL_min (by omega) h, iL_max (by omega) (by omega)]
theorem t_lp_s {p : Nat → t_R} {b : Nat → Int} {N : Nat} {c1 o1 c2 o2 : Int} {f : Nat} {x : t_V} : t_lp p b N c1 o1 c2 o2 (f + 1) x = if t_ch b N (t_at b N x.1) = c1 then t_bd (p (t_at b N x.1 + 1)) (fun y => t_lp p b N c1 o1 c2 o2 f (t_op o1 x y))
    else if t_ch b N (t_at b N x.1) = c2 then t_bd (p (t_at b N x.1 + 1)) (fun y => t_lp p b N c1 o1 c2 o2 f (t_op o2 x y))
    else .inr (t_at b N x.1, x.2) := rfl
theorem u_nx_e {b : Nat → Int} {N j : Nat} (hb : t_by b N) {c : Int} (hc : 0 ≤ c ∧ c ≤ 255) {α : Type} {p q : Option α} [Decidable (iI (t_nx (t_ch b N j)) = iI c)] : k_if (iI (t_nx (t_ch b N j)) = iI c) p q = if t_ch b N j = c then p else q := by
  by_cases h : t_ch b N j = c
  · rw [if_pos h, n_ift ((t_nx_e hb hc).mpr h)]
  · rw [if_neg h, n_iff (fun z => h ((t_nx_e hb hc).mp z))]
theorem u_z64 {x : Int32} (h : ¬ x = iI 0) : ¬ x.toInt64 = 0 := fun q => h (Int32.toInt_inj.mp (by
  rw [← Int32.toInt_toInt64, q]
  rfl))
theorem n_mul6 {a b : Int} (ha : -1000000 ≤ a ∧ a ≤ 1000000) (hb : -1000000 ≤ b ∧ b ≤ 1000000) : -1000000000000 ≤ a * b ∧ a * b ≤ 1000000000000 := by
  have h1 := Int.mul_nonneg (show 0 ≤ 1000000 - a by omega) (show 0 ≤ 1000000 - b by omega)
  have h2 := Int.mul_nonneg (show 0 ≤ 1000000 + a by omega) (show 0 ≤ 1000000 + b by omega)
  have h3 := Int.mul_nonneg (show 0 ≤ 1000000 - a by omega) (show 0 ≤ 1000000 + b by omega)
  have h4 := Int.mul_nonneg (show 0 ≤ 1000000 + a by omega) (show 0 ≤ 1000000 - b by omega)
  rw [Int.sub_mul, Int.mul_sub, Int.mul_sub] at h1
  rw [Int.add_mul, Int.mul_add, Int.mul_add] at h2
  rw [Int.sub_mul, Int.mul_add, Int.mul_add] at h3
  rw [Int.add_mul, Int.mul_sub, Int.mul_sub] at h4
  omega
theorem n_div6 {a b : Int} (ha : -1000000 ≤ a ∧ a ≤ 1000000) (hb : ¬ b = 0) : -1000000 ≤ a.tdiv b ∧ a.tdiv b ≤ 1000000 := by
  have h1 : (a.tdiv b).natAbs ≤ a.natAbs := by
    rw [Int.natAbs_tdiv]
    exact Nat.div_le_self _ _
  omega
theorem u_term {L : Nat → Int} {N : Nat} {b : Nat → Int} (hb : t_by b N) {p : Int32 → k_St → Option (Int32 × k_St)} {d : Int32} {g : Nat → t_R} (hp : u_P L N b (p d) g) (hg : t_G N g) : u_P L N b (b_X10_readTerm p d) (t_chain g b N 42 4 47 5) := by
  intro s i h hL
  have hN := h.2.2.2.1.2.1
  have hgi := hg i h.2.2.2.1.1
  unfold b_X10_readTerm
  rw [ok_b2]
  refine ok_mono (hp s i h hL) ?_
  rintro ⟨r0, s0⟩ ⟨f0, hr0⟩
  rw [ok_nm]
  generalize hX : t_chain g b N 42 4 47 5 i = X
  have hX : t_bd (g i) (t_lp g b N 42 4 47 5 200) = X := hX
  refine ok_for 160 (fun t (z : Int64 × Int32 × k_St) => z.2.1 = iI (t : Nat) ∧ u_F 7 s z.2.2 ∧ ((∃ e i', X = .inl e ∧ u_S 7 N b z.2.2 i' (e : Nat)) ∨ ∃ y : t_V, t_lp g b N 42 4 47 5 (200 - t) y = X ∧ u_S 7 N b z.2.2 y.1 (-1) ∧ t ≤ y.1 ∧ (r_let L → z.1 = iL (y.2.2 L) ∧ -1000000 ≤ y.2.2 L ∧ y.2.2 L ≤ 1000000))) ?_ (by omega) (j := 0) ?_ (by omega)
  rotate_left
  · refine ⟨rfl, f0, ?_⟩
    cases hq : g i with
    | inl e =>
      rw [hq] at hr0 hX
      obtain ⟨i', hr0⟩ := hr0
      exact Or.inl ⟨e, i', hX.symm, hr0⟩
    | inr y =>
      rw [hq] at hr0 hX hgi
      refine Or.inr ⟨y, hX, hr0.1, Nat.zero_le _, fun q => ?_⟩
      have hb1 := hgi.2 L q
      have e := hr0.2 q
      have e : r0 = iI (y.2.2 L) := e
      exact ⟨by show r0.toInt64 = _; rw [e, iI_l (by omega)], hb1⟩
  rintro gg t ⟨v2, v4, s2⟩ ⟨e4, f2, hcase⟩ ht hgo
  have e4 : v4 = iI (t : Nat) := e4
  subst e4
  have f2 : u_F 7 s s2 := f2
  show k_OK (k_if _ _ _) _
  simp only [iI_lit]
  rw [n_ilt (by omega) (by omega), if_neg (by omega)]
  rcases hcase with ⟨e, i', rfl, h2⟩ | ⟨y, hy, h2, hty, hv⟩
  · have h2 : u_S 7 N b s2 i' (e : Nat) := h2
    obtain ⟨s3, e3, h3, f3⟩ := u_next hb h2
    rw [e3, n_b2, u_failed h3, n_bd, if_neg (by omega), n_ieq (by omega) (by omega), if_neg (by omega), ok_some]
    exact ⟨f2.tr f3, _, h3⟩
  · have h2 : u_S 7 N b s2 y.1 (-1) := h2
    have hv : r_let L → v2 = iL (y.2.2 L) ∧ -1000000 ≤ y.2.2 L ∧ y.2.2 L ≤ 1000000 := hv
    obtain ⟨s3, e3, h3, f3⟩ := u_next hb h2
    have hat := t_at_p (b := b) h2.2.2.2.1.1
    have haa := t_at_at (b := b) h2.2.2.2.1.1
    have hr := t_ch_r hb (t_at b N y.1)
    rw [show 200 - t = (200 - (t + 1)) + 1 by omega, t_lp_s] at hy
    rw [e3, n_b2, u_failed h3, n_bd, if_pos rfl, n_ift rfl]
    simp only [n_jn]
    rw [u_nx_e hb (c := 42) (by omega), u_nx_e hb (c := 47) (by omega)]
    have go : ∀ o : Int, t_at b N y.1 < N → t_bd (g (t_at b N y.1 + 1)) (fun w => t_lp g b N 42 4 47 5 (200 - (t + 1)) (t_op o y w)) = X → ∀ (K : Int32 → k_St → Option (Int32 × k_St)), (∀ r s4 (v : Int64), (∀ (val : Int64), (∀ w, g (t_at b N y.1 + 1) = .inr w → r_let L → val = iL (rp_wk o (y.2.2 L) (w.2.2 L))) → k_OK (gg (val, iI (t : Nat) + iI 1, s4)) (fun r => u_F 7 s r.2 ∧ u_R L N b X r)) → (∀ w, g (t_at b N y.1 + 1) = .inr w → r_let L → r = iI (w.2.2 L) ∧ -1000000 ≤ w.2.2 L ∧ w.2.2 L ≤ 1000000) → k_OK (K r s4) (fun r => u_F 7 s r.2 ∧ u_R L N b X r)) → k_OK (k_bd (f_X3_pass 7 s3) fun s49 => k_b2 (p d s49) K) (fun r => u_F 7 s r.2 ∧ u_R L N b X r) := by
      intro o hlt hXo K hK
      obtain ⟨s5, e5, h5, f5⟩ := u_pass h3
      rw [if_pos hlt] at h5
      rw [e5, n_bd, ok_b2]
      have hgj := hg (t_at b N y.1 + 1) (by omega)
      refine ok_mono (hp s5 (t_at b N y.1 + 1) h5 (fun q hq => (((f2.tr f3).tr f5).2 11 q (by omega)).trans (hL q hq))) ?_
      rintro ⟨r, s4⟩ ⟨f4, h4⟩
      have f4 : u_F 7 s5 s4 := f4
      refine hK r s4 0 (fun val hval => ?_) (fun w hw q => ?_)
      · rw [iI_add]
        refine hgo (val, iI ((t : Int) + 1), s4) (by omega) ⟨rfl, ((f2.tr f3).tr f5).tr f4, ?_⟩
        cases hgc : g (t_at b N y.1 + 1) with
        | inl e =>
          rw [hgc] at h4 hXo
          obtain ⟨i', h4⟩ := h4
          exact Or.inl ⟨e, i', hXo.symm, h4⟩
        | inr w =>
          rw [hgc] at h4 hXo hgj
          have hw1 := hgj.1.1
          exact Or.inr ⟨t_op o y w, hXo, h4.1, by show t + 1 ≤ w.1; omega, fun q => ⟨hval w hgc q, rp_wk_b _ _ _⟩⟩
      · rw [hw] at h4 hgj
        exact ⟨h4.2 q, hgj.2 L q⟩
    by_cases c1 : t_ch b N (t_at b N y.1) = 42
    · rw [if_pos c1] at hy
      rw [if_pos c1]
      refine go 4 (by omega) hy _ (fun r s4 v fin hval => ?_)
      show k_OK (k_if _ _ _) _
      rw [u_nx_e hb (by omega), if_pos c1, u_held, n_bd, ok_nm]
      refine fin _ (fun w hw q => ?_)
      obtain ⟨q1, q2⟩ := hv q
      obtain ⟨q3, q4⟩ := hval w hw q
      have hm := n_mul6 q2 q4
      rw [q1, q3, iI_l (by omega), iL_mul, u_h_e (by omega)]
      rfl
    · rw [if_neg c1] at hy
      rw [if_neg c1]
      by_cases c2 : t_ch b N (t_at b N y.1) = 47
      · rw [if_pos c2] at hy
        rw [if_pos c2]
        refine go 5 (by omega) hy _ (fun r s4 v fin hval => ?_)
        show k_OK (k_if _ _ _) _
        rw [u_nx_e hb (by omega), if_neg c1]
        by_cases c3 : r = iI 0
        · rw [n_ift c3, ok_nm]
          refine fin _ (fun w hw q => ?_)
          obtain ⟨q3, q4⟩ := hval w hw q
          rw [q3, iI_eq (by omega) (by omega)] at c3
          show iL 0 = iL (if w.2.2 L = 0 then 0 else rp_bd ((y.2.2 L).tdiv (w.2.2 L)))
          rw [if_pos c3]
        · rw [n_iff c3, n_gdt (u_z64 c3), u_held, n_bd, ok_nm]
          refine fin _ (fun w hw q => ?_)
          obtain ⟨q1, q2⟩ := hv q
          obtain ⟨q3, q4⟩ := hval w hw q
          rw [q3, iI_eq (by omega) (by omega)] at c3
          have hm := n_div6 q2 c3
          rw [q1, q3, iI_l (by omega), iL_div (by omega) (by omega), u_h_e (by omega)]
          show _ = iL (if w.2.2 L = 0 then 0 else rp_bd ((y.2.2 L).tdiv (w.2.2 L)))
          rw [if_neg c3]
      · rw [if_neg c2] at hy
        rw [if_neg c2, ok_some, ← hy]
        refine ⟨f2.tr f3, h3, fun q => ?_⟩
        show v2.toInt32 = iI (y.2.2 L)
        rw [(hv q).1, iL_i]
