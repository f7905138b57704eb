/-! the class's sums -/
def u_h (x : Int64) : Int64 := o_lmax (-1000000 : Int64) (o_lmin (1000000 : Int64) x)
theorem u_held (x : Int64) : f_X10_held x = some (u_h x) := rfl
theorem u_h_e {z : Int} (h : -9223372036854775808 ≤ z ∧ z ≤ 9223372036854775807) : u_h (iL z) = iL (rp_bd z) := by
  unfold u_h rp_bd
  rw [show (-1000000 : Int64) = iL (-1000000) from rfl, show (1000000 : Int64) = iL 1000000 from rfl, iL_min (by omega) h, iL_max (by omega) (by omega)]
theorem t_lp_s {p : Nat → t_R} {b : Nat → Int} {N : Nat} {c1 o1 c2 o2 : Int} {f : Nat} {x : t_V} : t_lp p b N c1 o1 c2 o2 (f + 1) x = if t_ch b N (t_at b N x.1) = c1 then t_bd (p (t_at b N x.1 + 1)) (fun y => t_lp p b N c1 o1 c2 o2 f (t_op o1 x y))
    else if t_ch b N (t_at b N x.1) = c2 then t_bd (p (t_at b N x.1 + 1)) (fun y => t_lp p b N c1 o1 c2 o2 f (t_op o2 x y))
    else .inr (t_at b N x.1, x.2) := rfl
theorem u_nx_e {b : Nat → Int} {N j : Nat} (hb : t_by b N) {c : Int} (hc : 0 ≤ c ∧ c ≤ 255) {α : Type} {p q : Option α} [Decidable (iI (t_nx (t_ch b N j)) = iI c)] : k_if (iI (t_nx (t_ch b N j)) = iI c) p q = if t_ch b N j = c then p else q := by
  by_cases h : t_ch b N j = c
  · rw [if_pos h, n_ift ((t_nx_e hb hc).mpr h)]
  · rw [if_neg h, n_iff (fun z => h ((t_nx_e hb hc).mp z))]
theorem u_z64 {x : Int32} (h : ¬ x = iI 0) : ¬ x.toInt64 = 0 := fun q => h (Int32.toInt_inj.mp (by
  rw [← Int32.toInt_toInt64, q]
  rfl))
theorem n_mul6 {a b : Int} (ha : -1000000 ≤ a ∧ a ≤ 1000000) (hb : -1000000 ≤ b ∧ b ≤ 1000000) : -1000000000000 ≤ a * b ∧ a * b ≤ 1000000000000 := by
  have h1 := Int.mul_nonneg (show 0 ≤ 1000000 - a by omega) (show 0 ≤ 1000000 - b by omega)
  have h2 := Int.mul_nonneg (show 0 ≤ 1000000 + a by omega) (show 0 ≤ 1000000 + b by omega)
  have h3 := Int.mul_nonneg (show 0 ≤ 1000000 - a by omega) (show 0 ≤ 1000000 + b by omega)
  have h4 := Int.mul_nonneg (show 0 ≤ 1000000 + a by omega) (show 0 ≤ 1000000 - b by omega)
  rw [Int.sub_mul, Int.mul_sub, Int.mul_sub] at h1
  rw [Int.add_mul, Int.mul_add, Int.mul_add] at h2
  rw [Int.sub_mul, Int.mul_add, Int.mul_add] at h3
  rw [Int.add_mul, Int.mul_sub, Int.mul_sub] at h4
  omega
theorem n_div6 {a b : Int} (ha : -1000000 ≤ a ∧ a ≤ 1000000) (hb : ¬ b = 0) : -1000000 ≤ a.tdiv b ∧ a.tdiv b ≤ 1000000 := by
  have h1 : (a.tdiv b).natAbs ≤ a.natAbs := by
    rw [Int.natAbs_tdiv]
    exact Nat.div_le_self _ _
  omega
theorem u_term {L : Nat → Int} {N : Nat} {b : Nat → Int} (hb : t_by b N) {p : Int32 → k_St → Option (Int32 × k_St)} {d : Int32} {g : Nat → t_R} (hp : u_P L N b (p d) g) (hg : t_G N g) : u_P L N b (b_X10_readTerm p d) (t_chain g b N 42 4 47 5) := by
  intro s i h hL
  have hN := h.2.2.2.1.2.1
  have hgi := hg i h.2.2.2.1.1
  unfold b_X10_readTerm
  rw [ok_b2]
  refine ok_mono (hp s i h hL) ?_
  rintro ⟨r0, s0⟩ ⟨f0, hr0⟩
  rw [ok_nm]
  generalize hX : t_chain g b N 42 4 47 5 i = X
  have hX : t_bd (g i) (t_lp g b N 42 4 47 5 200) = X := hX
  refine ok_for 160 (fun t (z : Int64 × Int32 × k_St) => z.2.1 = iI (t : Nat) ∧ u_F 7 s z.2.2 ∧ ((∃ e i', X = .inl e ∧ u_S 7 N b z.2.2 i' (e : Nat)) ∨ ∃ y : t_V, t_lp g b N 42 4 47 5 (200 - t) y = X ∧ u_S 7 N b z.2.2 y.1 (-1) ∧ t ≤ y.1 ∧ (r_let L → z.1 = iL (y.2.2 L) ∧ -1000000 ≤ y.2.2 L ∧ y.2.2 L ≤ 1000000))) ?_ (by omega) (j := 0) ?_ (by omega)
  rotate_left
  · refine ⟨rfl, f0, ?_⟩
    cases hq : g i with
    | inl e =>
      rw [hq] at hr0 hX
      obtain ⟨i', hr0⟩ := hr0
      exact Or.inl ⟨e, i', hX.symm, hr0⟩
    | inr y =>
      rw [hq] at hr0 hX hgi
      refine Or.inr ⟨y, hX, hr0.1, Nat.zero_le _, fun q => ?_⟩
      have hb1 := hgi.2 L q
      have e := hr0.2 q
      have e : r0 = iI (y.2.2 L) := e
      exact ⟨by show r0.toInt64 = _; rw [e, iI_l (by omega)], hb1⟩
  rintro gg t ⟨v2, v4, s2⟩ ⟨e4, f2, hcase⟩ ht hgo
  have e4 : v4 = iI (t : Nat) := e4
  subst e4
  have f2 : u_F 7 s s2 := f2
  show k_OK (k_if _ _ _) _
  simp only [iI_lit]
  rw [n_ilt (by omega) (by omega), if_neg (by omega)]
  rcases hcase with ⟨e, i', rfl, h2⟩ | ⟨y, hy, h2, hty, hv⟩
  · have h2 : u_S 7 N b s2 i' (e : Nat) := h2
    obtain ⟨s3, e3, h3, f3⟩ := u_next hb h2
    rw [e3, n_b2, u_failed h3, n_bd, if_neg (by omega), n_ieq (by omega) (by omega), if_neg (by omega), ok_some]
    exact ⟨f2.tr f3, _, h3⟩
  · have h2 : u_S 7 N b s2 y.1 (-1) := h2
    have hv : r_let L → v2 = iL (y.2.2 L) ∧ -1000000 ≤ y.2.2 L ∧ y.2.2 L ≤ 1000000 := hv
    obtain ⟨s3, e3, h3, f3⟩ := u_next hb h2
    have hat := t_at_p (b := b) h2.2.2.2.1.1
    have haa := t_at_at (b := b) h2.2.2.2.1.1
    have hr := t_ch_r hb (t_at b N y.1)
    rw [show 200 - t = (200 - (t + 1)) + 1 by omega, t_lp_s] at hy
    rw [e3, n_b2, u_failed h3, n_bd, if_pos rfl, n_ift rfl]
    simp only [n_jn]
    rw [u_nx_e hb (c := 42) (by omega), u_nx_e hb (c := 47) (by omega)]
    have go : ∀ o : Int, t_at b N y.1 < N → t_bd (g (t_at b N y.1 + 1)) (fun w => t_lp g b N 42 4 47 5 (200 - (t + 1)) (t_op o y w)) = X → ∀ (K : Int32 → k_St → Option (Int32 × k_St)), (∀ r s4 (v : Int64), (∀ (val : Int64), (∀ w, g (t_at b N y.1 + 1) = .inr w → r_let L → val = iL (rp_wk o (y.2.2 L) (w.2.2 L))) → k_OK (gg (val, iI (t : Nat) + iI 1, s4)) (fun r => u_F 7 s r.2 ∧ u_R L N b X r)) → (∀ w, g (t_at b N y.1 + 1) = .inr w → r_let L → r = iI (w.2.2 L) ∧ -1000000 ≤ w.2.2 L ∧ w.2.2 L ≤ 1000000) → k_OK (K r s4) (fun r => u_F 7 s r.2 ∧ u_R L N b X r)) → k_OK (k_bd (f_X3_pass 7 s3) fun s49 => k_b2 (p d s49) K) (fun r => u_F 7 s r.2 ∧ u_R L N b X r) := by
      intro o hlt hXo K hK
      obtain ⟨s5, e5, h5, f5⟩ := u_pass h3
      rw [if_pos hlt] at h5
      rw [e5, n_bd, ok_b2]
      have hgj := hg (t_at b N y.1 + 1) (by omega)
      refine ok_mono (hp s5 (t_at b N y.1 + 1) h5 (fun q hq => (((f2.tr f3).tr f5).2 11 q (by omega)).trans (hL q hq))) ?_
      rintro ⟨r, s4⟩ ⟨f4, h4⟩
      have f4 : u_F 7 s5 s4 := f4
      refine hK r s4 0 (fun val hval => ?_) (fun w hw q => ?_)
      · rw [iI_add]
        refine hgo (val, iI ((t : Int) + 1), s4) (by omega) ⟨rfl, ((f2.tr f3).tr f5).tr f4, ?_⟩
        cases hgc : g (t_at b N y.1 + 1) with
        | inl e =>
          rw [hgc] at h4 hXo
          obtain ⟨i', h4⟩ := h4
          exact Or.inl ⟨e, i', hXo.symm, h4⟩
        | inr w =>
          rw [hgc] at h4 hXo hgj
          have hw1 := hgj.1.1
          exact Or.inr ⟨t_op o y w, hXo, h4.1, by show t + 1 ≤ w.1; omega, fun q => ⟨hval w hgc q, rp_wk_b _ _ _⟩⟩
      · rw [hw] at h4 hgj
        exact ⟨h4.2 q, hgj.2 L q⟩
    by_cases c1 : t_ch b N (t_at b N y.1) = 42
    · rw [if_pos c1] at hy
      rw [if_pos c1]
      refine go 4 (by omega) hy _ (fun r s4 v fin hval => ?_)
      show k_OK (k_if _ _ _) _
      rw [u_nx_e hb (by omega), if_pos c1, u_held, n_bd, ok_nm]
      refine fin _ (fun w hw q => ?_)
      obtain ⟨q1, q2⟩ := hv q
      obtain ⟨q3, q4⟩ := hval w hw q
      have hm := n_mul6 q2 q4
      rw [q1, q3, iI_l (by omega), iL_mul, u_h_e (by omega)]
      rfl
    · rw [if_neg c1] at hy
      rw [if_neg c1]
      by_cases c2 : t_ch b N (t_at b N y.1) = 47
      · rw [if_pos c2] at hy
        rw [if_pos c2]
        refine go 5 (by omega) hy _ (fun r s4 v fin hval => ?_)
        show k_OK (k_if _ _ _) _
        rw [u_nx_e hb (by omega), if_neg c1]
        by_cases c3 : r = iI 0
        · rw [n_ift c3, ok_nm]
          refine fin _ (fun w hw q => ?_)
          obtain ⟨q3, q4⟩ := hval w hw q
          rw [q3, iI_eq (by omega) (by omega)] at c3
          show iL 0 = iL (if w.2.2 L = 0 then 0 else rp_bd ((y.2.2 L).tdiv (w.2.2 L)))
          rw [if_pos c3]
        · rw [n_iff c3, n_gdt (u_z64 c3), u_held, n_bd, ok_nm]
          refine fin _ (fun w hw q => ?_)
          obtain ⟨q1, q2⟩ := hv q
          obtain ⟨q3, q4⟩ := hval w hw q
          rw [q3, iI_eq (by omega) (by omega)] at c3
          have hm := n_div6 q2 c3
          rw [q1, q3, iI_l (by omega), iL_div (by omega) (by omega), u_h_e (by omega)]
          show _ = iL (if w.2.2 L = 0 then 0 else rp_bd ((y.2.2 L).tdiv (w.2.2 L)))
          rw [if_neg c3]
      · rw [if_neg c2] at hy
        rw [if_neg c2, ok_some, ← hy]
        refine ⟨f2.tr f3, h3, fun q => ?_⟩
        show v2.toInt32 = iI (y.2.2 L)
        rw [(hv q).1, iL_i]
theorem t_bd_eta (x : t_R) (k : t_V → t_R) : t_bd x (fun w => k ((fun w => w) w)) = t_bd x k := rfl
theorem u_sum {L : Nat → Int} {N : Nat} {b : Nat → Int} (hb : t_by b N) {p : Int32 → k_St → Option (Int32 × k_St)} {d : Int32} {g : Nat → t_R} (hp : u_P L N b (p d) g) (hg : t_G N g) : u_P L N b (b_X10_readSum p d) (t_chain g b N 43 2 45 3) := by
  intro s i h hL
  have hN := h.2.2.2.1.2.1
  unfold b_X10_readSum
  generalize hX : t_chain g b N 43 2 45 3 i = X
  have hX : t_bd (g i) (t_lp g b N 43 2 45 3 200) = X := hX
  refine ok_for 160 (fun t (z : Int64 × Int32 × Int32 × k_St) => z.2.2.1 = iI (t : Nat) ∧ u_F 7 s z.2.2.2 ∧ ∃ (i' : Nat) (C : t_V → t_V), u_S 7 N b z.2.2.2 i' (-1) ∧ t ≤ i' ∧ t_bd (g i') (fun w => t_lp g b N 43 2 45 3 (200 - t) (C w)) = X ∧ (∀ w, (C w).1 = w.1) ∧ ∀ w : t_V, r_let L → -1000000 ≤ w.2.2 L ∧ w.2.2 L ≤ 1000000 → u_h (if z.2.1 = iI 0 then z.1 + iL (w.2.2 L) else z.1 - iL (w.2.2 L)) = iL ((C w).2.2 L) ∧ -1000000 ≤ (C w).2.2 L ∧ (C w).2.2 L ≤ 1000000) ?_ (by omega) (j := 0) ?_ (by omega)
  rotate_left
  · refine ⟨rfl, u_F.rf, i, fun w => w, h, Nat.zero_le _, (t_bd_eta (g i) (t_lp g b N 43 2 45 3 200)).trans hX, fun _ => rfl, fun w q hw => ⟨?_, hw⟩⟩
    show u_h (if iI 0 = iI 0 then iL 0 + iL (w.2.2 L) else iL 0 - iL (w.2.2 L)) = _
    rw [if_pos rfl, iL_add, u_h_e (by omega)]
    unfold rp_bd
    congr 1
    show max (-1000000) (min 1000000 (0 + w.2.2 L)) = w.2.2 L
    omega
  rintro gg t ⟨v2, v3, v4, s2⟩ ⟨e4, f2, i', C, h2, hti, hXi, hC1, hCv⟩ ht hgo
  have e4 : v4 = iI (t : Nat) := e4
  subst e4
  have f2 : u_F 7 s s2 := f2
  have h2 : u_S 7 N b s2 i' (-1) := h2
  have hCv : ∀ w : t_V, r_let L → -1000000 ≤ w.2.2 L ∧ w.2.2 L ≤ 1000000 → u_h (if v3 = iI 0 then v2 + iL (w.2.2 L) else v2 - iL (w.2.2 L)) = iL ((C w).2.2 L) ∧ -1000000 ≤ (C w).2.2 L ∧ (C w).2.2 L ≤ 1000000 := hCv
  have hgi := hg i' h2.2.2.2.1.1
  show k_OK (k_if _ _ _) _
  simp only [iI_lit]
  rw [n_ilt (by omega) (by omega), if_neg (by omega), ok_b2]
  refine ok_mono (hp s2 i' h2 (fun q hq => (f2.2 11 q (by omega)).trans (hL q hq))) ?_
  rintro ⟨r, s3⟩ ⟨f3, h3⟩
  have f3 : u_F 7 s2 s3 := f3
  -- both ways of joining
  have key : ∀ T : Int64, (∀ w, g i' = .inr w → r_let L → u_h T = iL ((C w).2.2 L)) → k_OK (k_bd (f_X10_held T) fun v41 =>
          k_b2 (f_X3_next 7 s3) fun v46 s46 =>
          k_bd (f_X3_failed 7 s46) fun v52 =>
          k_if (v52 = iI 0)
            (k_jn (fun (_ : Unit) =>
              k_jn (fun (t0_87 : Int32) =>
                k_bd (f_X3_pass 7 s46) fun s90 =>
                k_nm (iI (t : Nat) + iI 1) fun y93 =>
                gg (v41, t0_87, y93, s90)) fun j87 =>
              k_if (v46 = iI 45)
                (j87 (iI 1))
                (j87 (iI 0))) fun j75 =>
            k_if (v46 = iI 43)
              (j75 ())
              (k_if (v46 = iI 45)
                (j75 ())
                (some (v41.toInt32, s46))))
            (some (v41.toInt32, s46))) (fun r => u_F 7 s r.2 ∧ u_R L N b X r) := fun T hT => by
    rw [u_held, n_bd]
    cases hgc : g i' with
    | inl e =>
      rw [hgc] at h3 hXi
      obtain ⟨i3, h3⟩ := h3
      have h3 : u_S 7 N b s3 i3 (e : Nat) := h3
      obtain ⟨s4, e4, h4, f4⟩ := u_next hb h3
      rw [e4, n_b2, u_failed h4, n_bd, if_neg (by omega), n_ieq (by omega) (by omega), if_neg (by omega), ok_some, ← hXi]
      exact ⟨(f2.tr f3).tr f4, _, h4⟩
    | inr w =>
      rw [hgc] at h3 hXi hgi
      have hw1 := hgi.1.1
      have h3' : u_S 7 N b s3 w.1 (-1) := h3.1
      obtain ⟨s4, e4, h4, f4⟩ := u_next hb h3'
      have hr := t_ch_r hb (t_at b N w.1)
      have hat := t_at_p (b := b) h3'.2.2.2.1.1
      have hXi : t_lp g b N 43 2 45 3 (200 - t) (C w) = X := hXi
      rw [show 200 - t = (200 - (t + 1)) + 1 by omega, t_lp_s, hC1 w] at hXi
      rw [e4, n_b2, u_failed h4, n_bd, if_pos rfl, n_ift rfl]
      simp only [n_jn]
      rw [u_nx_e hb (c := 45) (by omega), u_nx_e hb (c := 43) (by omega)]
      have go : ∀ (o : Int) (sg : Int32), (o = 2 ∧ sg = iI 0 ∨ o = 3 ∧ sg = iI 1) → t_at b N w.1 < N → t_bd (g (t_at b N w.1 + 1)) (fun y => t_lp g b N 43 2 45 3 (200 - (t + 1)) (t_op o (C w) y)) = X → k_OK (k_bd (f_X3_pass 7 s4) fun s90 =>
                k_nm (iI (t : Nat) + iI 1) fun y93 =>
                gg (u_h T, sg, y93, s90)) (fun r => u_F 7 s r.2 ∧ u_R L N b X r) := by
        intro o sg ho hlt hXo
        obtain ⟨s5, e5, h5, f5⟩ := u_pass h4
        rw [if_pos hlt] at h5
        rw [e5, n_bd, ok_nm, iI_add]
        refine hgo (u_h T, sg, iI ((t : Int) + 1), s5) (by omega) ⟨rfl, ((f2.tr f3).tr f4).tr f5, t_at b N w.1 + 1, t_op o (C w), h5, by omega, hXo, fun _ => rfl, fun y q hy => ⟨?_, rp_wk_b _ _ _⟩⟩
        obtain ⟨q1, q2, q3⟩ := hCv w q (hgi.2 L q)
        show u_h (if sg = iI 0 then u_h T + iL (y.2.2 L) else u_h T - iL (y.2.2 L)) = iL (rp_wk o ((C w).2.2 L) (y.2.2 L))
        rw [hT w hgc q]
        rcases ho with ⟨rfl, rfl⟩ | ⟨rfl, rfl⟩
        · rw [if_pos rfl, iL_add, u_h_e (by omega)]
          rfl
        · rw [if_neg (by decide), iL_sub, u_h_e (by omega)]
          rfl
      by_cases c1 : t_ch b N (t_at b N w.1) = 43
      · rw [if_pos c1] at hXi
        rw [if_pos c1, if_neg (by omega)]
        exact go 2 (iI 0) (Or.inl ⟨rfl, rfl⟩) (by omega) hXi
      · rw [if_neg c1] at hXi
        rw [if_neg c1]
        by_cases c2 : t_ch b N (t_at b N w.1) = 45
        · rw [if_pos c2] at hXi
          rw [if_pos c2, u_nx_e hb (c := 45) (by omega), if_pos c2]
          exact go 3 (iI 1) (Or.inr ⟨rfl, rfl⟩) (by omega) hXi
        · rw [if_neg c2] at hXi
          rw [if_neg c2, u_nx_e hb (c := 45) (by omega), if_neg c2, ok_some, ← hXi]
          refine ⟨(f2.tr f3).tr f4, h4, fun q => ?_⟩
          show (u_h T).toInt32 = iI ((C w).2.2 L)
          rw [hT w hgc q, iL_i]
  show k_OK (k_jn _ _) _
  simp only [n_jn]
  have hval : ∀ w, g i' = .inr w → r_let L → r.toInt64 = iL (w.2.2 L) ∧ -1000000 ≤ w.2.2 L ∧ w.2.2 L ≤ 1000000 := fun w hw q => by
    rw [hw] at h3 hgi
    have hw2 := hgi.2 L q
    have e : r = iI (w.2.2 L) := h3.2 q
    exact ⟨by rw [e, iI_l (by omega)], hw2⟩
  by_cases c : v3 = iI 0
  · rw [n_ift c]
    exact key _ (fun w hw q => by
      have hw2 := hval w hw q
      have := (hCv w q hw2.2).1
      rw [if_pos c] at this
      rw [hw2.1]
      exact this)
  · rw [n_iff c]
    exact key _ (fun w hw q => by
      have hw2 := hval w hw q
      have := (hCv w q hw2.2).1
      rw [if_neg c] at this
      rw [hw2.1]
      exact this)
theorem u_readSum {L : Nat → Int} {N : Nat} {b : Nat → Int} (hb : t_by b N) : ∀ (k n : Nat), k < n → k ≤ 6 → u_P L N b (f_X10_readSum n (iI ((6 - k : Nat) : Int))) (t_sum b N k)
  | 0, n + 1, h, h6 => u_sum hb (u_term hb (u_atom hb (by omega) (fun _ => rfl) (fun g q => by cases q)) (t_atom_G hb (fun g q => by cases q))) (t_chain_G (t_atom_G hb (fun g q => by cases q)) (by decide) (by decide))
  | k + 1, n + 1, h, h6 => u_sum hb (u_term hb (u_atom hb (by omega) (fun q => by cases q) (fun g q => by
      cases q
      refine ⟨by omega, ?_⟩
      rw [show ((6 - (k + 1) : Nat) : Int) + 1 = ((6 - k : Nat) : Int) by omega]
      exact u_readSum hb k n (by omega) (by omega))) (t_atom_G hb (fun g q => by cases q; exact t_sum_G hb k))) (t_chain_G (t_atom_G hb (fun g q => by cases q; exact t_sum_G hb k)) (by decide) (by decide))
