/-! the class reckons what the places are worth -/
theorem u_letItBe {s : k_St} {p : Nat} (hp : p < 6) : ∃ s', f_X10_letItBe (iI (p : Int)) s = some s' ∧ s'.2 = s.2 ∧ (∀ c k, ¬ c = 11 → s'.1 c k = s.1 c k) ∧ s'.1 11 0 = s.1 13 (4 * p + 3) ∧ s'.1 11 1 = iI (p : Int) ∧ s'.1 11 2 = s.1 13 (4 * p + 1) ∧ s'.1 11 3 = s.1 13 (4 * p + 2) ∧ s'.1 11 4 = s.1 13 (4 * p) := by
  have t3 : ∀ s, f_X1_told (iI (p : Int)) (iI 3) s = some (s.1 13 (4 * p + 3)) := fun s => n_told (j := 3) hp (by omega)
  have t2 : ∀ s, f_X1_told (iI (p : Int)) (iI 2) s = some (s.1 13 (4 * p + 2)) := fun s => n_told (j := 2) hp (by omega)
  have t1 : ∀ s, f_X1_told (iI (p : Int)) (iI 1) s = some (s.1 13 (4 * p + 1)) := fun s => n_told (j := 1) hp (by omega)
  have t0 : ∀ s, f_X1_told (iI (p : Int)) (iI 0) s = some (s.1 13 (4 * p)) := fun s => n_told (j := 0) hp (by omega)
  have z0 : (iI 0).toNatClampNeg = 0 := iI_cl (by omega)
  have z1 : (iI 1).toNatClampNeg = 1 := iI_cl (by omega)
  have z2 : (iI 2).toNatClampNeg = 2 := iI_cl (by omega)
  have z3 : (iI 3).toNatClampNeg = 3 := iI_cl (by omega)
  have z4 : (iI 4).toNatClampNeg = 4 := iI_cl (by omega)
  unfold f_X10_letItBe
  simp only [iI_lit, z0, z1, z2, z3, z4]
  rw [t3, n_bd, n_gix (by omega) (by omega), n_nm, n_gix (by omega) (by omega), n_nm, t1, n_bd, n_gix (by omega) (by omega), n_nm, t2, n_bd, n_gix (by omega) (by omega), n_nm, t0, n_bd, n_gix (by omega) (by omega), n_nm]
  refine ⟨_, rfl, rfl, fun c k hc => ?_, ?_, ?_, ?_, ?_, ?_⟩
  · rw [wr_c hc, wr_c hc, wr_c hc, wr_c hc, wr_c hc]
  · rw [wr_k (by decide), wr_k (by decide), wr_k (by decide), wr_k (by decide)]
    exact wr_s
  · rw [wr_k (by decide), wr_k (by decide), wr_k (by decide)]
    exact wr_s
  · rw [wr_k (by decide), wr_k (by decide), wr_s, wr_c (by decide), wr_c (by decide)]
  · rw [wr_k (by decide), wr_s, wr_c (by decide), wr_c (by decide), wr_c (by decide)]
  · rw [wr_s, wr_c (by decide), wr_c (by decide), wr_c (by decide), wr_c (by decide)]
def u_FR (σ s : k_St) : Prop := s.2 = σ.2 ∧ ∀ c k, ¬ (c = 7 ∧ (k = 1 ∨ k = 2 ∨ k = 3 ∨ k = 9 ∨ k = 10)) → ¬ (c = 8 ∨ c = 11 ∨ c = 14 ∨ c = 15) → s.1 c k = σ.1 c k
theorem u_reckon {σ : k_St} {n : Nat} {a : Int} {Lf : Nat → Nat → Int} {W : Nat → Int} (hn : σ.1 12 0 = iI (n : Int)) (hn6 : n ≤ 6) (h75 : σ.1 7 5 = iI a) (ha : -1 ≤ a ∧ a ≤ 3) (hT : ∀ p : Nat, p < n → σ.1 13 (4 * p + 3) = iI (Lf p 0) ∧ (p : Int) = Lf p 1 ∧ σ.1 13 (4 * p + 1) = iI (Lf p 2) ∧ σ.1 13 (4 * p + 2) = iI (Lf p 3) ∧ σ.1 13 (4 * p) = iI (Lf p 4)) (hR : ∀ p, p < n → r_let (Lf p)) (hm : a = -1 → ∀ p, p < n → W p = Lf p 0) (hl : 0 ≤ a → ∃ (N : Nat) (b : Nat → Int) (cs : List t_C), σ.1 10 a.toNat = iI (N : Int) ∧ N ≤ 160 ∧ t_by b N ∧ (∀ j, j < N → σ.1 9 (160 * a.toNat + j) = iI (b j)) ∧ t_cls b N 200 0 = .inr cs ∧ ∀ p, p < n → W p = max 0 (min 999 (t_val (Lf p) cs)) ∧ -1000000 ≤ t_val (Lf p) cs ∧ t_val (Lf p) cs ≤ 1000000) : k_OK (f_X10_reckonFor σ) (fun s => u_FR σ s ∧ ∀ p, p < n → s.1 14 p = iI (W p) ∧ s.1 15 p = iI (W p * Lf p 4)) := by
  unfold f_X10_reckonFor
  simp only [iI_lit]
  have e75 : k_rd σ 7 5 = iI a := h75
  rw [e75, n_within (by omega) (by omega) (by omega), n_bd]
  refine ok_jnI (fun jn => ∀ s, u_FR σ s → (a = -1 ∨ 0 ≤ a ∧ ∃ (N : Nat) (b : Nat → Int) (cs : List t_C), t_by b N ∧ (∃ i e, u_S 7 N b s i e) ∧ t_cls b N 200 0 = .inr cs ∧ ∀ p, p < n → W p = max 0 (min 999 (t_val (Lf p) cs)) ∧ -1000000 ≤ t_val (Lf p) cs ∧ t_val (Lf p) cs ≤ 1000000) → k_OK (jn s) (fun s => u_FR σ s ∧ ∀ p, p < n → s.1 14 p = iI (W p) ∧ s.1 15 p = iI (W p * Lf p 4))) ?_ ?_
  · intro s0 f0 hc0
    show k_OK (k_loop _ _ _) _
    refine ok_for n (fun t (z : Int32 × k_St) => z.1 = iI (t : Nat) ∧ u_FR σ z.2 ∧ (a = -1 ∨ 0 ≤ a ∧ ∃ (N : Nat) (b : Nat → Int) (cs : List t_C), t_by b N ∧ (∃ i e, u_S 7 N b z.2 i e) ∧ t_cls b N 200 0 = .inr cs ∧ ∀ p, p < n → W p = max 0 (min 999 (t_val (Lf p) cs)) ∧ -1000000 ≤ t_val (Lf p) cs ∧ t_val (Lf p) cs ≤ 1000000) ∧ ∀ p, p < t → z.2.1 14 p = iI (W p) ∧ z.2.1 15 p = iI (W p * Lf p 4)) ?_ (by omega) (j := 0) ⟨rfl, f0, hc0, fun p hp => absurd hp (by omega)⟩ (by omega)
    rintro gg t ⟨v3, s⟩ ⟨e4, f, hc, hv⟩ ht hgo
    have e4 : v3 = iI (t : Nat) := e4
    subst e4
    have f : u_FR σ s := f
    have hv : ∀ p, p < t → s.1 14 p = iI (W p) ∧ s.1 15 p = iI (W p * Lf p 4) := hv
    show k_OK (k_if _ _ _) _
    dsimp only
    have e12 : k_rd s 12 0 = iI (n : Int) := (f.2 12 0 (by omega) (by omega)).trans hn
    rw [e12, n_ile (by omega) (by omega)]
    by_cases c1 : (n : Int) ≤ t
    · rw [if_pos c1, ok_some]
      exact ⟨f, fun p hp => hv p (by omega)⟩
    have ht' : t < n := by omega
    obtain ⟨t3, tp, t1, t2, t0⟩ := hT t ht'
    have hRt := hR t ht'
    have hr0 := hRt 0 (by omega)
    have hr4 := hRt 4 (by omega)
    have et3 : f_X1_told (iI (t : Nat)) (iI 3) s = some (iI (Lf t 0)) := (n_told (j := 3) (by omega) (by omega)).trans (congrArg some ((f.2 13 _ (by omega) (by omega)).trans t3))
    rw [if_neg c1, et3, n_bd, ok_nm]
    -- the end of a round
    refine ok_jnI (fun jn => ∀ s7 v, u_FR σ s7 → (∀ k, s7.1 14 k = s.1 14 k ∧ s7.1 15 k = s.1 15 k) → (a = -1 ∨ 0 ≤ a ∧ ∃ (N : Nat) (b : Nat → Int) (cs : List t_C), t_by b N ∧ (∃ i e, u_S 7 N b s7 i e) ∧ t_cls b N 200 0 = .inr cs ∧ ∀ p, p < n → W p = max 0 (min 999 (t_val (Lf p) cs)) ∧ -1000000 ≤ t_val (Lf p) cs ∧ t_val (Lf p) cs ≤ 1000000) → s7.1 7 10 = iI v → (-1000000 ≤ v ∧ v ≤ 1000000) → W t = max 0 (min 999 v) → k_OK (jn s7) (fun s => u_FR σ s ∧ ∀ p, p < n → s.1 14 p = iI (W p) ∧ s.1 15 p = iI (W p * Lf p 4))) ?_ ?_
    · intro s7 v f7 h14 hc7 h10 hvb hW
      show k_OK (k_bd _ _) _
      have e10 : k_rd s7 7 10 = iI v := h10
      have et0 : ∀ y : Int32, f_X1_told (iI (t : Nat)) (iI 0) (k_wr s7 14 t y) = some (iI (Lf t 4)) := fun y => (n_told (j := 0) (by omega) (by omega)).trans (congrArg some (by
        rw [wr_c (by decide), f7.2 13 _ (by omega) (by omega)]
        exact t0))
      have hWb : 0 ≤ W t ∧ W t ≤ 999 := by omega
      have es : f_X1_setWorth (iI (t : Nat)) (o_max (iI 0) (o_min (iI 999) (k_rd s7 7 10))) s7 = some (k_wr (k_wr s7 14 t (iI (W t))) 15 t (iI (W t * Lf t 4))) := by
        unfold f_X1_setWorth
        simp only [iI_lit]
        rw [e10, iI_min (by omega) (by omega), iI_max (by omega) (by omega), ← hW, n_within (by omega) (by omega) (by omega), n_bd, n_ib, if_pos (by omega), n_gix (by omega) (by omega), n_nm, iI_cl (by omega), Int.toNat_natCast, et0, n_bd, n_gix (by omega) (by omega), n_nm, iI_mul]
      rw [es, n_bd, ok_nm, iI_add]
      refine hgo (iI ((t : Int) + 1), k_wr (k_wr s7 14 t (iI (W t))) 15 t (iI (W t * Lf t 4))) (by omega) ⟨rfl, ⟨f7.1, fun c k h1 h2 => ?_⟩, ?_, fun p hp => ?_⟩
      · show (k_wr (k_wr s7 14 t (iI (W t))) 15 t (iI (W t * Lf t 4))).1 c k = _
        rw [wr_c (by omega), wr_c (by omega)]
        exact f7.2 c k h1 h2
      · rcases hc7 with q | ⟨q0, N, b, cs, q1, ⟨i, e, q2⟩, q3, q4⟩
        · exact Or.inl q
        · refine Or.inr ⟨q0, N, b, cs, q1, ⟨i, e, ?_⟩, q3, q4⟩
          obtain ⟨g1, g2, g3, g4, g5⟩ := q2
          exact ⟨g1, g2, g3, g4, g5⟩
      · show (k_wr (k_wr s7 14 t (iI (W t))) 15 t (iI (W t * Lf t 4))).1 14 p = _ ∧ (k_wr (k_wr s7 14 t (iI (W t))) 15 t (iI (W t * Lf t 4))).1 15 p = _
        by_cases q : p = t
        · subst q
          exact ⟨by
            rw [wr_c (by decide)]
            exact wr_s, wr_s⟩
        · rw [wr_c (by decide), wr_k q, wr_k q, wr_c (by decide), (h14 p).1, (h14 p).2]
          exact hv p (by omega)
    · intro jn hjn
      show k_OK (k_if _ _ _) _
      have f10 : ∀ y : Int32, u_FR σ (k_wr s 7 10 y) := fun y => ⟨f.1, fun c k h1 h2 => by
        rw [wr_if, if_neg (by omega)]
        exact f.2 c k h1 h2⟩
      rw [n_ib]
      rcases hc with q | ⟨q0, N, b, cs, q1, ⟨i, e, q2⟩, q3, q4⟩
      · rw [if_neg (by omega)]
        refine hjn _ (Lf t 0) (f10 _) (fun k => ⟨by rw [wr_c (by decide)], by rw [wr_c (by decide)]⟩) (Or.inl q) wr_s (by omega) ?_
        rw [hm q t ht']
        omega
      · rw [if_pos (by omega)]
        obtain ⟨s1, e1, l1, l2, l3, l4, l5, l6, l7⟩ := u_letItBe (s := k_wr s 7 10 (iI (Lf t 0))) (p := t) (by omega)
        have h1 : u_S 7 N b s1 i e := by
          obtain ⟨g1, g2, g3, g4, g5⟩ := q2.w9 (k := 10) (x := iI (Lf t 0)) (Or.inr rfl)
          refine ⟨(l2 _ _ (by decide)).trans g1, (l2 _ _ (by decide)).trans g2, (l2 _ _ (by decide)).trans g3, g4, fun j hj => (l2 _ _ (by decide)).trans (g5 j hj)⟩
        obtain ⟨s2, e2, h2, f2⟩ := u_restart h1
        have hS : ∀ k, k = 4 * t ∨ k = 4 * t + 1 ∨ k = 4 * t + 2 ∨ k = 4 * t + 3 → (k_wr s 7 10 (iI (Lf t 0))).1 13 k = σ.1 13 k := fun k _ => by
          rw [wr_c (by decide)]
          exact f.2 13 k (by omega) (by omega)
        have hL : ∀ j, j < 5 → s2.1 11 j = iI (Lf t j) := fun j hj => by
          rw [f2.2 11 j (by omega)]
          rcases (show j = 0 ∨ j = 1 ∨ j = 2 ∨ j = 3 ∨ j = 4 by omega) with rfl | rfl | rfl | rfl | rfl
          · rw [l3, hS _ (by omega)]
            exact t3
          · rw [l4, tp]
          · rw [l5, hS _ (by omega)]
            exact t1
          · rw [l6, hS _ (by omega)]
            exact t2
          · rw [l7, hS _ (by omega)]
            exact t0
        rw [e1, n_bd, e2, n_bd, ok_bd]
        refine ok_mono (u_clauses (L := Lf t) q1 h2 hL) ?_
        rintro s3 ⟨f3, h3⟩
        rw [q3] at h3
        obtain ⟨⟨i3, h3⟩, hv3⟩ := h3
        obtain ⟨w1, w2⟩ := q4 t ht'
        have fall : ∀ c k, ¬ (c = 7 ∧ (k = 2 ∨ k = 3 ∨ k = 9 ∨ k = 10)) → ¬ c = 11 → s3.1 c k = s.1 c k := fun c k g1 g2 => by
          rw [f3.2 c k g1, f2.2 c k (by omega), l2 c k g2, wr_if, if_neg (by omega)]
        refine hjn s3 _ ⟨f3.1.trans (f2.1.trans (l1.trans f.1)), fun c k g1 g2 => ?_⟩ (fun k => ⟨fall _ _ (by omega) (by omega), fall _ _ (by omega) (by omega)⟩) (Or.inr ⟨q0, N, b, cs, q1, ⟨_, _, h3⟩, q3, q4⟩) (hv3 hRt) w2 w1
        rw [fall c k (by omega) (by omega)]
        exact f.2 c k g1 g2
  · intro jn hjn
    show k_OK (k_if _ _ _) _
    rw [n_ib]
    by_cases c : 0 ≤ a
    · obtain ⟨N, b, cs, g1, g2, g3, g4, g5, g6⟩ := hl c
      obtain ⟨s1, e1, h1, k1, k2⟩ := u_load (c0 := 7) (A := 9) (M := 640) (o := 160 * a.toNat) (σ := σ) rfl (by omega) (by omega) g2 g4 (by omega)
      have e10 : k_rd σ 10 a.toNat = iI (N : Int) := g1
      rw [if_pos (by omega), n_gix (by omega) (by omega), iI_mul, iI_cl (by omega), e10, show a * 160 = ((160 * a.toNat : Nat) : Int) by omega, e1, n_bd]
      exact hjn s1 ⟨k1, fun c k q1 q2 => k2 c k (by omega) (by omega)⟩ (Or.inr ⟨c, N, b, cs, g3, ⟨_, _, h1⟩, g5, g6⟩)
    · rw [if_neg (by omega)]
      exact hjn σ ⟨rfl, fun _ _ _ _ => rfl⟩ (Or.inl (by omega))
