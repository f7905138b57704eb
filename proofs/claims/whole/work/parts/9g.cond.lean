/-! the class's conditions, whole -/
theorem rp_wk_10 {a b : Int} : rp_wk 10 a b = if a ≠ 0 ∧ b ≠ 0 then 1 else 0 := rfl
theorem rp_wk_11 {a b : Int} : rp_wk 11 a b = if a ≠ 0 ∨ b ≠ 0 then 1 else 0 := rfl
theorem u_cond {L : Nat → Int} {N : Nat} {b : Nat → Int} (hb : t_by b N) {p : Int32 → k_St → Option (Int32 × k_St)} {d : Int32} {g : Nat → t_R} (hp : u_PB L N b (p d) g) (hG : t_G N g) (hZ : t_Z g) : u_PB L N b (b_X10_readCondition p d) (t_cnd g b N) := by
  intro s i h hL
  have hN := h.2.2.2.1.2.1
  generalize hX : t_cnd g b N i = X
  unfold b_X10_readCondition
  simp only [iI_lit]
  refine ok_for 160 (fun t (z : Int32 × Int32 × Int32 × k_St) => z.2.2.1 = iI (t : Nat) ∧ u_F 7 s z.2.2.2 ∧ (z.1 = iI 0 ∨ z.1 = iI 1) ∧ (z.2.1 = iI 0 ∨ z.2.1 = iI 1) ∧ ∃ (i' : Nat) (C D : t_V → t_V) (f1 f2 : Nat), u_S 7 N b z.2.2.2 i' (-1) ∧ t ≤ i' ∧ 200 ≤ f1 + t ∧ 200 ≤ f2 + t ∧ t_bd (t_bd (g i') (fun y => t_lp g b N 38 10 38 10 f1 (C y))) (fun w => t_lp (fun i => t_bd (g i) (t_and g b N)) b N 124 11 124 11 f2 (D w)) = X ∧ (∀ y, (C y).1 = y.1) ∧ (∀ w, (D w).1 = w.1) ∧ (r_let L → ∀ y : t_V, (y.2.2 L = 0 ∨ y.2.2 L = 1) → (C y).2.2 L = if z.2.1 = iI 0 ∨ y.2.2 L = 0 then 0 else 1) ∧ (r_let L → ∀ w : t_V, (w.2.2 L = 0 ∨ w.2.2 L = 1) → (D w).2.2 L = if z.1 = iI 0 ∧ w.2.2 L = 0 then 0 else 1)) ?_ (by omega) (j := 0) ?_ (by omega)
  rotate_left
  · refine ⟨rfl, u_F.rf, Or.inl rfl, Or.inr rfl, i, fun y => y, fun w => w, 200, 200, h, Nat.zero_le _, by omega, by omega, hX, fun _ => rfl, fun _ => rfl, fun _ y hy => ?_, fun _ w hw => ?_⟩
    · show y.2.2 L = if iI 1 = iI 0 ∨ y.2.2 L = 0 then 0 else 1
      rcases hy with e | e
      · rw [e, if_pos (Or.inr rfl)]
      · rw [e, if_neg (by decide)]
    · show w.2.2 L = if iI 0 = iI 0 ∧ w.2.2 L = 0 then 0 else 1
      rcases hw with e | e
      · rw [e, if_pos ⟨rfl, rfl⟩]
      · rw [e, if_neg (by decide)]
  rintro gg t ⟨v2, v3, v4, s2⟩ ⟨e4, f2, hv2, hv3, i', C, D, F1, F2, h2, hti, hF1, hF2, hXi, hC1, hD1, hCv, hDv⟩ ht hgo
  have e4 : v4 = iI (t : Nat) := e4
  subst e4
  have f2 : u_F 7 s s2 := f2
  have h2 : u_S 7 N b s2 i' (-1) := h2
  have hv2 : v2 = iI 0 ∨ v2 = iI 1 := hv2
  have hv3 : v3 = iI 0 ∨ v3 = iI 1 := hv3
  have hCv : r_let L → ∀ y : t_V, (y.2.2 L = 0 ∨ y.2.2 L = 1) → (C y).2.2 L = if v3 = iI 0 ∨ y.2.2 L = 0 then 0 else 1 := hCv
  have hDv : r_let L → ∀ w : t_V, (w.2.2 L = 0 ∨ w.2.2 L = 1) → (D w).2.2 L = if v2 = iI 0 ∧ w.2.2 L = 0 then 0 else 1 := hDv
  have hgi := hG i' h2.2.2.2.1.1
  obtain ⟨F1, rfl⟩ : ∃ k, F1 = k + 1 := ⟨F1 - 1, by omega⟩
  obtain ⟨F2, rfl⟩ : ∃ k, F2 = k + 1 := ⟨F2 - 1, by omega⟩
  show k_OK (k_if _ _ _) _
  rw [n_ilt (by omega) (by omega), if_neg (by omega), ok_b2]
  refine ok_mono (hp s2 i' h2 (fun q hq => (f2.2 11 q (by omega)).trans (hL q hq))) ?_
  rintro ⟨r, s3⟩ ⟨hB, f3, h3⟩
  have f3 : u_F 7 s2 s3 := f3
  have hB : r = iI 0 ∨ r = iI 1 := hB
  refine ok_jnI (fun jn => ∀ T : Int32, (T = iI 0 ∨ T = iI 1) → (∀ y, g i' = .inr y → r_let L → T = iI ((C y).2.2 L)) → k_OK (jn T) (fun r => (r.1 = iI 0 ∨ r.1 = iI 1) ∧ u_F 7 s r.2 ∧ u_R L N b X r)) ?_ ?_
  · intro T hT hTv
    show k_OK (k_bd _ _) _
    cases hgc : g i' with
    | inl e =>
      rw [hgc] at h3 hXi
      obtain ⟨i3, h3⟩ := h3
      have h3 : u_S 7 N b s3 i3 (e : Nat) := h3
      rw [u_failed h3, n_bd, if_neg (by omega), n_ieq (by omega) (by omega), if_neg (by omega), ok_some, ← hXi]
      exact ⟨Or.inl rfl, f2.tr f3, _, h3⟩
    | inr y =>
      rw [hgc] at h3 hXi hgi
      have hw1 := hgi.1.1
      have h3' : u_S 7 N b s3 y.1 (-1) := h3.1
      have hat := t_at_p (b := b) h3'.2.2.2.1.1
      have haa := t_at_at (b := b) h3'.2.2.2.1.1
      have hyZ := hZ _ _ hgc L
      have hTy := hTv y hgc
      have hCyZ : r_let L → (C y).2.2 L = 0 ∨ (C y).2.2 L = 1 := fun q => by
        rw [hCv q y hyZ]
        split
        · exact Or.inl rfl
        · exact Or.inr rfl
      have hXi : t_bd (t_lp g b N 38 10 38 10 (F1 + 1) (C y)) (fun w => t_lp (fun i => t_bd (g i) (t_and g b N)) b N 124 11 124 11 (F2 + 1) (D w)) = X := hXi
      rw [t_lp_s, hC1 y] at hXi
      obtain ⟨s4, e4, h4, f4⟩ := u_take (c := 38) hb h3' (by omega)
      rw [u_failed h3', n_bd, if_pos rfl, n_ift rfl, e4, n_b2, n_ieq (by split <;> omega) (by omega)]
      by_cases c1 : t_ch b N (t_at b N y.1) = 38
      · have hlt := t_ch_lt (b := b) (N := N) (i := t_at b N y.1) (by omega)
        rw [if_pos c1] at hXi h4 ⊢
        rw [if_neg (by omega), ok_nm, iI_add]
        refine hgo (v2, T, iI ((t : Int) + 1), s4) (by omega) ⟨rfl, (f2.tr f3).tr f4, hv2, hT, t_at b N y.1 + 1, t_op 10 (C y), D, F1, F2 + 1, h4, by omega, by omega, by omega, hXi, fun _ => rfl, hD1, fun q w hw => ?_, hDv⟩
        show rp_wk 10 ((C y).2.2 L) (w.2.2 L) = if T = iI 0 ∨ w.2.2 L = 0 then 0 else 1
        rw [hTy q, rp_wk_10]
        rcases hCyZ q with e | e
        · rw [e, if_neg (by omega), if_pos (Or.inl rfl)]
        · rw [e]
          rcases hw with e | e
          · rw [e]
            rfl
          · rw [e]
            rfl
      · rw [if_neg c1] at h4 ⊢
        rw [if_neg c1, if_neg c1] at hXi
        rw [if_pos rfl]
        have hXi : t_lp (fun i => t_bd (g i) (t_and g b N)) b N 124 11 124 11 (F2 + 1) (D (t_at b N y.1, (C y).2)) = X := hXi
        have hD1' := hD1 (t_at b N y.1, (C y).2)
        have hD0 : r_let L → (D (t_at b N y.1, (C y).2)).2.2 L = if v2 = iI 0 ∧ (C y).2.2 L = 0 then 0 else 1 := fun q => hDv q (t_at b N y.1, (C y).2) (hCyZ q)
        have hD1' : (D (t_at b N y.1, (C y).2)).1 = t_at b N y.1 := hD1'
        rw [t_lp_s, hD1', haa] at hXi
        generalize D (t_at b N y.1, (C y).2) = W at *
        refine ok_jnI (fun jn => ∀ U : Int32, (U = iI 0 ∨ U = iI 1) → (r_let L → U = iI (W.2.2 L)) → k_OK (jn U) (fun r => (r.1 = iI 0 ∨ r.1 = iI 1) ∧ u_F 7 s r.2 ∧ u_R L N b X r)) ?_ ?_
        · intro U hU hUv
          show k_OK (k_b2 _ _) _
          obtain ⟨s5, e5, h5, f5⟩ := u_take (c := 124) hb h4 (by omega)
          rw [haa] at e5 h5
          rw [e5, n_b2, n_ieq (by split <;> omega) (by omega)]
          by_cases c2 : t_ch b N (t_at b N y.1) = 124
          · have hlt := t_ch_lt (b := b) (N := N) (i := t_at b N y.1) (by omega)
            rw [if_pos c2] at hXi h5 ⊢
            rw [if_neg (by omega), ok_nm, iI_add]
            refine hgo (U, iI 1, iI ((t : Int) + 1), s5) (by omega) ⟨rfl, ((f2.tr f3).tr f4).tr f5, hU, Or.inr rfl, t_at b N y.1 + 1, fun y => y, t_op 11 W, 200, F2, h5, by omega, by omega, by omega, hXi, fun _ => rfl, fun _ => rfl, fun _ y hy => ?_, fun q w hw => ?_⟩
            · show y.2.2 L = if iI 1 = iI 0 ∨ y.2.2 L = 0 then 0 else 1
              rcases hy with e | e
              · rw [e, if_pos (Or.inr rfl)]
              · rw [e, if_neg (by decide)]
            · show rp_wk 11 (W.2.2 L) (w.2.2 L) = if U = iI 0 ∧ w.2.2 L = 0 then 0 else 1
              have hWZ : W.2.2 L = 0 ∨ W.2.2 L = 1 := by
                rw [hD0 q]
                split
                · exact Or.inl rfl
                · exact Or.inr rfl
              rw [hUv q, rp_wk_11]
              rcases hWZ with e | e
              · rw [e]
                rcases hw with e | e
                · rw [e]
                  rfl
                · rw [e]
                  rfl
              · rw [e, if_pos (by omega), if_neg (fun z => absurd z.1 (by decide))]
          · rw [if_neg c2] at h5 ⊢
            rw [if_neg c2, if_neg c2] at hXi
            rw [if_pos rfl, u_isB hU, ok_some, ← hXi]
            exact ⟨hU, ((f2.tr f3).tr f4).tr f5, h5, hUv⟩
        · intro jn hjn
          show k_OK (k_jn _ _) _
          simp only [n_jn]
          by_cases q1 : v2 = iI 0
          · rw [n_ift q1]
            by_cases q2 : T = iI 0
            · rw [n_ift q2]
              refine hjn _ (Or.inl rfl) (fun q => ?_)
              have hz := hCyZ q
              rw [hTy q, iI_eq (by omega) (by omega)] at q2
              rw [hD0 q, if_pos ⟨q1, q2⟩]
            · rw [n_iff q2]
              refine hjn _ (Or.inr rfl) (fun q => ?_)
              have hz := hCyZ q
              rw [hTy q, iI_eq (by omega) (by omega)] at q2
              rw [hD0 q, if_neg (fun z => q2 z.2)]
          · rw [n_iff q1]
            refine hjn _ (Or.inr rfl) (fun q => ?_)
            rw [hD0 q, if_neg (fun z => q1 z.1)]
  · intro jn hjn
    show k_OK (k_jn _ _) _
    simp only [n_jn]
    have hr : ∀ y, g i' = .inr y → r_let L → r = iI (y.2.2 L) := fun y hy q => by
      rw [hy] at h3
      exact h3.2 q
    by_cases q1 : v3 = iI 0
    · rw [n_ift q1]
      refine hjn _ (Or.inl rfl) (fun y hy q => ?_)
      rw [hCv q y (hZ _ _ hy L), if_pos (Or.inl q1)]
    · rw [n_iff q1]
      by_cases q2 : r = iI 0
      · rw [n_ift q2]
        refine hjn _ (Or.inl rfl) (fun y hy q => ?_)
        have hz := hZ _ _ hy L
        rw [hr y hy q, iI_eq (by omega) (by omega)] at q2
        rw [hCv q y hz, if_pos (Or.inr q2)]
      · rw [n_iff q2]
        refine hjn _ (Or.inr rfl) (fun y hy q => ?_)
        have hz := hZ _ _ hy L
        rw [hr y hy q, iI_eq (by omega) (by omega)] at q2
        rw [hCv q y hz, if_neg (fun z => z.elim q1 q2)]
theorem u_readUnit {L : Nat → Int} {N : Nat} {b : Nat → Int} (hb : t_by b N) : ∀ (k n : Nat), k < n → k ≤ 6 → u_PB L N b (f_X10_readUnit n (iI ((6 - k : Nat) : Int))) (t_unit b N k)
  | 0, n + 1, h, h6 => u_un hb (by omega) (u_readSum hb 0 20 (by omega) (by omega)) (t_sum_G hb 0) (fun i hi => t_sum_at hi) (fun i q => t_sum_bad q) (fun _ => rfl) (fun u q => by cases q)
  | k + 1, n + 1, h, h6 => u_un hb (by omega) (u_readSum hb (k + 1) 20 (by omega) (by omega)) (t_sum_G hb (k + 1)) (fun i hi => t_sum_at hi) (fun i q => t_sum_bad q) (fun q => by cases q) (fun u q => by
      cases q
      have ih := u_readUnit (L := L) hb k n (by omega) (by omega)
      rw [show ((6 - (k + 1) : Nat) : Int) + 1 = ((6 - k : Nat) : Int) by omega]
      exact ⟨by omega, t_unit_Z k, ih, u_cond hb ih (t_unit_G hb k) (t_unit_Z k)⟩)
