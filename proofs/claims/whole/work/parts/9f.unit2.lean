/-! the class's units -/
def u_PB (L : Nat → Int) (N : Nat) (b : Nat → Int) (f : k_St → Option (Int32 × k_St)) (g : Nat → t_R) : Prop := ∀ s i, u_S 7 N b s i (-1) → (∀ j, j < 5 → s.1 11 j = iI (L j)) → k_OK (f s) (fun r => (r.1 = iI 0 ∨ r.1 = iI 1) ∧ u_F 7 s r.2 ∧ u_R L N b (g i) r)
theorem u_isC {b : Nat → Int} {N j : Nat} (hb : t_by b N) : f_X10_isComparison (iI (t_nx (t_ch b N j))) = some (iI (if t_cs (t_ch b N j) = -1 then 0 else 1)) := by
  unfold f_X10_isComparison t_cs
  simp only [iI_lit]
  rw [u_nx_e hb (by omega), u_nx_e hb (by omega), u_nx_e hb (by omega)]
  repeat' split
  all_goals first | rfl | omega
theorem u_isB {r : Int32} {β : Type} {q : Option β} [Decidable (o_isB r = true)] (h : r = iI 0 ∨ r = iI 1) : k_gd (o_isB r = true) q = q := n_gdt (by
  rcases h with rfl | rfl
  · rfl
  · rfl)
theorem u_un {L : Nat → Int} {N : Nat} {b : Nat → Int} (hb : t_by b N) {pc pu : Int32 → k_St → Option (Int32 × k_St)} {un : Option (Nat → t_R)} {sm : Nat → t_R} {d : Nat} (hd : d ≤ 6) (hs : u_P L N b (f_X10_readSum 20 (iI (d : Int))) sm) (hG : t_G N sm) (hst : ∀ i, i ≤ N → sm (t_at b N i) = sm i) (hbad : ∀ i, t_ch b N (t_at b N i) = 33 ∨ t_ch b N (t_at b N i) = 40 → sm i = .inl (t_at b N i)) (hn : un = none → d = 6) (hu : ∀ u, un = some u → d < 6 ∧ t_Z u ∧ u_PB L N b (pu (iI ((d : Int) + 1))) u ∧ u_PB L N b (pc (iI ((d : Int) + 1))) (t_cnd u b N)) : u_PB L N b (b_X10_readUnit pc pu (iI (d : Int))) (t_un un sm b N) := by
  intro s i h hL
  have hat := t_at_p (b := b) h.2.2.2.1.1
  have haa := t_at_at (b := b) h.2.2.2.1.1
  have hN := h.2.2.2.1.2.1
  have hst2 := hst i h.2.2.2.1.1
  generalize hX : t_un un sm b N i = X
  unfold b_X10_readUnit
  simp only [iI_lit]
  refine ok_jnI (fun jn => ∀ s2 i2, u_S 7 N b s2 i2 (-1) → u_F 7 s s2 → (i2 = i ∨ i2 = t_at b N i) → (un = none ∨ ¬ t_ch b N (t_at b N i) = 33) → k_OK (jn s2) (fun r => (r.1 = iI 0 ∨ r.1 = iI 1) ∧ u_F 7 s r.2 ∧ u_R L N b X r)) ?_ ?_
  · intro s2 i2 h2 f2 hi2 hh
    show k_OK (k_jn _ _) _
    refine ok_jnI (fun jn => ∀ s3 i3, u_S 7 N b s3 i3 (-1) → u_F 7 s s3 → (i3 = i ∨ i3 = t_at b N i) → X = t_bd (sm i) (t_cmp sm b N) → k_OK (jn s3) (fun r => (r.1 = iI 0 ∨ r.1 = iI 1) ∧ u_F 7 s r.2 ∧ u_R L N b X r)) ?_ ?_
    · intro s3 i3 h3 f3 hi3 eX
      have e3 : sm i3 = sm i := by
        rcases hi3 with rfl | rfl
        · rfl
        · exact hst2
      show k_OK (k_b2 _ _) _
      simp only [n_jn]
      rw [ok_b2]
      refine ok_mono (hs s3 i3 h3 (fun q hq => (f3.2 11 q (by omega)).trans (hL q hq))) ?_
      rintro ⟨r, s4⟩ ⟨f4, h4⟩
      have f4 : u_F 7 s3 s4 := f4
      rw [e3] at h4
      dsimp only
      have hgi := hG i h.2.2.2.1.1
      cases hq : sm i with
      | inl e =>
        rw [hq] at h4 eX
        obtain ⟨i5, h4⟩ := h4
        have h4 : u_S 7 N b s4 i5 (e : Nat) := h4
        obtain ⟨s5, e5, h5, f5⟩ := u_next hb h4
        obtain ⟨s6, e6, h6, f6⟩ := u_fail hb h5
        rw [t_fa_e] at h6
        rw [e5, n_b2, u_failed h5, n_bd, if_neg (by omega), n_ieq (by omega) (by omega), if_neg (by omega), e6, n_bd, ok_some, eX]
        exact ⟨Or.inl rfl, ((f3.tr f4).tr f5).tr f6, _, h6⟩
      | inr y =>
        rw [hq] at h4 eX hgi
        have h4' : u_S 7 N b s4 y.1 (-1) := h4.1
        obtain ⟨s5, e5, h5, f5⟩ := u_next hb h4'
        have hat5 := t_at_p (b := b) h4'.2.2.2.1.1
        have haa5 := t_at_at (b := b) h4'.2.2.2.1.1
        have eX : X = if t_cs (t_ch b N (t_at b N y.1)) = -1 then .inl (t_at b N y.1) else t_bd (sm (t_at b N y.1 + 1)) (fun w => .inr (t_op (t_cs (t_ch b N (t_at b N y.1))) y w)) := eX
        rw [e5, n_b2, u_failed h5, n_bd, if_pos rfl, n_ift rfl, u_isC hb, n_bd]
        by_cases cc : t_cs (t_ch b N (t_at b N y.1)) = -1
        · rw [if_pos cc] at eX
          obtain ⟨s6, e6, h6, f6⟩ := u_fail hb h5
          rw [haa5, t_fa_m] at h6
          rw [if_pos cc, n_ift rfl, e6, n_bd, ok_some, eX]
          exact ⟨Or.inl rfl, ((f3.tr f4).tr f5).tr f6, _, h6⟩
        · rw [if_neg cc] at eX
          have hlt := t_ch_lt (b := b) (N := N) (i := t_at b N y.1) (fun z => cc (by rw [z]; rfl))
          obtain ⟨s6, e6, h6, f6⟩ := u_pass h5
          rw [if_pos hlt] at h6
          have hgj := hG (t_at b N y.1 + 1) (by omega)
          rw [if_neg cc, n_iff (by decide), e6, n_bd, ok_b2]
          refine ok_mono (hs s6 _ h6 (fun q hq => ((((f3.tr f4).tr f5).tr f6).2 11 q (by omega)).trans (hL q hq))) ?_
          rintro ⟨r2, s7⟩ ⟨f7, h7⟩
          have f7 : u_F 7 s6 s7 := f7
          dsimp only
          have fin : ∀ z : Int, (z = 0 ∨ z = 1) → (∀ w, sm (t_at b N y.1 + 1) = .inr w → r_let L → z = rp_wk (t_cs (t_ch b N (t_at b N y.1))) (y.2.2 L) (w.2.2 L)) → k_OK (some (iI z, s7)) (fun r => (r.1 = iI 0 ∨ r.1 = iI 1) ∧ u_F 7 s r.2 ∧ u_R L N b X r) := fun z hz hv => by
            rw [ok_some]
            refine ⟨by rcases hz with rfl | rfl; exact Or.inl rfl; exact Or.inr rfl, (((f3.tr f4).tr f5).tr f6).tr f7, ?_⟩
            cases hq2 : sm (t_at b N y.1 + 1) with
            | inl e =>
              rw [hq2] at h7 eX
              rw [eX]
              exact h7
            | inr w =>
              rw [hq2] at h7 eX
              rw [eX]
              refine ⟨h7.1, fun q => ?_⟩
              show iI z = iI (rp_wk _ _ _)
              rw [hv w hq2 q]
          have hv2 : ∀ w, sm (t_at b N y.1 + 1) = .inr w → r_let L → (r = iI (y.2.2 L) ∧ -1000000 ≤ y.2.2 L ∧ y.2.2 L ≤ 1000000) ∧ r2 = iI (w.2.2 L) ∧ -1000000 ≤ w.2.2 L ∧ w.2.2 L ≤ 1000000 := fun w hw q => by
            rw [hw] at h7 hgj
            exact ⟨⟨h4.2 q, hgi.2 L q⟩, h7.2 q, hgj.2 L q⟩
          rw [u_nx_e hb (by omega), u_nx_e hb (by omega)]
          by_cases c1 : t_ch b N (t_at b N y.1) = 61
          · rw [if_pos c1]
            by_cases q1 : r = r2
            · rw [n_ift q1]
              refine fin 1 (Or.inr rfl) (fun w hw q => ?_)
              obtain ⟨⟨v1, v2⟩, v3, v4⟩ := hv2 w hw q
              rw [v1, v3, iI_eq (by omega) (by omega)] at q1
              rw [c1]
              exact (if_pos q1).symm
            · rw [n_iff q1]
              refine fin 0 (Or.inl rfl) (fun w hw q => ?_)
              obtain ⟨⟨v1, v2⟩, v3, v4⟩ := hv2 w hw q
              rw [v1, v3, iI_eq (by omega) (by omega)] at q1
              rw [c1]
              exact (if_neg q1).symm
          rw [if_neg c1]
          by_cases c2 : t_ch b N (t_at b N y.1) = 60
          · rw [if_pos c2]
            by_cases q1 : r2 ≤ r
            · rw [n_ift q1]
              refine fin 0 (Or.inl rfl) (fun w hw q => ?_)
              obtain ⟨⟨v1, v2⟩, v3, v4⟩ := hv2 w hw q
              rw [v1, v3, iI_le (by omega) (by omega)] at q1
              rw [c2]
              exact (if_neg (show ¬ y.2.2 L < w.2.2 L by omega)).symm
            · rw [n_iff q1]
              refine fin 1 (Or.inr rfl) (fun w hw q => ?_)
              obtain ⟨⟨v1, v2⟩, v3, v4⟩ := hv2 w hw q
              rw [v1, v3, iI_le (by omega) (by omega)] at q1
              rw [c2]
              exact (if_pos (show y.2.2 L < w.2.2 L by omega)).symm
          rw [if_neg c2]
          have c3 : t_ch b N (t_at b N y.1) = 62 := by
            unfold t_cs at cc
            rw [if_neg c1, if_neg c2] at cc
            by_cases c3 : t_ch b N (t_at b N y.1) = 62
            · exact c3
            · rw [if_neg c3] at cc
              exact absurd rfl cc
          by_cases q1 : r ≤ r2
          · rw [n_ift q1]
            refine fin 0 (Or.inl rfl) (fun w hw q => ?_)
            obtain ⟨⟨v1, v2⟩, v3, v4⟩ := hv2 w hw q
            rw [v1, v3, iI_le (by omega) (by omega)] at q1
            rw [c3]
            exact (if_neg (show ¬ w.2.2 L < y.2.2 L by omega)).symm
          · rw [n_iff q1]
            refine fin 1 (Or.inr rfl) (fun w hw q => ?_)
            obtain ⟨⟨v1, v2⟩, v3, v4⟩ := hv2 w hw q
            rw [v1, v3, iI_le (by omega) (by omega)] at q1
            rw [c3]
            exact (if_pos (show w.2.2 L < y.2.2 L by omega)).symm
    · intro jn hjn
      show k_OK (k_if _ _ _) _
      rw [n_ile (by omega) (by omega)]
      cases un with
      | none =>
        have := hn rfl
        rw [if_pos (by omega)]
        refine hjn s2 i2 h2 f2 hi2 ?_
        rw [← hX, t_un_0]
        by_cases c1 : t_ch b N (t_at b N i) = 33
        · rw [if_pos c1, hbad i (Or.inl c1)]
          rfl
        rw [if_neg c1]
        by_cases c2 : t_ch b N (t_at b N i) = 40
        · rw [if_pos c2, hbad i (Or.inr c2)]
          rfl
        rw [if_neg c2]
      | some u =>
        obtain ⟨u1, u2, u3, u4⟩ := hu u rfl
        have hc1 : ¬ t_ch b N (t_at b N i) = 33 := by
          rcases hh with hh | hh
          · cases hh
          · exact hh
        have ei2 : t_at b N i2 = t_at b N i := by
          rcases hi2 with rfl | rfl
          · rfl
          · exact haa
        obtain ⟨s3, e3, h3, f3⟩ := u_take (c := 40) hb h2 (by omega)
        rw [ei2] at e3 h3
        rw [t_un_1, if_neg hc1] at hX
        rw [if_neg (by omega), e3, n_b2, n_ieq (by split <;> omega) (by omega)]
        by_cases c2 : t_ch b N (t_at b N i) = 40
        · rw [if_pos c2] at h3 hX ⊢
          rw [if_neg (by omega), iI_add, ok_b2]
          refine ok_mono (u4 s3 _ h3 (fun q hq => ((f2.tr f3).2 11 q (by omega)).trans (hL q hq))) ?_
          rintro ⟨r, s4⟩ ⟨hB, f4, h4⟩
          have f4 : u_F 7 s3 s4 := f4
          have hB : r = iI 0 ∨ r = iI 1 := hB
          dsimp only
          cases hq : t_cnd u b N (t_at b N i + 1) with
          | inl e =>
            rw [hq] at h4 hX
            obtain ⟨i5, h4⟩ := h4
            have h4 : u_S 7 N b s4 i5 (e : Nat) := h4
            obtain ⟨s5, e5, h5, f5⟩ := u_need (c := 41) hb h4 (by omega)
            rw [t_fa_e, ite_self] at h5
            rw [e5, n_bd, u_isB hB, ok_some, ← hX]
            exact ⟨hB, ((f2.tr f3).tr f4).tr f5, _, h5⟩
          | inr y =>
            rw [hq] at h4 hX
            have h4' : u_S 7 N b s4 y.1 (-1) := h4.1
            obtain ⟨s5, e5, h5, f5⟩ := u_need (c := 41) hb h4' (by omega)
            rw [t_fa_m] at h5
            rw [e5, n_bd, u_isB hB, ok_some, ← hX]
            refine ⟨hB, ((f2.tr f3).tr f4).tr f5, ?_⟩
            show u_R L N b (t_nd b N 41 y) _
            unfold t_nd
            by_cases q : t_ch b N (t_at b N y.1) = 41
            · rw [if_pos q, if_pos q] at h5
              rw [if_pos q]
              exact ⟨h5, h4.2⟩
            · rw [if_neg q, if_neg q] at h5
              rw [if_neg q]
              exact ⟨_, h5⟩
        · rw [if_neg c2] at h3 hX ⊢
          rw [if_pos rfl]
          exact hjn s3 _ h3 (f2.tr f3) (Or.inr rfl) hX.symm
  · intro jn hjn
    show k_OK (k_if _ _ _) _
    rw [n_ile (by omega) (by omega)]
    cases un with
    | none =>
      have := hn rfl
      rw [if_pos (by omega)]
      exact hjn s i h u_F.rf (Or.inl rfl) (Or.inl rfl)
    | some u =>
      obtain ⟨u1, u2, u3, u4⟩ := hu u rfl
      obtain ⟨s3, e3, h3, f3⟩ := u_take (c := 33) hb h (by omega)
      rw [if_neg (by omega), e3, n_b2, n_ieq (by split <;> omega) (by omega)]
      by_cases c2 : t_ch b N (t_at b N i) = 33
      · rw [t_un_1, if_pos c2] at hX
        rw [if_pos c2] at h3 ⊢
        rw [if_neg (by omega), iI_add, ok_b2]
        refine ok_mono (u3 s3 _ h3 (fun q hq => (f3.2 11 q (by omega)).trans (hL q hq))) ?_
        rintro ⟨r, s4⟩ ⟨hB, f4, h4⟩
        have f4 : u_F 7 s3 s4 := f4
        have hB : r = iI 0 ∨ r = iI 1 := hB
        dsimp only
        have fin : ∀ z : Int, (z = 0 ∨ z = 1) → r = iI (1 - z) → k_OK (some (iI z, s4)) (fun r => (r.1 = iI 0 ∨ r.1 = iI 1) ∧ u_F 7 s r.2 ∧ u_R L N b X r) := fun z hz hr => by
          rw [ok_some]
          refine ⟨by rcases hz with rfl | rfl; exact Or.inl rfl; exact Or.inr rfl, f3.tr f4, ?_⟩
          cases hq : u (t_at b N i + 1) with
          | inl e =>
            rw [hq] at h4 hX
            rw [← hX]
            exact h4
          | inr y =>
            rw [hq] at h4 hX
            rw [← hX]
            refine ⟨h4.1, fun q => ?_⟩
            have e1 : r = iI (y.2.2 L) := h4.2 q
            have hz2 := u2 _ _ hq L
            rw [hr, iI_eq (by omega) (by omega)] at e1
            show iI z = iI (1 - y.2.2 L)
            rw [← e1]
            congr 1
            omega
        rcases hB with rfl | rfl
        · rw [n_ift rfl]
          exact fin 1 (Or.inr rfl) rfl
        · rw [n_iff (by decide)]
          exact fin 0 (Or.inl rfl) rfl
      · rw [if_neg c2] at h3 ⊢
        rw [if_pos rfl]
        exact hjn s3 _ h3 f3 (Or.inr rfl) (Or.inr c2)
