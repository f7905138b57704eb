/-! the reference reads a lake -/
def y_H (s s' : k_St) : Prop := s'.2 = s.2 ∧ ∀ c k, ¬ (c = 0 ∧ (k = 3 ∨ k = 4 ∨ k = 19)) → ¬ (c = 11 ∨ c = 12) → s'.1 c k = s.1 c k
theorem y_H.F {s s1 s2 : k_St} (h : y_H s s1) (h2 : y_F s1 s2) : y_H s s2 := ⟨h2.1.trans h.1, fun c k q q2 => (h2.2 c k (by omega)).trans (h.2 c k q q2)⟩
theorem y_H.G {u a o : Nat} {s s1 s2 : k_St} (h : y_H s s1) (ha : a = 11 ∨ a = 12) (h2 : y_G u a o s1 s2) : y_H s s2 := ⟨h2.1.trans h.1, fun c k q q2 => (h2.2 c k (by omega) (by omega)).trans (h.2 c k q q2)⟩
theorem y_H.w {s s1 : k_St} {k : Nat} {x : Int32} (h : y_H s s1) (hk : k = 3 ∨ k = 4 ∨ k = 19) : y_H s (k_wr s1 0 k x) := ⟨h.1, fun c j q q2 => by
  rw [wr_if, if_neg (fun z => q ⟨z.1, by rw [z.2]; exact hk⟩)]
  exact h.2 c j q q2⟩
def y_Q (s : k_St) (K : l_K) : Prop := s.1 0 19 = iI (K.1 : Int) ∧ (∀ k, k < 4 * K.1 → s.1 11 k = iI (K.2.2.1 k)) ∧ ∀ k, k < 2 → s.1 12 k = iI (K.2.2.2 k)
theorem y_Q.F {s s' : k_St} {K : l_K} (h : y_Q s K) (hF : y_F s s') : y_Q s' K := ⟨(hF.2 0 19 (by omega)).trans h.1, fun k hk => (hF.2 11 k (by omega)).trans (h.2.1 k hk), fun k hk => (hF.2 12 k (by omega)).trans (h.2.2 k hk)⟩
theorem l_sum_b {K : l_K} (hK : l_OK K) : ∀ n, n ≤ K.1 → 0 ≤ n_sum (fun p => K.2.2.1 (4 * p)) n ∧ n_sum (fun p => K.2.2.1 (4 * p)) n ≤ 9 * n
  | 0, hn => ⟨Int.le_refl _, Int.le_refl _⟩
  | n + 1, hn => by
    have ih := l_sum_b hK n (by omega)
    have h1 := hK.2.1 n (by omega) 0 (by decide)
    have h2 : 0 ≤ K.2.2.1 (4 * n) ∧ K.2.2.1 (4 * n) ≤ 9 := h1
    show 0 ≤ n_sum (fun p => K.2.2.1 (4 * p)) n + K.2.2.1 (4 * n) ∧ n_sum (fun p => K.2.2.1 (4 * p)) n + K.2.2.1 (4 * n) ≤ 9 * ((n + 1 : Nat) : Int)
    omega
theorem y_weights {s : k_St} {K : l_K} (hK : l_OK K) (h : y_Q s K) : f_X12_weightsRead s = some (iI (n_sum (fun p => K.2.2.1 (4 * p)) K.1)) := by
  have h6 := hK.1
  refine ok_eq.mp ?_
  unfold f_X12_weightsRead
  simp only [iI_lit]
  refine ok_for K.1 (fun t (z : Int32 × Int32) => z.1 = iI (n_sum (fun p => K.2.2.1 (4 * p)) t) ∧ z.2 = iI (t : Int)) ?_ (by omega) (j := 0) ⟨rfl, rfl⟩ (by omega)
  rintro g t ⟨v1, v2⟩ ⟨h1, h2⟩ ht hgo
  have h1 : v1 = iI (n_sum (fun p => K.2.2.1 (4 * p)) t) := h1
  subst h1
  have h2 : v2 = iI (t : Int) := h2
  subst h2
  show k_OK (k_if (k_rd s 0 19 ≤ iI (t : Int)) _ _) _
  rw [show k_rd s 0 19 = iI (K.1 : Int) from h.1, n_ile (by omega) (by omega)]
  by_cases c : (K.1 : Int) ≤ (t : Int)
  · rw [if_pos c, ok_some, show t = K.1 by omega]
  · have e := h.2.1 (4 * t) (by omega)
    rw [if_neg c, iI_mul, iI_add, show 4 * (t : Int) + 0 = ((4 * t : Nat) : Int) by omega, n_gix (by omega) (by omega), iI_cl (by omega), Int.toNat_natCast, show k_rd s 11 (4 * t) = _ from e, iI_add, iI_add, ok_nm, ok_nm]
    exact hgo _ (by omega) ⟨rfl, rfl⟩
def y_P (N : Nat) (σ : k_St) (X : Sum Nat l_K) (r : Int32 × k_St) : Prop := y_H σ r.2 ∧ match X with
  | .inl e => r.1 = iI (e : Int)
  | .inr K => match l_end N K with
    | .inl e => r.1 = iI (e : Int)
    | .inr K' => r.1 = iI (-1) ∧ y_Q r.2 K'
theorem y_readLake {N : Nat} {b : Nat → Int} {σ : k_St} (hb : t_by b N) (hN : N ≤ 160) (h2 : σ.1 0 2 = iI (N : Int)) (h1 : ∀ j, j < N → σ.1 1 j = iI (b j)) : k_OK (f_X12_readLake σ) (y_P N σ (l_cls b N 200 0 (0, false, (fun _ => 0), l_us 1))) := by
  generalize hX : l_cls b N 200 0 (0, false, (fun _ => 0), l_us 1) = X
  unfold f_X12_readLake
  simp only [iI_lit, iI_neg]
  rw [ok_nm, ok_nm, ok_nm, n_gix (by decide) (by decide), ok_nm, n_gix (by decide) (by decide), ok_nm]
  refine ok_for 190 (fun t (z : Int32 × Int32 × k_St) => y_H σ z.2.2 ∧ ((z.2.1 = iI 1 ∧ ∃ (i : Nat) (K : l_K), X = l_cls b N (200 - t) i K ∧ y_S N b z.2.2 i ∧ y_Q z.2.2 K ∧ l_OK K ∧ z.1 = iB (K.2.1 = true) ∧ t ≤ i) ∨ (z.2.1 = iI 0 ∧ ((∃ e : Nat, X = .inl e ∧ y_E N z.2.2 e) ∨ ∃ (i : Nat) (K : l_K), X = (if t_ch b N (t_at b N i) = -1 then .inr K else .inl (t_at b N i)) ∧ y_S N b z.2.2 i ∧ y_Q z.2.2 K ∧ l_OK K)))) ?_ (by omega) (j := 0) ?_ (by omega)
  rotate_left
  · refine ⟨⟨rfl, fun c k q1 q2 => ?_⟩, Or.inl ⟨rfl, 0, (0, false, (fun _ => 0), l_us 1), hX.symm, ⟨⟨h2, hN, h1⟩, ⟨rfl, rfl⟩, Nat.zero_le _⟩, ⟨rfl, fun k hk => absurd hk (Nat.not_lt_zero k), fun k hk => ?_⟩, ⟨by decide, fun p hp => absurd hp (Nat.not_lt_zero p), l_us_B (by decide)⟩, rfl, Nat.zero_le _⟩⟩
    · show (k_wr _ 12 _ _).1 c k = _
      rw [wr_if, if_neg (by omega), wr_if, if_neg (fun z => q2 (Or.inr z.1)), wr_if, if_neg (by omega), wr_if, if_neg (by omega), wr_if, if_neg (by omega)]
    · rcases (show k = 0 ∨ k = 1 by omega) with rfl | rfl <;> rfl
  rintro g t ⟨v1, v2, s⟩ ⟨hH, hh⟩ ht hgo
  have hH : y_H σ s := hH
  dsimp only
  refine ok_jnI (fun jn => ((∃ e : Nat, X = .inl e ∧ y_E N s e) ∨ ∃ (i : Nat) (K : l_K), X = (if t_ch b N (t_at b N i) = -1 then .inr K else .inl (t_at b N i)) ∧ y_S N b s i ∧ y_Q s K ∧ l_OK K) → k_OK (jn ()) (y_P N σ X)) ?_ ?_
  · rintro (⟨e, eX, hE⟩ | ⟨i, K, eX, hS, hQ, hK⟩)
    · have he := hE.2.2
      show k_OK (k_if (k_rd s 0 4 = iI (-1)) _ _) _
      rw [show k_rd s 0 4 = iI (e : Int) from hE.2.1, n_ieq (by omega) (by omega), if_neg (by omega), ok_some, eX]
      exact ⟨hH, rfl⟩
    · obtain ⟨s1, e1, g1, f1⟩ := y_look hb hS
      have hr := t_ch_r hb (t_at b N i)
      have hat := t_at_p (b := b) hS.2.2
      obtain ⟨s2, e2, g2, f2⟩ := y_bad g1
      have e04 : k_rd s2 0 4 = iI ((t_at b N i : Nat) : Int) := g2.2.1
      show k_OK (k_if (k_rd s 0 4 = iI (-1)) _ _) _
      simp only [n_jn]
      rw [show k_rd s 0 4 = iI (-1) from hS.2.1.2, n_ift rfl, e1, n_b2, n_ieq (by omega) (by omega), e2, n_bd, e04]
      by_cases c1 : t_ch b N (t_at b N i) = -1
      rotate_left
      · rw [if_neg c1] at eX
        rw [if_neg c1, ok_some, eX]
        exact ⟨(hH.F f1).F f2, rfl⟩
      rw [if_pos c1] at eX
      have hq1 := hQ.F f1
      have h6 := hK.1
      have hsb := l_sum_b hK K.1 (Nat.le_refl _)
      rw [if_pos c1, show k_rd s1 0 19 = iI (K.1 : Int) from hq1.1, n_ilt (by omega) (by omega), y_weights hK hq1, n_bd, n_ieq (by omega) (by omega), show k_rd s1 0 4 = iI (-1) from g1.2.1.2, eX]
      have eN : t_at b N i = N := by omega
      by_cases c2 : (K.1 : Int) < 2
      · rw [if_pos c2, ok_some]
        show y_H σ s2 ∧ match l_end N K with
          | .inl e => iI ((t_at b N i : Nat) : Int) = iI (e : Int)
          | .inr K => iI ((t_at b N i : Nat) : Int) = iI (-1) ∧ y_Q s2 K
        unfold l_end
        rw [if_pos (Or.inl (by omega)), eN]
        exact ⟨(hH.F f1).F f2, rfl⟩
      rw [if_neg c2]
      by_cases c3 : n_sum (fun p => K.2.2.1 (4 * p)) K.1 = 0
      · rw [if_pos c3, ok_some]
        show y_H σ s2 ∧ match l_end N K with
          | .inl e => iI ((t_at b N i : Nat) : Int) = iI (e : Int)
          | .inr K => iI ((t_at b N i : Nat) : Int) = iI (-1) ∧ y_Q s2 K
        unfold l_end
        rw [if_pos (Or.inr c3), eN]
        exact ⟨(hH.F f1).F f2, rfl⟩
      · rw [if_neg c3, ok_some]
        show y_H σ s1 ∧ match l_end N K with
          | .inl e => iI (-1) = iI (e : Int)
          | .inr K => iI (-1) = iI (-1) ∧ y_Q s1 K
        unfold l_end
        rw [if_neg (fun z => z.elim (by omega) c3)]
        exact ⟨hH.F f1, rfl, hq1⟩
  intro j188 hj188
  rcases hh with ⟨h21, i, K, eX, hS, hQ, hK, hv1, hti⟩ | ⟨h20, hh⟩
  rotate_left
  · have h20 : v2 = iI 0 := h20
    show k_OK (k_if (v2 = iI 0) _ _) _
    rw [n_ift h20]
    exact hj188 hh
  have h21 : v2 = iI 1 := h21
  have hv1 : v1 = iB (K.2.1 = true) := hv1
  have hS : y_S N b s i := hS
  have hQ : y_Q s K := hQ
  have h6 := hK.1
  have hi := hS.2.2
  have hat := t_at_p (b := b) hi
  obtain ⟨s1, e1, g1, f1⟩ := y_look hb hS
  have hr := t_ch_r hb (t_at b N i)
  have hH1 := hH.F f1
  have hQ1 := hQ.F f1
  have h1 := l_one_p hb hN hi hK
  have e03 : k_rd s1 0 3 = iI ((t_at b N i : Nat) : Int) := g1.2.1.1
  rw [show 200 - t = (199 - t) + 1 by omega] at eX
  unfold l_cls at eX
  rw [h21, n_iff (show ¬ iI 1 = iI 0 by decide), show k_rd s 0 4 = iI (-1) from hS.2.1.2, n_ift rfl, e1, n_b2]
  refine ok_jnI (fun jn => ∀ (w : Int32) (z : k_St), y_H σ z → ((∃ e : Nat, X = .inl e ∧ y_E N z e) ∨ ∃ (y : Nat) (K' : l_K), X = (if t_ch b N (t_at b N y) = 59 then l_cls b N (199 - t) (t_at b N y + 1) K' else if t_ch b N (t_at b N y) = -1 then .inr K' else .inl (t_at b N y)) ∧ y_S N b z y ∧ y_Q z K' ∧ l_OK K' ∧ w = iB (K'.2.1 = true) ∧ t < y) → k_OK (jn w z) (y_P N σ X)) ?_ ?_
  · rintro w z hHz (⟨e, eX, hE⟩ | ⟨y, K', eX, hS', hQ', hK', hw, hty⟩)
    · have he := hE.2.2
      obtain ⟨i0, hi0, hi0N⟩ := hE.1
      show k_OK (k_jn _ _) _
      simp only [n_jn]
      rw [show k_rd z 0 4 = iI (e : Int) from hE.2.1, n_ieq (by omega) (by omega), if_neg (by omega), n_ift trivial, show k_rd z 0 3 = iI (i0 : Int) from hi0, iI_add, show (i0 : Int) + 0 = (i0 : Int) by omega, ok_nm]
      refine hgo _ (by omega) ⟨hHz.w (Or.inl rfl), Or.inr ⟨rfl, Or.inl ⟨e, eX, ⟨i0, wr_s, hi0N⟩, (wr_k (by decide)).trans hE.2.1, hE.2.2⟩⟩⟩
    · obtain ⟨s2, e2, g2, f2⟩ := y_look hb hS'
      have hr2 := t_ch_r hb (t_at b N y)
      have hy := hS'.2.2
      have haty := t_at_p (b := b) hy
      have hayy := t_at_at (b := b) hy
      have e032 : k_rd s2 0 3 = iI ((t_at b N y : Nat) : Int) := g2.2.1.1
      show k_OK (k_jn _ _) _
      simp only [n_jn]
      rw [show k_rd z 0 4 = iI (-1) from hS'.2.1.2, n_ift rfl, e2, n_b2, n_ieq (by omega) (by omega), n_iff (show ¬ iI 1 = iI 0 by decide), n_ift trivial, e032, iI_add, iI_add]
      by_cases c1 : t_ch b N (t_at b N y) = 59
      · have hlt := t_ch_lt (b := b) (N := N) (i := t_at b N y) (by omega)
        rw [if_pos c1] at eX
        rw [if_pos c1, ok_nm, show ((t_at b N y : Nat) : Int) + 1 = ((t_at b N y + 1 : Nat) : Int) by omega]
        have f3 : y_F s2 (k_wr s2 0 3 (iI ((t_at b N y + 1 : Nat) : Int))) := y_F.rf.w0 (Or.inl rfl)
        exact hgo _ (by omega) ⟨(hHz.F f2).F f3, Or.inl ⟨rfl, t_at b N y + 1, K', by rw [show 200 - (t + 1) = 199 - t by omega]; exact eX, g2.at' (by omega), (hQ'.F f2).F f3, hK', hw, by omega⟩⟩
      · rw [if_neg c1] at eX
        rw [if_neg c1, ok_nm, show ((t_at b N y : Nat) : Int) + 0 = ((t_at b N y : Nat) : Int) by omega]
        have f3 : y_F s2 (k_wr s2 0 3 (iI ((t_at b N y : Nat) : Int))) := y_F.rf.w0 (Or.inl rfl)
        exact hgo _ (by omega) ⟨(hHz.F f2).F f3, Or.inr ⟨rfl, Or.inr ⟨t_at b N y, K', by rw [hayy]; exact eX, g2.at' (by omega), (hQ'.F f2).F f3, hK'⟩⟩⟩
  intro j144 hj144
  show k_OK (k_jn _ _) _
  simp only [n_jn]
  obtain ⟨sb, eb, gb, fb⟩ := y_bad g1
  rw [n_ieq (by omega) (by omega), n_ieq (by omega) (by omega), eb, n_bd, show k_rd s1 0 19 = iI (K.1 : Int) from hQ1.1, n_ile (by omega) (by omega), e03, iI_add, show ((t_at b N i : Nat) : Int) + 1 = ((t_at b N i + 1 : Nat) : Int) by omega]
  have f3 : y_F s1 (k_wr s1 0 3 (iI ((t_at b N i + 1 : Nat) : Int))) := y_F.rf.w0 (Or.inl rfl)
  have hQ3 := hQ1.F f3
  have hbad : X = .inl (t_at b N i) → k_OK (j144 v1 sb) (y_P N σ X) := fun eX => hj144 v1 sb (hH1.F fb) (Or.inl ⟨_, eX, gb⟩)
  unfold l_one at eX h1
  by_cases c1 : t_ch b N (t_at b N i) = 112
  · rw [if_pos c1, if_neg (show ¬ t_ch b N (t_at b N i) = 98 by omega)]
    by_cases c2 : (6 : Int) ≤ (K.1 : Int)
    · rw [if_pos c2]
      rw [if_neg (fun z => absurd z.2 (by omega)), if_neg (fun z => absurd z.1 (by omega))] at eX
      exact hbad eX
    have hlt := t_ch_lt (b := b) (N := N) (i := t_at b N i) (by omega)
    rw [if_pos ⟨c1, by omega⟩] at eX h1
    rw [if_neg c2, ok_nm, show k_rd (k_wr s1 0 3 (iI ((t_at b N i + 1 : Nat) : Int))) 0 19 = iI (K.1 : Int) from hQ3.1, iI_mul, show 4 * (K.1 : Int) = ((4 * K.1 : Nat) : Int) by omega, c1, ok_bd]
    refine ok_mono (y_items (u := 0) (a := 11) (o := 4 * K.1) (by decide) hb (Or.inl rfl) (by show 4 * K.1 + 4 ≤ 24; omega) (by decide) (g1.at' (i' := t_at b N i + 1) (by omega))) ?_
    rintro s4 ⟨f4, g4⟩
    have e19 : k_rd s4 0 19 = iI (K.1 : Int) := (f4.2 0 19 (by omega) (by omega)).trans hQ3.1
    rw [e19, iI_add, ok_nm]
    have hH4 := ((hH1.F f3).G (Or.inl rfl) f4).w (k := 19) (x := iI ((K.1 : Int) + 1)) (Or.inr (Or.inr rfl))
    cases hq : l_its 0 b N 200 (t_at b N i + 1) 0 (l_us 0) with
    | inl e =>
      rw [hq] at eX g4
      have g4 : y_E N s4 e := g4
      exact hj144 v1 _ hH4 (Or.inl ⟨e, eX, g4.wr (Or.inr (by decide))⟩)
    | inr y =>
      rw [hq] at eX g4 h1
      obtain ⟨g4, g5⟩ := g4
      obtain ⟨⟨p1, p2, p3⟩, p4⟩ := h1
      refine hj144 v1 _ hH4 (Or.inr ⟨y.1, (l_pl K y).2, eX, g4.wr (Or.inr (by decide)), ⟨by
        show iI ((K.1 : Int) + 1) = iI (((K.1 + 1 : Nat) : Int))
        rw [show (K.1 : Int) + 1 = ((K.1 + 1 : Nat) : Int) by omega], fun k hk => ?_, fun k hk => ?_⟩, p4, hv1, by have p1 : i < y.1 := p1; omega⟩)
      · have hk : k < 4 * (K.1 + 1) := hk
        show s4.1 11 k = iI (if k / 4 = K.1 then y.2 (k % 4) else K.2.2.1 k)
        by_cases e : k / 4 = K.1
        · have g6 := g5 (k % 4) (by show k % 4 < 4; omega)
          rw [show 4 * K.1 + k % 4 = k by omega] at g6
          rw [if_pos e]
          exact g6
        · rw [if_neg e, f4.2 11 k (by omega) (by show ¬ (11 = 11 ∧ 4 * K.1 ≤ k ∧ k < 4 * K.1 + 4); omega)]
          exact hQ3.2.1 k (by omega)
      · show s4.1 12 k = iI (K.2.2.2 k)
        rw [f4.2 12 k (by omega) (by omega)]
        exact hQ3.2.2 k hk
  rw [if_neg c1]
  rw [if_neg (fun z => c1 z.1)] at eX h1
  by_cases c3 : t_ch b N (t_at b N i) = 98
  rotate_left
  · rw [if_neg c3]
    rw [if_neg (fun z => c3 z.1)] at eX
    exact hbad eX
  rw [if_pos c3, hv1, n_ib]
  by_cases c4 : K.2.1 = true
  · rw [if_pos c4, ← hv1]
    rw [if_neg (fun z => Bool.noConfusion (c4.symm.trans z.2))] at eX
    exact hbad eX
  have hlt := t_ch_lt (b := b) (N := N) (i := t_at b N i) (by omega)
  rw [if_pos ⟨c3, by cases hz : K.2.1 with
    | false => rfl
    | true => exact absurd hz c4⟩] at eX h1
  rw [if_neg c4, ok_nm, c3, ok_bd]
  refine ok_mono (y_items (u := 1) (a := 12) (o := 0) (by decide) hb (Or.inr rfl) (by decide) (by decide) (g1.at' (i' := t_at b N i + 1) (by omega))) ?_
  rintro s4 ⟨f4, g4⟩
  have hH4 := (hH1.F f3).G (Or.inr rfl) f4
  cases hq : l_its 1 b N 200 (t_at b N i + 1) 0 (l_us 1) with
  | inl e =>
    rw [hq] at eX g4
    exact hj144 _ s4 hH4 (Or.inl ⟨e, eX, g4⟩)
  | inr y =>
    rw [hq] at eX g4 h1
    obtain ⟨g4, g5⟩ := g4
    obtain ⟨⟨p1, p2, p3⟩, p4⟩ := h1
    refine hj144 _ s4 hH4 (Or.inr ⟨y.1, (l_ln K y).2, eX, g4, ⟨(f4.2 0 19 (by omega) (by omega)).trans hQ3.1, fun k hk => (f4.2 11 k (by omega) (by omega)).trans (hQ3.2.1 k hk), fun k hk => ?_⟩, p4, rfl, by have p1 : i < y.1 := p1; omega⟩)
    have g6 := g5 k hk
    rw [Nat.zero_add] at g6
    exact g6
