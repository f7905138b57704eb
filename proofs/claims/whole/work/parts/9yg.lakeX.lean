/-! the class's fault of a lake -/
def w_P (N : Nat) (b : Nat → Int) (σ : k_St) (X : Sum Nat l_K) (s' : k_St) : Prop := w_F σ s' ∧ w_6 s' ∧ match X with
  | .inl e => ∃ i', u_S 3 N b s' i' (e : Int)
  | .inr K => (∃ i', u_S 3 N b s' i' (-1)) ∧ w_Q s' K
theorem u_readClauses {N : Nat} {b : Nat → Int} {σ : k_St} {K0 : l_K} (hb : t_by b N) (h : u_S 3 N b σ 0 (-1)) (hQ0 : w_Q σ K0) (hK0 : l_OK K0) (hL0 : K0.2.1 = false → K0.2.2.2 = l_us 1) : k_OK (f_X2_readClauses σ) (w_P N b σ (l_cls b N 200 0 K0)) := by
  have hN := h.2.2.2.1.2.1
  generalize hX : l_cls b N 200 0 K0 = X
  unfold f_X2_readClauses
  simp only [iI_lit, iI_neg]
  refine ok_for 190 (fun t (z : Int32 × k_St) => z.1 = iI (t : Int) ∧ w_F σ z.2 ∧ ∃ (i : Nat) (K : l_K), X = l_cls b N (200 - t) i K ∧ u_S 3 N b z.2 i (-1) ∧ w_Q z.2 K ∧ l_OK K ∧ (K.2.1 = false → K.2.2.2 = l_us 1) ∧ t ≤ i) ?_ (by omega) (j := 0) ⟨rfl, w_F.rf, 0, K0, hX.symm, h, hQ0, hK0, hL0, Nat.zero_le _⟩ (by omega)
  rintro g t ⟨v1, s⟩ ⟨h1, hF, i, K, eX, hS, hQ, hK, hL, hti⟩ ht hgo
  have h1 : v1 = iI (t : Int) := h1
  subst h1
  have hF : w_F σ s := hF
  have hS : u_S 3 N b s i (-1) := hS
  have hQ : w_Q s K := hQ
  have h6 := hK.1
  have hi := hS.2.2.2.1.1
  have hat := t_at_p (b := b) hi
  have haa := t_at_at (b := b) hi
  have hr := t_ch_r hb (t_at b N i)
  have ho := l_one_p hb hN hi hK
  rw [show 200 - t = (199 - t) + 1 by omega] at eX
  unfold l_cls at eX
  dsimp only
  rw [n_ilt (by omega) (by omega), if_neg (by omega)]
  refine ok_jnI (fun jn => ∀ (z : k_St), w_F σ z → w_6 z → ((∃ (e i' : Nat), X = .inl e ∧ u_S 3 N b z i' (e : Int)) ∨ ∃ (y : Nat) (K' : l_K), X = (if t_ch b N y = 59 then l_cls b N (199 - t) (y + 1) K' else if t_ch b N y = -1 then .inr K' else .inl y) ∧ t_at b N y = y ∧ (t_ch b N y = 59 ∨ t_ch b N y = -1) ∧ u_S 3 N b z y (-1) ∧ w_Q z K' ∧ l_OK K' ∧ (K'.2.1 = false → K'.2.2.2 = l_us 1) ∧ t < y) → k_OK (jn z) (w_P N b σ X)) ?_ ?_
  · rintro z hFz h6z (⟨e, i', eX, hE⟩ | ⟨y, K', eX, hy, hc, hS', hQ', hK', hL', hty⟩)
    · show k_OK (k_bd (f_X3_failed 3 z) _) _
      rw [u_failed hE, n_bd, if_neg (by omega), n_iff (show ¬ iI 1 = iI 0 by decide), ok_some, eX]
      exact ⟨hFz, h6z, i', hE⟩
    · obtain ⟨s2, e2, g2, f2⟩ := u_next hb hS'
      obtain ⟨s3, e3, g3, f3⟩ := u_need (c := 59) hb g2 (by decide)
      have hyN := hS'.2.2.2.1.1
      have hry := t_ch_r hb y
      rw [hy] at e2 g2
      rw [hy, hy] at g3
      show k_OK (k_bd (f_X3_failed 3 z) _) _
      rw [u_failed hS', n_bd, if_pos rfl, n_ift rfl, e2, n_b2]
      rcases hc with c1 | c1
      · have hlt := t_ch_lt (b := b) (N := N) (i := y) (by omega)
        rw [if_pos c1, if_pos c1] at g3
        rw [if_pos c1] at eX
        rw [c1, n_iff (show ¬ iI (t_nx 59) = iI (-2) by decide), e3, n_bd, iI_add, ok_nm]
        exact hgo _ (by omega) ⟨rfl, (hFz.u f2).u f3, y + 1, K', by rw [show 200 - (t + 1) = 199 - t by omega]; exact eX, g3, (hQ'.u f2).u f3, hK', hL', by omega⟩
      · rw [if_neg (by omega), if_pos c1] at eX
        rw [c1, n_ift (show iI (t_nx (-1)) = iI (-2) by decide), ok_some, eX]
        have hQ2 := hQ'.u f2
        exact ⟨hFz.u f2, ⟨K'.1, hQ2.1, hK'.1⟩, ⟨y, g2⟩, hQ2⟩
  intro j79 hj79
  -- a piece that was read
  have piece : ∀ (z : k_St) (x : Sum Nat (Nat × l_K)), w_F σ z → w_6 z → w_R N b z x → (X = match x with
    | .inl e => .inl e
    | .inr y => if t_ch b N (t_at b N y.1) = 59 then l_cls b N (199 - t) (t_at b N y.1 + 1) y.2 else if t_ch b N (t_at b N y.1) = -1 then .inr y.2 else .inl (t_at b N y.1)) → (match x with
    | .inl e => e ≤ N
    | .inr y => (i < y.1 ∧ y.1 ≤ N ∧ t_at b N y.1 = y.1) ∧ l_OK y.2) → (∀ y, x = .inr y → y.2.2.1 = false → y.2.2.2.2 = l_us 1) → k_OK (j79 z) (w_P N b σ X) := fun z x hFz h6z hR eX hx hLx => by
    cases x with
    | inl e =>
      obtain ⟨i', hR⟩ := hR
      exact hj79 z hFz h6z (Or.inl ⟨e, i', eX, hR⟩)
    | inr y =>
      obtain ⟨⟨p1, p2, p3⟩, p4⟩ := hx
      have eX : X = if t_ch b N (t_at b N y.1) = 59 then l_cls b N (199 - t) (t_at b N y.1 + 1) y.2 else if t_ch b N (t_at b N y.1) = -1 then .inr y.2 else .inl (t_at b N y.1) := eX
      rw [p3] at eX
      have hR : if t_ch b N y.1 = 59 ∨ t_ch b N y.1 = -1 then u_S 3 N b z y.1 (-1) ∧ w_Q z y.2 else u_S 3 N b z y.1 (y.1 : Int) := hR
      by_cases c : t_ch b N y.1 = 59 ∨ t_ch b N y.1 = -1
      · rw [if_pos c] at hR
        exact hj79 z hFz h6z (Or.inr ⟨y.1, y.2, eX, p3, c, hR.1, hR.2, p4, hLx y rfl, by omega⟩)
      · rw [if_neg c] at hR
        rw [if_neg (fun q => c (Or.inl q)), if_neg (fun q => c (Or.inr q))] at eX
        exact hj79 z hFz h6z (Or.inl ⟨y.1, y.1, eX, hR⟩)
  refine ok_jnI (fun jn => ∀ (z : k_St) (i2 : Nat), w_F σ z → u_S 3 N b z i2 (-1) → t_at b N i2 = t_at b N i → w_Q z K → ¬ (t_ch b N (t_at b N i) = 112 ∧ K.1 < 6) → k_OK (jn z) (w_P N b σ X)) ?_ ?_
  · intro z i2 hFz hSz hi2 hQz hn
    unfold l_one at eX ho
    rw [if_neg hn] at eX ho
    have bad : ∀ (z' : k_St) (i3 : Nat), w_F σ z' → u_S 3 N b z' i3 (-1) → t_at b N i3 = t_at b N i → w_Q z' K → ¬ (t_ch b N (t_at b N i) = 98 ∧ K.2.1 = false) → k_OK (k_bd (f_X3_fail 3 z') fun s76 => j79 s76) (w_P N b σ X) := fun z' i3 hF' hS' hi3 hQ' hn' => by
      obtain ⟨s3, e3, g3, f3⟩ := u_fail hb hS'
      rw [hi3, t_fa_m] at g3
      rw [if_neg hn'] at eX
      have hQ3 := hQ'.u f3
      rw [e3, n_bd]
      exact hj79 s3 (hF'.u f3) ⟨K.1, hQ3.1, h6⟩ (Or.inl ⟨_, _, eX, g3⟩)
    have e37 : k_rd z 3 7 = iB (K.2.1 = true) := hQz.2.1
    show k_OK (k_jn _ _) _
    simp only [n_jn]
    rw [e37, n_ib]
    by_cases c4 : K.2.1 = true
    · rw [if_pos c4]
      exact bad z i2 hFz hSz hi2 hQz (fun q => Bool.noConfusion (c4.symm.trans q.2))
    rw [if_neg c4]
    obtain ⟨s2, e2, g2, f2⟩ := u_take (c := 98) hb hSz (by decide)
    rw [hi2] at e2 g2
    have hQ2 := hQz.u f2
    rw [e2, n_b2]
    by_cases c3 : t_ch b N (t_at b N i) = 98
    rotate_left
    · rw [if_neg c3] at g2
      rw [if_neg c3, n_ift rfl]
      exact bad s2 _ (hFz.u f2) g2 haa hQ2 (fun q => c3 q.1)
    have hfa : K.2.1 = false := by
      cases hz : K.2.1 with
      | false => rfl
      | true => exact absurd hz c4
    rw [if_pos c3] at g2
    rw [if_pos ⟨c3, hfa⟩] at eX ho
    rw [if_pos c3, n_iff (show ¬ iI 1 = iI 0 by decide), ok_nm, ok_bd]
    refine ok_mono (u_readLine hb g2 h6 hQ2 (fun k hk => congrFun (hL hfa) k)) ?_
    rintro s5 ⟨f5, g5, g6⟩
    refine piece s5 _ ((hFz.u f2).tr f5) g5 g6 eX ho (fun y hy hfy => ?_)
    unfold l_go at hy
    cases hq : l_its 1 b N 200 (t_at b N i + 1) 0 (l_us 1) with
    | inl e =>
      rw [hq] at hy
      cases hy
    | inr w =>
      rw [hq] at hy
      cases hy
      exact Bool.noConfusion (show true = false from hfy)
  intro j34 hj34
  rw [show k_rd s 3 6 = iI (K.1 : Int) from hQ.1, n_ile (by omega) (by omega)]
  by_cases c2 : (6 : Int) ≤ (K.1 : Int)
  · rw [if_pos c2]
    exact hj34 s i hF hS rfl hQ (fun q => absurd q.2 (by omega))
  rw [if_neg c2]
  obtain ⟨s2, e2, g2, f2⟩ := u_take (c := 112) hb hS (by decide)
  have hQ2 := hQ.u f2
  rw [e2, n_b2]
  by_cases c1 : t_ch b N (t_at b N i) = 112
  rotate_left
  · rw [if_neg c1] at g2
    rw [if_neg c1, n_ift rfl]
    exact hj34 s2 _ (hF.u f2) g2 haa hQ2 (fun q => c1 q.1)
  unfold l_one at eX ho
  rw [if_pos c1] at g2
  rw [if_pos ⟨c1, by omega⟩] at eX ho
  rw [if_pos c1, n_iff (show ¬ iI 1 = iI 0 by decide), ok_bd]
  refine ok_mono (u_readPlace hb g2 hQ2 (by omega)) ?_
  rintro s5 ⟨f5, g5, g6⟩
  refine piece s5 _ ((hF.u f2).tr f5) g5 g6 eX ho (fun y hy hfy => ?_)
  unfold l_go at hy
  cases hq : l_its 0 b N 200 (t_at b N i + 1) 0 (l_us 0) with
  | inl e =>
    rw [hq] at hy
    cases hy
  | inr w =>
    rw [hq] at hy
    cases hy
    exact hL hfy
theorem u_toldI {s : k_St} {p j : Nat} (hp : p < 6) (hj : j < 4) : f_X2_toldItem (iI (p : Int)) (iI (j : Int)) s = some (s.1 5 (4 * p + j)) := by
  unfold f_X2_toldItem
  simp only [iI_lit, n_jn]
  rw [n_within (by omega) (by omega) (by omega), n_bd, n_ib, if_pos (by omega), n_within (by omega) (by omega) (by omega), n_bd, n_ib, if_pos (by omega), n_iff (show ¬ iI 1 = iI 0 by decide), iI_mul, iI_add, show (p : Int) * 4 + (j : Int) = ((4 * p + j : Nat) : Int) by omega, n_gix (by omega) (by omega), iI_cl (by omega), Int.toNat_natCast]
  rfl
theorem u_allW {s : k_St} {n : Nat} (h : s.1 3 6 = iI (n : Int)) (hn : n ≤ 6) : f_X2_allWeights s = some (iI (n_sum (fun p => (s.1 5 (4 * p)).toInt) n)) := by
  refine ok_eq.mp ?_
  unfold f_X2_allWeights
  simp only [iI_lit]
  refine ok_for n (fun t (z : Int32 × Int32) => z.1 = iI (n_sum (fun p => (s.1 5 (4 * p)).toInt) t) ∧ z.2 = iI (t : Int)) ?_ (by omega) (j := 0) ⟨rfl, rfl⟩ (by omega)
  rintro g t ⟨v1, v2⟩ ⟨h1, h2⟩ ht hgo
  have h1 : v1 = iI (n_sum (fun p => (s.1 5 (4 * p)).toInt) t) := h1
  subst h1
  have h2 : v2 = iI (t : Int) := h2
  subst h2
  show k_OK (k_if (k_rd s 3 6 ≤ iI (t : Int)) _ _) _
  rw [show k_rd s 3 6 = iI (n : Int) from h, n_ile (by omega) (by omega)]
  by_cases c : (n : Int) ≤ (t : Int)
  · rw [if_pos c, ok_some, show t = n by omega]
  · have e := u_toldI (s := s) (p := t) (j := 0) (by omega) (by decide)
    rw [Nat.add_zero] at e
    have e : f_X2_toldItem (iI (t : Int)) (iI 0) s = some (s.1 5 (4 * t)) := e
    rw [if_neg c, e, n_bd, iI_add, ok_nm, ok_nm]
    refine hgo _ (by omega) ⟨?_, rfl⟩
    show iI _ + s.1 5 (4 * t) = iI (n_sum (fun p => (s.1 5 (4 * p)).toInt) t + (s.1 5 (4 * t)).toInt)
    rw [← iI_add, ← iI_of]
theorem n_sum_eq' {f g : Nat → Int} : ∀ n, (∀ p, p < n → f p = g p) → n_sum f n = n_sum g n
  | 0, _ => rfl
  | n + 1, h => by
    show n_sum f n + f n = n_sum g n + g n
    rw [n_sum_eq' n (fun p hp => h p (by omega)), h n (by omega)]
theorem l_b99 {u : Nat} {g : Nat → Int} (h : l_B u g) {k : Nat} (hk : k < l_n u) : 0 ≤ g k ∧ g k ≤ 99 := by
  have h1 := h k hk
  have h2 := l_lohi (u := u) (x := (k : Int))
  omega
theorem u_lake {σ : k_St} {N : Nat} {b : Nat → Int} (hb : t_by b N) (hN : N ≤ 160) (h11 : σ.1 1 1 = iI (N : Int)) (h2 : ∀ j, j < N → σ.1 2 j = iI (b j)) : k_OK (f_X2_faultOf σ) (fun r => (r.2.2 = σ.2 ∧ ∀ c k, ¬ (c = 3 ∨ c = 4 ∨ c = 5 ∨ c = 6) → r.2.1 c k = σ.1 c k) ∧ match l_lake b N with
    | .inl e => r.1 = iI (e : Int) ∧ e ≤ N
    | .inr K => r.1 = iI (-1) ∧ w_Q r.2 K) := by
  obtain ⟨s1, e1, h1, k1, k2⟩ := u_load (c0 := 3) (A := 2) (M := 160) (o := 0) (σ := σ) (N := N) (b := b) rfl (by omega) (by omega) hN (fun j hj => by
    rw [Nat.zero_add]
    exact h2 j hj) (by omega)
  have e1 : f_X3_load 3 2 (iI 0) (iI (N : Int)) σ = some s1 := e1
  have hcp := l_cls_p hb hN 200 (i := 0) (K := (0, false, (fun _ => 0), l_us 1)) (Nat.zero_le _) ⟨by decide, fun p hp => absurd hp (Nat.not_lt_zero p), l_us_B (by decide)⟩
  have hl : l_lake b N = match l_cls b N 200 0 (0, false, (fun _ => 0), l_us 1) with
    | .inl e => .inl e
    | .inr K => l_end N K := rfl
  rw [hl]
  unfold f_X2_faultOf
  simp only [iI_lit]
  rw [show k_rd σ 1 1 = _ from h11, e1, n_bd, ok_nm, ok_nm, n_gix (by decide) (by decide), ok_nm, n_gix (by decide) (by decide), ok_nm, ok_bd]
  have hS := (((h1.wr (c := 3) (k := 6) (x := iI 0) (by omega)).wr (c := 3) (k := 7) (x := iI 0) (by omega)).wr (c := 6) (k := 0) (x := iI 2) (by omega)).wr (c := 6) (k := 1) (x := iI 0) (by omega)
  have hF := (((w_F.rf (s := s1)).wr (c := 3) (k := 6) (x := iI 0) (by omega)).wr (c := 3) (k := 7) (x := iI 0) (by omega)).wr (c := 6) (k := 0) (x := iI 2) (by omega) |>.wr (c := 6) (k := 1) (x := iI 0) (by omega)
  refine ok_mono (u_readClauses (K0 := (0, false, (fun _ => 0), l_us 1)) hb hS ⟨rfl, rfl, fun k hk => absurd hk (Nat.not_lt_zero k), fun k hk => by
    rcases (show k = 0 ∨ k = 1 by omega) with rfl | rfl <;> rfl⟩ ⟨by decide, fun p hp => absurd hp (Nat.not_lt_zero p), l_us_B (by decide)⟩ (fun _ => rfl)) ?_
  rintro s2 ⟨f2, ⟨n, hn, hn6⟩, hX⟩
  have fr : ∀ s3, w_F s2 s3 → s3.2 = σ.2 ∧ ∀ c k, ¬ (c = 3 ∨ c = 4 ∨ c = 5 ∨ c = 6) → s3.1 c k = σ.1 c k := fun s3 f3 => by
    have fa := (hF.tr f2).tr f3
    refine ⟨fa.1.trans k1, fun c k q => ?_⟩
    rw [fa.2 c k (by omega), k2 c k (by omega) (by omega)]
  have e36 : k_rd s2 3 6 = iI (n : Int) := hn
  simp only [n_jn]
  rw [e36, n_ilt (by omega) (by omega), u_allW hn hn6, n_bd]
  cases hq : l_cls b N 200 0 (0, false, (fun _ => 0), l_us 1) with
  | inl e =>
    rw [hq] at hX hcp
    obtain ⟨i', hE⟩ := hX
    have hcp : e ≤ N := hcp
    obtain ⟨s3, e3, h3, f3⟩ := u_failAt hE (Nat.le_refl N)
    have eL : f_X3_failAtLength 3 s2 = some s3 := by
      unfold f_X3_failAtLength
      rw [show k_rd s2 3 1 = _ from hE.1, e3, n_bd]
    have f3' := (w_F.rf (s := s2)).u f3
    have c1 : f_X3_faultFound 3 s3 = some (iI (e : Int)) := by
      have := h3.2.2.1
      rw [t_fa_e] at this
      exact congrArg some this
    have c2 : f_X3_faultFound 3 s2 = some (iI (e : Int)) := congrArg some hE.2.2.1
    rw [eL, n_bd, c1, n_bd, c2, n_bd]
    unfold k_if
    by_cases d1 : (n : Int) < 2
    · rw [if_pos d1, ok_some]
      exact ⟨fr s3 f3', rfl, hcp⟩
    rw [if_neg d1]
    split
    · rw [ok_some]
      exact ⟨fr s3 f3', rfl, hcp⟩
    · rw [ok_some]
      exact ⟨fr s2 w_F.rf, rfl, hcp⟩
  | inr K =>
    rw [hq] at hX hcp
    have hK : l_OK K := hcp
    obtain ⟨⟨i', hS2⟩, hQ⟩ := hX
    have hK6 := hK.1
    have hnK : n = K.1 := by
      have e : iI (n : Int) = iI (K.1 : Int) := hn.symm.trans hQ.1
      have := (iI_eq (by omega) (by omega)).mp e
      omega
    subst hnK
    have hsum : n_sum (fun p => (s2.1 5 (4 * p)).toInt) K.1 = n_sum (fun p => K.2.2.1 (4 * p)) K.1 := n_sum_eq' _ (fun p hp => by
      have hw := l_b99 (hK.2.1 p hp) (k := 0) (by decide)
      have hw : 0 ≤ K.2.2.1 (4 * p) ∧ K.2.2.1 (4 * p) ≤ 99 := hw
      show (s2.1 5 (4 * p)).toInt = K.2.2.1 (4 * p)
      rw [hQ.2.2.1 (4 * p) (by omega)]
      exact iI_to (by omega))
    have hsb := l_sum_b hK K.1 (Nat.le_refl _)
    obtain ⟨s3, e3, h3, f3⟩ := u_failAt hS2 (Nat.le_refl N)
    have eL : f_X3_failAtLength 3 s2 = some s3 := by
      unfold f_X3_failAtLength
      rw [show k_rd s2 3 1 = _ from hS2.1, e3, n_bd]
    have f3' := (w_F.rf (s := s2)).u f3
    have c1 : f_X3_faultFound 3 s3 = some (iI (N : Int)) := by
      have := h3.2.2.1
      rw [t_fa_m] at this
      exact congrArg some this
    have c2 : f_X3_faultFound 3 s2 = some (iI (-1)) := congrArg some hS2.2.2.1
    rw [hsum, eL, n_bd, c1, n_bd, c2, n_bd, n_ieq (by omega) (by omega)]
    show k_OK _ (fun (r : Int32 × k_St) => (r.2.2 = σ.2 ∧ ∀ c k, ¬ (c = 3 ∨ c = 4 ∨ c = 5 ∨ c = 6) → r.2.1 c k = σ.1 c k) ∧ match l_end N K with
      | .inl e => r.1 = iI (e : Int) ∧ e ≤ N
      | .inr K => r.1 = iI (-1) ∧ w_Q r.2 K)
    unfold l_end
    by_cases d1 : (K.1 : Int) < 2
    · rw [if_pos d1, ok_some, if_pos (Or.inl (by omega))]
      exact ⟨fr s3 f3', rfl, Nat.le_refl _⟩
    rw [if_neg d1]
    by_cases d2 : n_sum (fun p => K.2.2.1 (4 * p)) K.1 = 0
    · rw [if_pos d2, ok_some, if_pos (Or.inr d2)]
      exact ⟨fr s3 f3', rfl, Nat.le_refl _⟩
    · rw [if_neg d2, ok_some, if_neg (fun q => q.elim (by omega) d2)]
      exact ⟨fr s2 w_F.rf, rfl, hQ⟩
