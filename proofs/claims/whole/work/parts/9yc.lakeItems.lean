/-! the reference's items -/
theorem y_bits0 : ∀ m : Fin 16, ∀ x : Fin 4, f_X12_has (iI (m.val : Int)) (iI (x.val : Int)) = some (iB (m.val / 2 ^ x.val % 2 = 1)) ∧ (m.val / 2 ^ x.val % 2 = 0 → iI (m.val : Int) ||| o_shl (iI 1) (iI (x.val : Int)) = iI ((m.val + 2 ^ x.val : Nat) : Int) ∧ m.val + 2 ^ x.val < 16) ∧ (iI (m.val : Int) &&& o_shl (iI 1) (iI (x.val : Int)) = iI 0 ↔ m.val / 2 ^ x.val % 2 = 0) := by decide +kernel
theorem y_bits {m x : Nat} (hm : m < 16) (hx : x < 4) : f_X12_has (iI (m : Int)) (iI (x : Int)) = some (iB (m / 2 ^ x % 2 = 1)) ∧ (m / 2 ^ x % 2 = 0 → iI (m : Int) ||| o_shl (iI 1) (iI (x : Int)) = iI ((m + 2 ^ x : Nat) : Int) ∧ m + 2 ^ x < 16) ∧ (iI (m : Int) &&& o_shl (iI 1) (iI (x : Int)) = iI 0 ↔ m / 2 ^ x % 2 = 0) := y_bits0 ⟨m, hm⟩ ⟨x, hx⟩
theorem l_n_4 {u : Nat} (hu : u < 2) : 2 ≤ l_n u ∧ l_n u ≤ 4 := by
  rcases (show u = 0 ∨ u = 1 by omega) with rfl | rfl <;> decide
theorem l_lohi {u : Nat} {x : Int} : (0 ≤ l_lo u x ∧ l_lo u x ≤ 99) ∧ 0 ≤ l_hi u x ∧ l_hi u x ≤ 99 := by
  unfold l_lo l_hi
  repeat' split
  all_goals decide
theorem y_usual {u k : Nat} (hu : u < 2) (hk : k < l_n u) : f_X12_usual (iI (l_ch u)) (iI (k : Int)) = some (iI (l_us u k)) := by
  rcases (show u = 0 ∨ u = 1 by omega) with rfl | rfl
  · have hk : k < 4 := hk
    rcases (show k = 0 ∨ k = 1 ∨ k = 2 ∨ k = 3 by omega) with rfl | rfl | rfl | rfl <;> decide
  · have hk : k < 2 := hk
    rcases (show k = 0 ∨ k = 1 by omega) with rfl | rfl <;> decide
theorem y_highest {u k : Nat} (hu : u < 2) (hk : k < l_n u) : f_X12_highest (iI (l_ch u)) (iI (k : Int)) = some (iI (l_hi u (k : Int))) := by
  rcases (show u = 0 ∨ u = 1 by omega) with rfl | rfl
  · have hk : k < 4 := hk
    rcases (show k = 0 ∨ k = 1 ∨ k = 2 ∨ k = 3 by omega) with rfl | rfl | rfl | rfl <;> decide
  · have hk : k < 2 := hk
    rcases (show k = 0 ∨ k = 1 by omega) with rfl | rfl <;> decide
theorem y_itemOf {u : Nat} (hu : u < 2) {c : Int} (hc : -1 ≤ c ∧ c ≤ 255) : f_X12_itemOf (iI (l_ch u)) (iI c) = some (iI (u_ix u c)) := by
  unfold f_X12_itemOf
  simp only [iI_lit, iI_neg]
  rcases (show u = 0 ∨ u = 1 by omega) with rfl | rfl
  · rw [n_ieq (a := l_ch 0) (by decide) (by decide), if_pos (by decide), n_ieq (by omega) (by omega), n_ieq (by omega) (by omega), n_ieq (by omega) (by omega), n_ieq (by omega) (by omega)]
    show _ = some (iI (if c = 119 then 0 else if c = 115 then 1 else if c = 108 then 2 else if c = 102 then 3 else -1))
    by_cases c1 : c = 119
    · rw [if_pos c1, if_pos c1]
    rw [if_neg c1, if_neg c1]
    by_cases c2 : c = 115
    · rw [if_pos c2, if_pos c2]
    rw [if_neg c2, if_neg c2]
    by_cases c3 : c = 108
    · rw [if_pos c3, if_pos c3]
    rw [if_neg c3, if_neg c3]
    by_cases c4 : c = 102
    · rw [if_pos c4, if_pos c4]
    rw [if_neg c4, if_neg c4]
  · rw [n_ieq (a := l_ch 1) (by decide) (by decide), if_neg (by decide), n_ieq (by omega) (by omega), n_ieq (by omega) (by omega)]
    show _ = some (iI (if c = 107 then 0 else if c = 116 then 1 else -1))
    by_cases c1 : c = 107
    · rw [if_pos c1, if_pos c1]
    rw [if_neg c1, if_neg c1]
    by_cases c2 : c = 116
    · rw [if_pos c2, if_pos c2]
    rw [if_neg c2, if_neg c2]
/-- what reading items changes -/
def y_G (u a o : Nat) (s s' : k_St) : Prop := s'.2 = s.2 ∧ ∀ c k, ¬ (c = 0 ∧ (k = 3 ∨ k = 4)) → ¬ (c = a ∧ o ≤ k ∧ k < o + l_n u) → s'.1 c k = s.1 c k
theorem y_G.tr {u a o : Nat} {s s1 s2 : k_St} (h : y_G u a o s s1) (h2 : y_F s1 s2) : y_G u a o s s2 := ⟨h2.1.trans h.1, fun c k q q2 => (h2.2 c k q).trans (h.2 c k q q2)⟩
theorem y_G.w0 {u a o : Nat} {s s1 : k_St} (h : y_G u a o s s1) {k : Nat} {x : Int32} (hk : k < l_n u) : y_G u a o s (k_wr s1 a (o + k) x) := ⟨h.1, fun c j q q2 => by
  rw [wr_if, if_neg (fun z => q2 ⟨z.1, by omega⟩)]
  exact h.2 c j q q2⟩
def y_I (u a o N : Nat) (b : Nat → Int) (s : k_St) (X : l_R) (s' : k_St) : Prop := y_G u a o s s' ∧ match X with
  | .inl e => y_E N s' e
  | .inr y => y_S N b s' y.1 ∧ ∀ k, k < l_n u → s'.1 a (o + k) = iI (y.2 k)
theorem y_items {u a o N i : Nat} {b : Nat → Int} {s : k_St} (hu : u < 2) (hb : t_by b N) (ha : a = 11 ∨ a = 12) (ho : o + l_n u ≤ k_nM a) (hk : k_nM a ≤ 24) (h : y_S N b s i) : k_OK (f_X12_items (iI (l_ch u)) a (iI (o : Int)) (iI (l_n u : Int)) s) (y_I u a o N b s (l_its u b N 200 i 0 (l_us u))) := by
  have hn4 := l_n_4 hu
  have hN := h.1.2.1
  generalize hX : l_its u b N 200 i 0 (l_us u) = X
  unfold f_X12_items
  simp only [iI_lit, iI_neg]
  refine ok_for (l_n u) (fun t (z : Int32 × k_St) => z.1 = iI (t : Int) ∧ y_G u a o s z.2 ∧ y_S N b z.2 i ∧ ∀ k, k < t → z.2.1 a (o + k) = iI (l_us u k)) ?_ (by omega) (j := 0) ⟨rfl, ⟨rfl, fun _ _ _ _ => rfl⟩, h, fun k hk => absurd hk (Nat.not_lt_zero k)⟩ (by omega)
  rintro g t ⟨v5, z⟩ ⟨h1, h2, h3, h4⟩ ht hgo
  have h1 : v5 = iI (t : Int) := h1
  subst h1
  have h2 : y_G u a o s z := h2
  have h3 : y_S N b z i := h3
  have h4 : ∀ k, k < t → z.1 a (o + k) = iI (l_us u k) := h4
  show k_OK (k_if (iI (l_n u : Int) ≤ iI (t : Int)) _ _) _
  rw [n_ile (by omega) (by omega)]
  by_cases c1 : ((l_n u : Nat) : Int) ≤ (t : Int)
  rotate_left
  · rw [if_neg c1, y_usual hu (by omega), n_bd, iI_add, show (o : Int) + (t : Int) = ((o + t : Nat) : Int) by omega, n_gix (by omega) (by omega), iI_cl (by omega), Int.toNat_natCast, iI_add, ok_nm, ok_nm]
    refine hgo _ (by omega) ⟨rfl, h2.w0 (by omega), h3.wr (Or.inl (by omega)), fun k hk => ?_⟩
    show (k_wr z a (o + t) (iI (l_us u t))).1 a (o + k) = _
    by_cases e : k = t
    · subst e
      exact wr_s
    · rw [wr_k (by omega)]
      exact h4 k (by omega)
  have h4 : ∀ k, k < l_n u → z.1 a (o + k) = iI (l_us u k) := fun k hk => h4 k (by omega)
  obtain ⟨s1, e1, g1, f1⟩ := y_look hb h3
  have hr := t_ch_r hb (t_at b N i)
  rw [if_pos c1, e1, n_b2, y_itemOf hu (by omega), n_bd]
  have hat0 := t_at_p (b := b) h.2.2
  refine ok_for 170 (fun t (z : Int32 × Int32 × k_St) => y_G u a o s z.2.2 ∧ ((∃ e : Nat, X = .inl e ∧ y_E N z.2.2 e) ∨ ∃ (i' m : Nat) (q : Nat → Int), X = l_its u b N (200 - t) i' m q ∧ z.1 = iI (m : Int) ∧ m < 16 ∧ z.2.1 = iI (u_ix u (t_ch b N (t_at b N i'))) ∧ y_S N b z.2.2 (t_at b N i') ∧ (∀ k, k < l_n u → z.2.2.1 a (o + k) = iI (q k)) ∧ t ≤ i' ∧ i' ≤ N)) ?_ (by omega) (j := 0) ⟨h2.tr f1, Or.inr ⟨i, 0, l_us u, hX.symm, rfl, by decide, rfl, g1, fun k hk => (f1.2 a (o + k) (by omega)).trans (h4 k hk), Nat.zero_le _, h.2.2⟩⟩ (by omega)
  clear hgo h4 h3 h2 h1 e1 g1 f1
  rintro g t ⟨v5, v6, z⟩ ⟨hf, hh⟩ ht hgo
  have hf : y_G u a o s z := hf
  show k_OK (k_if (k_rd z 0 4 = iI (-1)) _ _) _
  rcases hh with ⟨e, eX, hE⟩ | ⟨i', m, q, eX, hm, hm16, h6, h3, h4, ht', hi'⟩
  · have hE : y_E N z e := hE
    have he := hE.2.2
    rw [show k_rd z 0 4 = iI (e : Int) from hE.2.1, n_ieq (by omega) (by omega), if_neg (by omega), ok_some, eX]
    exact ⟨hf, hE⟩
  have hm : v5 = iI (m : Int) := hm
  subst hm
  have h6 : v6 = iI (u_ix u (t_ch b N (t_at b N i'))) := h6
  subst h6
  have h3 : y_S N b z (t_at b N i') := h3
  have h4 : ∀ k, k < l_n u → z.1 a (o + k) = iI (q k) := h4
  have hat := t_at_p (b := b) hi'
  have hx := l_ix_r hu (t_ch b N (t_at b N i'))
  have hc : ¬ u_ix u (t_ch b N (t_at b N i')) = -1 → t_at b N i' < N := fun q => by
    apply t_ch_lt (b := b)
    intro z
    apply q
    rw [z]
    rcases (show u = 0 ∨ u = 1 by omega) with rfl | rfl <;> rfl
  rw [show k_rd z 0 4 = iI (-1) from h3.2.1.2, n_ift rfl, n_ieq (by omega) (by omega)]
  rw [show 200 - t = (199 - t) + 1 by omega] at eX
  unfold l_its at eX
  generalize u_ix u (t_ch b N (t_at b N i')) = x at *
  by_cases d1 : x = -1
  · rw [if_pos (Or.inl d1)] at eX
    rw [if_pos d1, ok_some, eX]
    exact ⟨hf, h3, h4⟩
  obtain ⟨n, rfl⟩ : ∃ n : Nat, x = (n : Int) := ⟨x.toNat, by omega⟩
  rw [Int.toNat_natCast] at eX
  obtain ⟨b1, b2, -⟩ := y_bits hm16 (show n < 4 by omega)
  rw [if_neg d1, b1, n_bd, n_ib]
  by_cases d2 : m / 2 ^ n % 2 = 1
  · rw [if_pos (Or.inr d2)] at eX
    rw [if_pos d2, ok_some, eX]
    exact ⟨hf, h3, h4⟩
  rw [if_neg (fun z => z.elim d1 d2)] at eX
  obtain ⟨b3, b4⟩ := b2 (by omega)
  have hlt := hc d1
  have hl := l_lohi (u := u) (x := (n : Int))
  have e3 : k_rd z 0 3 = iI ((t_at b N i' : Nat) : Int) := h3.2.1.1
  have h5 := h3.at' (i' := t_at b N i' + 1) (by omega)
  have f5 : y_F z (k_wr z 0 3 (iI ((t_at b N i' + 1 : Nat) : Int))) := y_F.rf.w0 (Or.inl rfl)
  obtain ⟨r, s2, e2, f2, g2⟩ := y_number (lo := l_lo u (n : Int)) (hi := l_hi u (n : Int)) hb h5 hl.1 hl.2
  have f52 := f5.tr f2
  have hnum := l_num_p (b := b) (N := N) (i := t_at b N i' + 1) (lo := l_lo u (n : Int)) (hi := l_hi u (n : Int)) (by omega)
  have key : k_OK (k_bd (f_X12_highest (iI (l_ch u)) (iI (n : Int))) fun v109 =>
      k_b2 (f_X12_number (iI (l_lo u (n : Int))) v109 (k_wr z 0 3 (iI ((t_at b N i' + 1 : Nat) : Int)))) fun v112 s112 =>
      k_gd (k_ix (iI (o : Int) + iI (n : Int)) (k_nM a) = true) <|
      k_nm (k_wr s112 a (iI (o : Int) + iI (n : Int)).toNatClampNeg v112) fun s115 =>
      k_if ((k_rd s115 0 4) = iI (-1))
        (k_b2 (f_X12_look s115) fun v126 s126 =>
        k_bd (f_X12_itemOf (iI (l_ch u)) v126) fun v129 =>
        g (iI ((m + 2 ^ n : Nat) : Int), v129, s126))
        (g (iI ((m + 2 ^ n : Nat) : Int), iI (-1), s115))) (y_I u a o N b s X) := by
    rw [y_highest hu (by omega), n_bd, e2, n_b2, iI_add, show (o : Int) + (n : Int) = ((o + n : Nat) : Int) by omega, n_gix (by omega) (by omega), iI_cl (by omega), Int.toNat_natCast, ok_nm]
    have hf2 := (hf.tr f52).w0 (k := n) (x := r) (by omega)
    cases hq : l_num b N (l_lo u (n : Int)) (l_hi u (n : Int)) (t_at b N i' + 1) with
    | inl e =>
      rw [hq] at g2 eX
      have g2 : y_E N s2 e := g2
      have g3 := g2.wr (c := a) (k := o + n) (x := r) (Or.inl (by omega))
      have he := g3.2.2
      rw [show k_rd (k_wr s2 a (o + n) r) 0 4 = iI (e : Int) from g3.2.1, n_ieq (by omega) (by omega), if_neg (by omega)]
      exact hgo _ (by omega) ⟨hf2, Or.inl ⟨e, eX, g3⟩⟩
    | inr y =>
      rw [hq] at g2 eX hnum
      obtain ⟨hr, g2⟩ := g2
      obtain ⟨⟨n1, n2⟩, n3⟩ := hnum
      have g3 := g2.wr (c := a) (k := o + n) (x := r) (Or.inl (by omega))
      obtain ⟨s3, e4, g4, f4⟩ := y_look hb g3
      have hr1 := t_ch_r hb (t_at b N y.1)
      rw [show k_rd (k_wr s2 a (o + n) r) 0 4 = iI (-1) from g3.2.1.2, n_ift rfl, e4, n_b2, y_itemOf hu (by omega), n_bd]
      refine hgo _ (by omega) ⟨hf2.tr f4, Or.inr ⟨y.1, m + 2 ^ n, l_up q n y.2, ?_, rfl, b4, rfl, g4, fun k hk => ?_, by omega, n2⟩⟩
      · rw [show 200 - (t + 1) = 199 - t by omega]
        exact eX
      · show s3.1 a (o + k) = _
        rw [f4.2 a (o + k) (by omega)]
        unfold l_up
        by_cases e : k = n
        · subst e
          rw [if_pos rfl, ← hr]
          exact wr_s
        · rw [if_neg e, wr_k (by omega), f52.2 a (o + k) (by omega)]
          exact h4 k hk
  rw [if_neg d2, b3, ok_nm, e3, iI_add, show ((t_at b N i' : Nat) : Int) + 1 = ((t_at b N i' + 1 : Nat) : Int) by omega, ok_nm]
  simp only [n_jn]
  rcases (show u = 0 ∨ u = 1 by omega) with rfl | rfl
  · rw [n_ieq (a := l_ch 0) (by decide) (by decide), if_neg (by decide)]
    exact key
  · rw [n_ieq (a := l_ch 1) (by decide) (by decide), if_pos (by decide), n_ieq (by omega) (by omega)]
    by_cases e0 : (n : Int) = 0
    · rw [if_pos e0]
      have e1 : l_lo 1 (n : Int) = 1 := by
        unfold l_lo
        rw [if_neg (by decide), if_pos e0]
      rw [e1] at key
      exact key
    · rw [if_neg e0]
      have e1 : l_lo 1 (n : Int) = 0 := by
        unfold l_lo
        rw [if_neg (by decide), if_neg e0]
      rw [e1] at key
      exact key
