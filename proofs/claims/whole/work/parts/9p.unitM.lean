/-! the reference's conditions -/
theorem k_bd_as {α β γ : Type} {a : Option α} {f : α → Option β} {g : β → Option γ} : k_bd (k_bd a f) g = k_bd a (fun x => k_bd (f x) g) := by
  cases a with
  | none => rfl
  | some x => rfl
theorem v_sig {b : Nat → Int} {N j : Nat} (hb : t_by b N) : f_X12_isSign (iI (t_ch b N j)) = some (iI (if t_cs (t_ch b N j) = -1 then 0 else 1)) := by
  have hr := t_ch_r hb j
  unfold f_X12_isSign t_cs
  simp only [iI_lit]
  rw [n_ieq (by omega) (by omega), n_ieq (by omega) (by omega), n_ieq (by omega) (by omega)]
  repeat' split
  all_goals first | rfl | omega
theorem v_cmp {w N d q : Nat} {b : Nat → Int} {s : k_St} {cs : List (Int × Int)} {x : t_V} {sm : Nat → t_R} (hb : t_by b N) (hs : v_P w N b d (f_X12_sum 20) sm) (h : v_S w N b s x.1 d q (cs ++ x.2.1)) : k_OK (f_X12_compare s) (fun s' => v_F w s s' ∧ v_R w N b d q cs (t_cmp sm b N x) s') := by
  obtain ⟨s1, e1, h1, f1⟩ := v_look hb h
  have hr := t_ch_r hb (t_at b N x.1)
  have e4 : k_rd s 0 4 = iI (-1) := h.2.1.2.1
  have e3 : k_rd s1 0 3 = iI ((t_at b N x.1 : Nat) : Int) := h1.2.1.1
  have hql := h1.2.2.1
  unfold f_X12_compare t_cmp
  simp only [iI_lit, iI_neg]
  rw [e4]
  show k_OK (k_if _ _ _) _
  rw [n_ift rfl, e1, n_b2]
  show k_OK (k_bd _ _) _
  rw [v_sig hb, n_bd]
  by_cases c : t_cs (t_ch b N (t_at b N x.1)) = -1
  · obtain ⟨s2, e2, h2, f2⟩ := v_bad h1
    rw [if_pos c, if_pos c, n_ift rfl, e2, n_bd, ok_some]
    exact ⟨f1.tr f2, h2⟩
  · have hlt := t_ch_lt (b := b) (N := N) (i := t_at b N x.1) (fun z => c (by rw [z]; rfl))
    have h2 := h1.at' (i' := t_at b N x.1 + 1) (q' := q + 1) (by omega) (by omega)
    rw [if_neg c, if_neg c, n_iff (by decide), e3, iI_add, ok_nm, ok_bd]
    refine ok_mono (hs _ _ _ _ h2) ?_
    rintro s3 ⟨f3, h3⟩
    have f13 := (f1.w0 (Or.inl rfl)).tr f3
    have fin : ∀ o : Int, o = t_cs (t_ch b N (t_at b N x.1)) → k_OK (k_bd (f_X12_put (iI o) (iI 0) s3) fun s69 => some s69) (fun s' => v_F w s s' ∧ v_R w N b d q cs (t_bd (sm (t_at b N x.1 + 1)) fun y => .inr (t_op (t_cs (t_ch b N (t_at b N x.1))) x y)) s') := fun o ho => by
      cases hq : sm (t_at b N x.1 + 1) with
      | inl e =>
        rw [hq] at h3
        obtain ⟨s4, e4, h4, f4⟩ := v_putE (x := iI o) (y := iI 0) h3
        rw [e4, n_bd, ok_some]
        exact ⟨f13.tr f4, h4⟩
      | inr y =>
        rw [hq] at h3
        have h3 : v_S w N b s3 y.1 d (q + 1) (cs ++ x.2.1 ++ y.2.1) := h3
        obtain ⟨s4, e4, h4, f4⟩ := v_put (c := o) (v := 0) h3
        rw [e4, n_bd, ok_some]
        refine ⟨f13.tr f4, ?_⟩
        show v_S w N b s4 y.1 d q (cs ++ (x.2.1 ++ y.2.1 ++ [(t_cs (t_ch b N (t_at b N x.1)), 0)]))
        rw [← List.append_assoc, ← List.append_assoc, ← ho]
        exact h4
    show k_OK (k_if _ _ _) _
    rw [n_ieq (by omega) (by omega)]
    by_cases c1 : t_ch b N (t_at b N x.1) = 61
    · rw [if_pos c1]
      exact fin 6 (by rw [c1]; rfl)
    rw [if_neg c1, n_ieq (by omega) (by omega)]
    by_cases c2 : t_ch b N (t_at b N x.1) = 60
    · rw [if_pos c2]
      exact fin 7 (by rw [c2]; rfl)
    rw [if_neg c2]
    refine fin 8 ?_
    unfold t_cs at c ⊢
    rw [if_neg c1, if_neg c2] at c ⊢
    by_cases c3 : t_ch b N (t_at b N x.1) = 62
    · rw [if_pos c3]
    · rw [if_neg c3] at c
      exact absurd rfl c
def v_L (c o : Int32) (P : k_St → Option k_St) (σ : k_St) : Option k_St :=
  k_loop (fun (g : k_St → Option (k_St)) (z : k_St) =>
      k_if ((k_rd z 0 4) = (-1 : Int32))
        (k_b2 (f_X12_look z) fun v9 s9 =>
        k_if (v9 = c)
          (k_nm (k_wr s9 0 3 ((k_rd s9 0 3) + (1 : Int32))) fun s24 =>
          k_bd (P s24) fun s28 =>
          k_bd (f_X12_put o (0 : Int32) s28) fun s35 =>
          g s35)
          (some s9))
        (some z)) 100000 σ
theorem v_L_and {p : k_St → Option k_St} : b_X12_goOnAnd p = v_L (iI 38) (iI 10) p := by
  funext σ
  unfold b_X12_goOnAnd v_L
  simp only [iI_lit]
theorem v_L_or {pa p : k_St → Option k_St} : b_X12_goOnOr pa p = v_L (iI 124) (iI 11) (fun s => k_bd (p s) pa) := by
  funext σ
  unfold b_X12_goOnOr v_L
  simp only [iI_lit, k_bd_as]
theorem v_loop {w N d : Nat} {b : Nat → Int} (hb : t_by b N) {p : k_St → Option k_St} {g : Nat → t_R} {c o : Int} (hc : 0 ≤ c ∧ c ≤ 255) (hp : v_P w N b d p g) (hG : t_G N g) {s : k_St} {q : Nat} {cs : List (Int × Int)} {x : t_V} (h : v_S w N b s x.1 d q (cs ++ x.2.1)) : k_OK (v_L (iI c) (iI o) p s) (fun s' => v_F w s s' ∧ v_R w N b d q cs (t_lp g b N c o c o 200 x) s') := by
  have hN := h.1.2.1
  generalize hX : t_lp g b N c o c o 200 x = X
  unfold v_L
  simp only [iI_lit, iI_neg]
  refine ok_for 170 (fun t (z : k_St) => v_F w s z ∧ ((∃ e, X = .inl e ∧ v_E w N z e d q) ∨ ∃ y : t_V, t_lp g b N c o c o (200 - t) y = X ∧ v_S w N b z y.1 d q (cs ++ y.2.1) ∧ t ≤ y.1)) ?_ (by omega) (j := 0) ⟨v_F.rf, Or.inr ⟨x, hX, h, Nat.zero_le _⟩⟩ (by omega)
  rintro gg t z ⟨f, hh⟩ ht hgo
  rcases hh with ⟨e, eX, hE⟩ | ⟨y, y1, y2, y3⟩
  · rw [hE.e4, n_ieq (by have := hE.eN; omega) (by omega), if_neg (by omega), ok_some, eX]
    exact ⟨f, hE⟩
  · obtain ⟨s1, e1, h1, f1⟩ := v_look hb y2
    have hr := t_ch_r hb (t_at b N y.1)
    have hat := t_at_p (b := b) y2.2.2.1.1
    have e4 : k_rd z 0 4 = iI (-1) := y2.2.1.2.1
    have e3 : k_rd s1 0 3 = iI ((t_at b N y.1 : Nat) : Int) := h1.2.1.1
    have hql := h1.2.2.1
    rw [show 200 - t = (200 - (t + 1)) + 1 by omega, t_lp_s] at y1
    rw [e4, n_ift rfl, e1, n_b2, n_ieq (by omega) (by omega)]
    by_cases c1 : t_ch b N (t_at b N y.1) = c
    · have hlt := t_ch_lt (b := b) (N := N) (i := t_at b N y.1) (by omega)
      have h2 := h1.at' (i' := t_at b N y.1 + 1) (q' := q + 1) (by omega) (by omega)
      have hgj := hG (t_at b N y.1 + 1) (by omega)
      rw [if_pos c1] at y1 ⊢
      rw [e3, iI_add, ok_nm, ok_bd]
      refine ok_mono (hp _ _ _ _ h2) ?_
      rintro s3 ⟨f3, h3⟩
      have f13 := ((f.tr f1).w0 (Or.inl rfl)).tr f3
      cases hq : g (t_at b N y.1 + 1) with
      | inl e =>
        rw [hq] at h3 y1
        obtain ⟨s4, e4, h4, f4⟩ := v_putE (x := iI o) (y := iI 0) h3
        rw [e4, n_bd]
        exact hgo s4 (by omega) ⟨f13.tr f4, Or.inl ⟨e, y1.symm, h4⟩⟩
      | inr v =>
        rw [hq] at h3 y1 hgj
        have hv := hgj.1
        have h3 : v_S w N b s3 v.1 d (q + 1) (cs ++ y.2.1 ++ v.2.1) := h3
        obtain ⟨s4, e4, h4, f4⟩ := v_put (c := o) (v := 0) h3
        rw [e4, n_bd]
        refine hgo s4 (by omega) ⟨f13.tr f4, Or.inr ⟨t_op o y v, y1, ?_, by show t + 1 ≤ v.1; omega⟩⟩
        show v_S w N b s4 v.1 d q (cs ++ (y.2.1 ++ v.2.1 ++ [(o, 0)]))
        rw [← List.append_assoc, ← List.append_assoc]
        exact h4
    · rw [if_neg c1, if_neg c1] at y1
      rw [if_neg c1, ok_some, ← y1]
      exact ⟨f.tr f1, h1⟩
theorem v_L_E {w N d q e : Nat} {s : k_St} {c o : Int32} {p : k_St → Option k_St} (h : v_E w N s e d q) : k_OK (v_L c o p s) (fun s' => s' = s) := by
  unfold v_L
  simp only [iI_lit, iI_neg]
  refine ok_for 0 (fun _ (z : k_St) => z = s) ?_ (by omega) (j := 0) rfl (by omega)
  rintro gg t z rfl ht hgo
  rw [h.e4, n_ieq (by have := h.eN; omega) (by omega), if_neg (by omega), ok_some]
theorem v_andP {w N d : Nat} {b : Nat → Int} (hb : t_by b N) {p : k_St → Option k_St} {g : Nat → t_R} (hp : v_P w N b d p g) (hG : t_G N g) : v_P w N b d (fun s => k_bd (p s) (b_X12_goOnAnd p)) (fun i => t_bd (g i) (t_and g b N)) := by
  intro s i q cs h
  show k_OK (k_bd _ _) _
  rw [ok_bd]
  refine ok_mono (hp s i q cs h) ?_
  rintro s1 ⟨f1, h1⟩
  rw [v_L_and]
  show k_OK _ (fun s' => v_F w s s' ∧ v_R w N b d q cs (t_bd (g i) (t_and g b N)) s')
  cases hq : g i with
  | inl e =>
    rw [hq] at h1
    refine ok_mono (v_L_E h1) ?_
    rintro s2 rfl
    exact ⟨f1, h1⟩
  | inr y =>
    rw [hq] at h1
    refine ok_mono (v_loop hb (by decide) hp hG (x := y) h1) ?_
    rintro s2 ⟨f2, h2⟩
    exact ⟨f1.tr f2, h2⟩
theorem v_orP {w N d : Nat} {b : Nat → Int} (hb : t_by b N) {p : k_St → Option k_St} {g : Nat → t_R} (hp : v_P w N b d p g) (hG : t_G N g) {s : k_St} {q : Nat} {cs : List (Int × Int)} {x : t_V} (h : v_S w N b s x.1 d q (cs ++ x.2.1)) : k_OK (b_X12_goOnOr (b_X12_goOnAnd p) p s) (fun s' => v_F w s s' ∧ v_R w N b d q cs (t_ors g b N x) s') := by
  rw [v_L_or]
  exact v_loop hb (by decide) (v_andP hb hp hG) (t_and_G hG) h
theorem v_cond {w N d : Nat} {b : Nat → Int} (hb : t_by b N) {p : k_St → Option k_St} {g : Nat → t_R} (hp : v_P w N b d p g) (hG : t_G N g) : v_P w N b d (b_X12_condition (b_X12_goOnAnd p) (b_X12_goOnOr (b_X12_goOnAnd p) p) p) (t_cnd g b N) := by
  intro s i q cs h
  unfold b_X12_condition
  rw [← k_bd_as, ok_bd]
  refine ok_mono (v_andP hb hp hG s i q cs h) ?_
  rintro s1 ⟨f1, h1⟩
  show k_OK _ (fun s' => v_F w s s' ∧ v_R w N b d q cs (t_bd (t_bd (g i) (t_and g b N)) (t_ors g b N)) s')
  rw [ok_bd]
  cases hq : t_bd (g i) (t_and g b N) with
  | inl e =>
    have h1 : v_R w N b d q cs (t_bd (g i) (t_and g b N)) s1 := h1
    rw [hq] at h1
    rw [v_L_or]
    refine ok_mono (v_L_E h1) ?_
    rintro s2 rfl
    rw [ok_some]
    exact ⟨f1, h1⟩
  | inr y =>
    have h1 : v_R w N b d q cs (t_bd (g i) (t_and g b N)) s1 := h1
    rw [hq] at h1
    refine ok_mono (v_orP hb hp hG (x := y) h1) ?_
    rintro s2 ⟨f2, h2⟩
    rw [ok_some]
    exact ⟨f1.tr f2, h2⟩
theorem v_unit {w N d : Nat} {b : Nat → Int} (hb : t_by b N) {pc pu : k_St → Option k_St} {un : Option (Nat → t_R)} {sm : Nat → t_R} (hd : d ≤ 6) (hs : v_P w N b d (f_X12_sum 20) sm) (hst : ∀ i, i ≤ N → sm (t_at b N i) = sm i) (hn : un = none → d = 6) (hu : ∀ u, un = some u → d < 6 ∧ v_P w N b (d + 1) pu u ∧ v_P w N b (d + 1) pc (t_cnd u b N)) : v_P w N b d (b_X12_unit pc pu) (t_un un sm b N) := by
  intro s i q cs h
  obtain ⟨s1, e1, h1, f1⟩ := v_look hb h
  have hi := h.2.2.1.1
  have hr := t_ch_r hb (t_at b N i)
  have hst2 := hst i hi
  have hN := h.1.2.1
  have hat := t_at_p (b := b) hi
  unfold b_X12_unit
  simp only [iI_lit, iI_neg]
  rw [e1, n_b2, n_ieq (by omega) (by omega), n_ieq (by omega) (by omega)]
  have cmp : k_OK (k_bd (f_X12_sum 20 s1) fun s79 =>
      k_if ((k_rd s79 0 4) = iI (-1))
        (k_bd (f_X12_compare s79) fun s91 =>
        some s91)
        (some s79)) (fun s' => v_F w s s' ∧ v_R w N b d q cs (t_bd (sm i) (t_cmp sm b N)) s') := by
    rw [ok_bd]
    refine ok_mono (hs _ _ _ _ h1) ?_
    rintro s2 ⟨f2, h2⟩
    rw [hst2] at h2
    cases hq : sm i with
    | inl e =>
      rw [hq] at h2
      have h2 : v_E w N s2 e d q := h2
      have := h2.eN
      rw [h2.e4, n_ieq (by omega) (by omega), if_neg (by omega), ok_some]
      exact ⟨f1.tr f2, h2⟩
    | inr y =>
      rw [hq] at h2
      have h2 : v_S w N b s2 y.1 d q (cs ++ y.2.1) := h2
      have e4 : k_rd s2 0 4 = iI (-1) := h2.2.1.2.1
      rw [e4, n_ift rfl, ok_bd]
      refine ok_mono (v_cmp hb hs h2) ?_
      rintro s3 ⟨f3, h3⟩
      rw [ok_some]
      exact ⟨(f1.tr f2).tr f3, h3⟩
  by_cases c1 : t_ch b N (t_at b N i) = 33
  · have hlt := t_ch_lt (b := b) (N := N) (i := t_at b N i) (by omega)
    obtain ⟨s2, e2, f2, h2⟩ := v_opens h1 hlt
    rw [if_pos c1, e2, n_bd]
    cases un with
    | none =>
      rw [if_pos (hn rfl)] at h2
      have e4 : k_rd s2 0 4 = iI ((t_at b N i : Nat) : Int) := h2.2
      rw [e4, n_ieq (by omega) (by omega), if_neg (by omega), ok_some, t_un_0, if_pos c1]
      exact ⟨f1.tr f2, h2.1.mo (Nat.le_refl _) (by omega)⟩
    | some u =>
      obtain ⟨u1, u2, u3⟩ := hu u rfl
      rw [if_neg (by omega)] at h2
      have e4 : k_rd s2 0 4 = iI (-1) := h2.2.1.2.1
      rw [e4, n_ift rfl, ok_bd, t_un_1, if_pos c1]
      refine ok_mono (u2 _ _ _ _ h2) ?_
      rintro s3 ⟨f3, h3⟩
      cases hq : u (t_at b N i + 1) with
      | inl e =>
        rw [hq] at h3
        obtain ⟨s4, e5, h4, f4⟩ := v_putE (x := iI 9) (y := iI 0) h3
        obtain ⟨i1, d1, n1, ⟨g1, g2, g3, g4⟩, g5, g6⟩ := h4
        rw [e5, n_bd, show k_rd s4 0 5 = _ from g3, iI_sub, ok_nm, ok_some]
        refine ⟨(((f1.tr f2).tr f3).tr f4).w0 (Or.inr (Or.inr rfl)), i1, d1 - 1, n1, ⟨(wr_k (by decide)).trans g1, (wr_k (by decide)).trans g2, ?_, (wr_k (by decide)).trans g4⟩, ?_, by omega⟩
        · rw [wr_s, show ((d1 - 1 : Nat) : Int) = (d1 : Int) - 1 by omega]
        · rw [wr_c (by decide)]
          exact g5
      | inr y =>
        rw [hq] at h3
        have h3 : v_S w N b s3 y.1 (d + 1) (q + 1) (cs ++ y.2.1) := h3
        obtain ⟨s4, e5, h4, f4⟩ := v_put (c := 9) (v := 0) h3
        have e6 : k_rd s4 0 5 = iI ((d + 1 : Nat) : Int) := h4.2.1.2.2.1
        have h5 := h4.dp (d' := d) (by omega)
        rw [e5, n_bd, e6, iI_sub, ok_nm, ok_some, show ((d + 1 : Nat) : Int) - 1 = (d : Int) by omega]
        refine ⟨(((f1.tr f2).tr f3).tr f4).w0 (Or.inr (Or.inr rfl)), ?_⟩
        show v_S w N b _ y.1 d q (cs ++ (y.2.1 ++ [(9, 0)]))
        rw [← List.append_assoc]
        exact h5
  rw [if_neg c1]
  by_cases c2 : t_ch b N (t_at b N i) = 40
  · have hlt := t_ch_lt (b := b) (N := N) (i := t_at b N i) (by omega)
    obtain ⟨s2, e2, f2, h2⟩ := v_opens h1 hlt
    rw [if_pos c2, e2, n_bd]
    cases un with
    | none =>
      rw [if_pos (hn rfl)] at h2
      have e4 : k_rd s2 0 4 = iI ((t_at b N i : Nat) : Int) := h2.2
      rw [e4, n_ieq (by omega) (by omega), if_neg (by omega), ok_some, t_un_0, if_neg c1, if_pos c2]
      exact ⟨f1.tr f2, h2.1.mo (Nat.le_refl _) (by omega)⟩
    | some u =>
      obtain ⟨u1, u2, u3⟩ := hu u rfl
      rw [if_neg (by omega)] at h2
      have e4 : k_rd s2 0 4 = iI (-1) := h2.2.1.2.1
      rw [e4, n_ift rfl, ok_bd, t_un_1, if_neg c1, if_pos c2]
      refine ok_mono (u3 _ _ _ _ h2) ?_
      rintro s3 ⟨f3, h3⟩
      cases hq : t_cnd u b N (t_at b N i + 1) with
      | inl e =>
        rw [hq] at h3
        obtain ⟨s4, e5, f4, h4⟩ := v_closesE (x := iI 41) h3
        rw [e5, n_bd, ok_some]
        exact ⟨((f1.tr f2).tr f3).tr f4, h4.mo (Nat.le_refl _) (by omega)⟩
      | inr y =>
        rw [hq] at h3
        obtain ⟨s4, e5, f4, h4⟩ := v_closes hb h3 (c := 41) (by omega)
        rw [e5, n_bd, ok_some]
        refine ⟨((f1.tr f2).tr f3).tr f4, ?_⟩
        show v_R w N b d q cs (t_nd b N 41 y) s4
        unfold t_nd
        by_cases q1 : t_ch b N (t_at b N y.1) = 41
        · rw [if_pos q1] at h4 ⊢
          exact h4.mo (by omega)
        · rw [if_neg q1] at h4 ⊢
          exact h4.mo (Nat.le_refl _) (by omega)
  · rw [if_neg c2]
    cases un with
    | none =>
      rw [t_un_0, if_neg c1, if_neg c2]
      exact cmp
    | some u =>
      rw [t_un_1, if_neg c1, if_neg c2]
      exact cmp
theorem v_readUnit {w N : Nat} {b : Nat → Int} (hb : t_by b N) : ∀ (k n : Nat), k < n → k ≤ 6 → v_P w N b (6 - k) (f_X12_unit n) (t_unit b N k)
  | 0, n + 1, h, h6 => v_unit hb (by omega) (v_sum hb 0 20 (by omega) (by omega)) (fun i hi => t_sum_at hi) (fun _ => rfl) (fun u q => by cases q)
  | k + 1, n + 1, h, h6 => v_unit hb (by omega) (v_sum hb (k + 1) 20 (by omega) (by omega)) (fun i hi => t_sum_at hi) (fun q => by cases q) (fun u q => by
      cases q
      have ih := v_readUnit (w := w) hb k n (by omega) (by omega)
      rw [show 6 - (k + 1) + 1 = 6 - k by omega]
      exact ⟨by omega, ih, v_cond hb ih (t_unit_G hb k)⟩)
