/-! the reference's sums -/
def v_R (w N : Nat) (b : Nat → Int) (d q : Nat) (cs : List (Int × Int)) (x : t_R) (s' : k_St) : Prop := match x with
  | .inl e => v_E w N s' e d q
  | .inr y => v_S w N b s' y.1 d q (cs ++ y.2.1)
def v_P (w N : Nat) (b : Nat → Int) (d : Nat) (f : k_St → Option k_St) (g : Nat → t_R) : Prop := ∀ s i q cs, v_S w N b s i d q cs → k_OK (f s) (fun s' => v_F w s s' ∧ v_R w N b d q cs (g i) s')
theorem v_E.e4 {w N : Nat} {s : k_St} {e d q : Nat} (h : v_E w N s e d q) : k_rd s 0 4 = iI (e : Int) := by
  obtain ⟨_, _, _, h1, _⟩ := h
  exact h1.2.1
theorem v_E.eN {w N : Nat} {s : k_St} {e d q : Nat} (h : v_E w N s e d q) : e ≤ N ∧ N ≤ 160 := by
  obtain ⟨_, _, _, _, _, h1⟩ := h
  exact ⟨h1.2.2.2.2.1, h1.2.2.2.2.2⟩
def v_G (c1 c2 o1 o2 : Int32) (p : k_St → Option k_St) (σ : k_St) : Option k_St :=
  k_bd (p σ) fun s1 =>
  k_jn (fun (t0 : Int32) (s0 : k_St) =>
    k_loop (fun (g : Int32 × k_St → Option (k_St)) (z : Int32 × k_St) => match z with
      | (v1, s2) =>
        k_jn (fun (_ : Unit) =>
          k_nm (k_wr s2 0 3 ((k_rd s2 0 3) + (1 : Int32))) fun s40 =>
          k_bd (p s40) fun s44 =>
          k_jn (fun (t1 : Int32) =>
            k_bd (f_X12_put t1 (0 : Int32) s44) fun s60 =>
            k_if ((k_rd s60 0 4) = (-1 : Int32))
              (k_b2 (f_X12_look s60) fun v72 s72 =>
              g (v72, s72))
              (g ((-1 : Int32), s60))) fun j59 =>
          k_if (v1 = c1)
            (j59 o1)
            (j59 o2)) fun j33 =>
        k_if (v1 = c1)
          (j33 ())
          (k_if (v1 = c2)
            (j33 ())
            (some s2))) 100000 (t0, s0)) fun j20 =>
  k_if ((k_rd s1 0 4) = (-1 : Int32))
    (k_b2 (f_X12_look s1) fun v13 s13 =>
    j20 v13 s13)
    (j20 (-1 : Int32) s1)
theorem v_G_sum {p : k_St → Option k_St} : b_X12_sum p = v_G (iI 43) (iI 45) (iI 2) (iI 3) p := by
  funext σ
  unfold b_X12_sum v_G
  simp only [iI_lit]
theorem v_G_term {p : k_St → Option k_St} : b_X12_term p = v_G (iI 42) (iI 47) (iI 4) (iI 5) p := by
  funext σ
  unfold b_X12_term v_G
  simp only [iI_lit]
theorem v_chain {w N d : Nat} {b : Nat → Int} (hb : t_by b N) {p : k_St → Option k_St} {g : Nat → t_R} {c1 o1 c2 o2 : Int} (hc1 : 0 ≤ c1 ∧ c1 ≤ 255) (hc2 : 0 ≤ c2 ∧ c2 ≤ 255) (hp : v_P w N b d p g) (hG : t_G N g) : v_P w N b d (v_G (iI c1) (iI c2) (iI o1) (iI o2) p) (t_chain g b N c1 o1 c2 o2) := by
  intro s i q cs h
  have hN := h.1.2.1
  have hgi := hG i h.2.2.1.1
  generalize hX : t_chain g b N c1 o1 c2 o2 i = X
  have hX : t_bd (g i) (t_lp g b N c1 o1 c2 o2 200) = X := hX
  unfold v_G
  simp only [iI_lit, iI_neg]
  rw [ok_bd]
  refine ok_mono (hp s i q cs h) ?_
  rintro s1 ⟨f1, h1⟩
  refine ok_jnI (fun jn => ∀ (v : Int32) s2, v_F w s s2 → ((∃ e, X = .inl e ∧ v = iI (-1) ∧ v_E w N s2 e d q) ∨ ∃ y : t_V, t_lp g b N c1 o1 c2 o2 200 y = X ∧ v = iI (t_ch b N (t_at b N y.1)) ∧ v_S w N b s2 (t_at b N y.1) d q (cs ++ y.2.1) ∧ y.1 ≤ N) → k_OK (jn v s2) (fun s' => v_F w s s' ∧ v_R w N b d q cs X s')) ?_ ?_
  · intro v s2 f2 hcase
    show k_OK (k_loop _ _ _) _
    refine ok_for 170 (fun t (z : Int32 × k_St) => v_F w s z.2 ∧ ((∃ e, X = .inl e ∧ z.1 = iI (-1) ∧ v_E w N z.2 e d q) ∨ ∃ y : t_V, t_lp g b N c1 o1 c2 o2 (200 - t) y = X ∧ z.1 = iI (t_ch b N (t_at b N y.1)) ∧ v_S w N b z.2 (t_at b N y.1) d q (cs ++ y.2.1) ∧ y.1 ≤ N ∧ t ≤ y.1)) ?_ (by omega) (j := 0) ⟨f2, ?_⟩ (by omega)
    rotate_left
    · rcases hcase with hh | ⟨y, y1, y2, y3, y4⟩
      · exact Or.inl hh
      · exact Or.inr ⟨y, y1, y2, y3, y4, Nat.zero_le _⟩
    rintro gg t ⟨v1, s3⟩ ⟨f3, hh⟩ ht hgo
    have f3 : v_F w s s3 := f3
    show k_OK (k_jn _ _) _
    rcases hh with ⟨e, eX, ev, hE⟩ | ⟨y, y1, y2, y3, y4, y5⟩
    · have ev : v1 = iI (-1) := ev
      subst ev
      simp only [n_jn]
      rw [n_ieq (by omega) (by omega), if_neg (by omega), n_ieq (by omega) (by omega), if_neg (by omega), ok_some, eX]
      exact ⟨f3, hE⟩
    · have y2 : v1 = iI (t_ch b N (t_at b N y.1)) := y2
      subst y2
      have y3 : v_S w N b s3 (t_at b N y.1) d q (cs ++ y.2.1) := y3
      have hr := t_ch_r hb (t_at b N y.1)
      have hat := t_at_p (b := b) y4
      have e3 : k_rd s3 0 3 = iI ((t_at b N y.1 : Nat) : Int) := y3.2.1.1
      have hql := y3.2.2.1.2.2.2
      rw [show 200 - t = (200 - (t + 1)) + 1 by omega, t_lp_s] at y1
      -- one more piece
      have go : ∀ o : Int, t_at b N y.1 < N → t_bd (g (t_at b N y.1 + 1)) (fun z => t_lp g b N c1 o1 c2 o2 (200 - (t + 1)) (t_op o y z)) = X → ∀ K : k_St → Option k_St, (∀ s4, k_OK (k_bd (f_X12_put (iI o) (iI 0) s4) fun s60 =>
            k_if ((k_rd s60 0 4) = iI (-1))
              (k_b2 (f_X12_look s60) fun v72 s72 =>
              gg (v72, s72))
              (gg (iI (-1), s60))) (fun s' => v_F w s s' ∧ v_R w N b d q cs X s') → k_OK (K s4) (fun s' => v_F w s s' ∧ v_R w N b d q cs X s')) → k_OK (k_nm (k_wr s3 0 3 (iI ((t_at b N y.1 : Nat) : Int) + iI 1)) fun s40 => k_bd (p s40) K) (fun s' => v_F w s s' ∧ v_R w N b d q cs X s') := by
        intro o hlt hXo K hK
        rw [iI_add, ok_nm, ok_bd]
        have h4 : v_S w N b (k_wr s3 0 3 (iI ((t_at b N y.1 + 1 : Nat) : Int))) (t_at b N y.1 + 1) d (q + 1) (cs ++ y.2.1) := y3.at' (by omega) (by omega)
        have f4 : v_F w s (k_wr s3 0 3 (iI ((t_at b N y.1 + 1 : Nat) : Int))) := f3.w0 (Or.inl rfl)
        have hgj := hG (t_at b N y.1 + 1) (by omega)
        refine ok_mono (hp _ _ _ _ h4) ?_
        rintro s5 ⟨f5, h5⟩
        have f45 := f4.tr f5
        refine hK s5 ?_
        cases hq : g (t_at b N y.1 + 1) with
        | inl e =>
          rw [hq] at h5 hXo
          have h5 : v_E w N s5 e d (q + 1) := h5
          obtain ⟨s6, e6, h6, f6⟩ := v_putE (x := iI o) (y := iI 0) h5
          have := h6.eN
          rw [e6, n_bd, h6.e4, n_ieq (by omega) (by omega), if_neg (by omega)]
          exact hgo (iI (-1), s6) (by omega) ⟨f45.tr f6, Or.inl ⟨e, hXo.symm, rfl, h6⟩⟩
        | inr z =>
          rw [hq] at h5 hXo hgj
          have hz := hgj.1
          have h5 : v_S w N b s5 z.1 d (q + 1) (cs ++ y.2.1 ++ z.2.1) := h5
          obtain ⟨s6, e6, h6, f6⟩ := v_put (c := o) (v := 0) h5
          have e64 : k_rd s6 0 4 = iI (-1) := h6.2.1.2.1
          obtain ⟨s7, e7, h7, f7⟩ := v_look hb h6
          rw [e6, n_bd, e64, n_ift rfl, e7, n_b2]
          refine hgo (_, s7) (by omega) ⟨(f45.tr f6).tr f7, Or.inr ⟨t_op o y z, hXo, rfl, ?_, hz.2, by show t + 1 ≤ z.1; omega⟩⟩
          have ec : cs ++ (t_op o y z).2.1 = cs ++ y.2.1 ++ z.2.1 ++ [(o, 0)] := by
            show cs ++ (y.2.1 ++ z.2.1 ++ [(o, 0)]) = _
            rw [← List.append_assoc, ← List.append_assoc]
          rw [ec]
          exact h7
      simp only [n_jn]
      rw [e3, n_ieq (by omega) (by omega)]
      by_cases q1 : t_ch b N (t_at b N y.1) = c1
      · rw [if_pos q1] at y1 ⊢
        refine go o1 (t_ch_lt (b := b) (N := N) (by omega)) y1 _ (fun s4 hs4 => ?_)
        show k_OK (k_if _ _ _) _
        rw [n_ieq (by omega) (by omega), if_pos q1]
        exact hs4
      · rw [if_neg q1] at y1 ⊢
        rw [n_ieq (by omega) (by omega)]
        by_cases q2 : t_ch b N (t_at b N y.1) = c2
        · rw [if_pos q2] at y1 ⊢
          refine go o2 (t_ch_lt (b := b) (N := N) (by omega)) y1 _ (fun s4 hs4 => ?_)
          show k_OK (k_if _ _ _) _
          rw [n_ieq (by omega) (by omega), if_neg q1]
          exact hs4
        · rw [if_neg q2] at y1 ⊢
          rw [ok_some, ← y1]
          exact ⟨f3, y3⟩
  · intro jn hjn
    show k_OK (k_if _ _ _) _
    cases hq : g i with
    | inl e =>
      rw [hq] at h1 hX
      have h1 : v_E w N s1 e d q := h1
      have := h1.eN
      rw [h1.e4, n_ieq (by omega) (by omega), if_neg (by omega)]
      exact hjn _ s1 f1 (Or.inl ⟨e, hX.symm, rfl, h1⟩)
    | inr y =>
      rw [hq] at h1 hX hgi
      have h1 : v_S w N b s1 y.1 d q (cs ++ y.2.1) := h1
      have e4 : k_rd s1 0 4 = iI (-1) := h1.2.1.2.1
      obtain ⟨s2, e2, h2, f2⟩ := v_look hb h1
      rw [e4, n_ift rfl, e2, n_b2]
      exact hjn _ s2 (f1.tr f2) (Or.inr ⟨y, hX, rfl, h2, hgi.1.2⟩)
/-! the reference's atoms -/
theorem v_dig {c : Int} (hc : -1 ≤ c ∧ c ≤ 255) : f_X12_isDigit (iI c) = some (iI (if t_dg c then 1 else 0)) := by
  unfold f_X12_isDigit
  simp only [iI_lit]
  rw [n_ilt (by omega) (by omega), n_ilt (by omega) (by omega)]
  by_cases q1 : c < 48
  · rw [if_pos q1, if_neg (fun z => by have := z.1; omega)]
  · rw [if_neg q1]
    by_cases q2 : 57 < c
    · rw [if_pos q2, if_neg (fun z => by have := z.2; omega)]
    · rw [if_neg q2, if_pos ⟨by omega, by omega⟩]
theorem v_let {c : Int} (hc : -1 ≤ c ∧ c ≤ 255) : f_X12_letterOf (iI c) = some (iI (t_lt c)) := by
  unfold f_X12_letterOf t_lt
  simp only [iI_lit, iI_neg]
  rw [n_ieq (by omega) (by omega), n_ieq (by omega) (by omega), n_ieq (by omega) (by omega), n_ieq (by omega) (by omega), n_ieq (by omega) (by omega)]
  repeat' split
  all_goals rfl
theorem v_badE {w N d q : Nat} {b : Nat → Int} {s : k_St} {i : Nat} {cs : List (Int × Int)} (h : v_S w N b s i d q cs) : f_X12_bad s = some (k_wr s 0 4 (iI (i : Int))) := by
  obtain ⟨⟨h1, h2, h3⟩, ⟨h4, h5, h6, h7⟩, h8, h9, h10⟩ := h
  unfold f_X12_bad
  simp only [iI_lit, iI_neg]
  rw [show k_rd s 0 4 = _ from h5, n_ift rfl, show k_rd s 0 3 = _ from h4]
  rfl
theorem v_opens {w N d q : Nat} {b : Nat → Int} {s : k_St} {i : Nat} {cs : List (Int × Int)} (h : v_S w N b s i d q cs) (hi : i < N) : ∃ s', f_X12_opens s = some s' ∧ v_F w s s' ∧ (if d = 6 then v_E w N s' i d (q + 1) ∧ s'.1 0 4 = iI (i : Int) else v_S w N b s' (i + 1) (d + 1) (q + 1) cs) := by
  have e5 : k_rd s 0 5 = iI (d : Int) := h.2.1.2.2.1
  have e3 : k_rd s 0 3 = iI (i : Int) := h.2.1.1
  have hq := h.2.2.1
  unfold f_X12_opens
  simp only [iI_lit, n_jn]
  rw [e5, n_ieq (by omega) (by omega)]
  by_cases c : d = 6
  · have eb := v_badE h
    obtain ⟨⟨h1, h2, h3⟩, ⟨h4, h5, h6, h7⟩, h8, h9, h10⟩ := id h
    refine ⟨k_wr (k_wr (k_wr s 0 4 (iI (i : Int))) 0 5 (iI ((d : Int) + 1))) 0 3 (iI ((i : Int) + 1)), ?_, ((v_F.rf.w0 (Or.inr (Or.inl rfl))).w0 (Or.inr (Or.inr rfl))).w0 (Or.inl rfl), ?_⟩
    · rw [if_pos (by omega), eb, n_bd, show k_rd (k_wr s 0 4 (iI (i : Int))) 0 5 = _ from h6, iI_add, n_nm, show k_rd (k_wr (k_wr s 0 4 (iI (i : Int))) 0 5 (iI ((d : Int) + 1))) 0 3 = _ from h4, iI_add, n_nm]
    · rw [if_pos c]
      exact ⟨⟨i + 1, d + 1, cs.length, ⟨wr_s, (wr_k (by decide)).trans ((wr_k (by decide)).trans wr_s), (wr_k (by decide)).trans wr_s, h7⟩, h9, by omega⟩, (wr_k (by decide)).trans ((wr_k (by decide)).trans wr_s)⟩
  · have h1 := (h.dp (d' := d + 1) (by omega)).at' (i' := i + 1) (q' := q + 1) (by omega) (by omega)
    refine ⟨_, ?_, (v_F.rf.w0 (Or.inr (Or.inr rfl))).w0 (Or.inl rfl), by rw [if_neg c]; exact h1⟩
    rw [if_neg (by omega), iI_add, n_nm, show k_rd (k_wr s 0 5 (iI ((d : Int) + 1))) 0 3 = _ from e3, iI_add, n_nm]
    rfl
theorem v_closes {w N d q : Nat} {b : Nat → Int} {s : k_St} {i : Nat} {cs : List (Int × Int)} (hb : t_by b N) (h : v_S w N b s i (d + 1) q cs) {c : Int} (hc : 0 ≤ c ∧ c ≤ 255) : ∃ s', f_X12_closes (iI c) s = some s' ∧ v_F w s s' ∧ (if t_ch b N (t_at b N i) = c then v_S w N b s' (t_at b N i + 1) d q cs else v_E w N s' (t_at b N i) d q) := by
  have e4 : k_rd s 0 4 = iI (-1) := h.2.1.2.1
  obtain ⟨s1, e1, h1, f1⟩ := v_look hb h
  have hr := t_ch_r hb (t_at b N i)
  have e5 : k_rd s1 0 5 = iI ((d + 1 : Nat) : Int) := h1.2.1.2.2.1
  have e3 : k_rd s1 0 3 = iI ((t_at b N i : Nat) : Int) := h1.2.1.1
  have hq := h1.2.2.1
  unfold f_X12_closes
  simp only [iI_lit, iI_neg, n_jn]
  rw [e4, n_ift rfl, e1, n_b2, n_ieq (by omega) (by omega)]
  by_cases q1 : t_ch b N (t_at b N i) = c
  · have hlt := t_ch_lt (b := b) (N := N) (i := t_at b N i) (by omega)
    have h2 := (h1.at' (i' := t_at b N i + 1) (q' := q) (by omega) (by omega)).dp (d' := d) (by omega)
    refine ⟨_, ?_, (f1.w0 (Or.inl rfl)).w0 (Or.inr (Or.inr rfl)), by rw [if_pos q1]; exact h2⟩
    rw [if_pos q1, e3, iI_add, n_nm, show k_rd (k_wr s1 0 3 (iI (((t_at b N i : Nat) : Int) + 1))) 0 5 = _ from e5, iI_sub, n_nm, show ((d + 1 : Nat) : Int) - 1 = (d : Int) by omega]
    rfl
  · obtain ⟨s2, e2, h2, f2⟩ := v_bad h1
    obtain ⟨i1, d1, n1, ⟨g1, g2, g3, g4⟩, g5, g6⟩ := h2
    refine ⟨k_wr (k_wr s2 0 3 (iI ((i1 : Int) + 1))) 0 5 (iI ((d1 : Int) - 1)), ?_, (((f1.tr f2).w0 (Or.inl rfl)).w0 (Or.inr (Or.inr rfl))), ?_⟩
    · rw [if_neg q1, e2, n_bd, show k_rd s2 0 3 = _ from g1, iI_add, n_nm, show k_rd (k_wr s2 0 3 (iI ((i1 : Int) + 1))) 0 5 = _ from g3, iI_sub, n_nm]
    · rw [if_neg q1]
      refine ⟨i1 + 1, d1 - 1, n1, ⟨(wr_k (by decide)).trans wr_s, (wr_k (by decide)).trans ((wr_k (by decide)).trans g2), ?_, (wr_k (by decide)).trans ((wr_k (by decide)).trans g4)⟩, ?_, by omega⟩
      · rw [wr_s, show ((d1 - 1 : Nat) : Int) = (d1 : Int) - 1 by omega]
      · rw [wr_c (by decide), wr_c (by decide)]
        exact g5
theorem v_closesE {w N d q e : Nat} {s : k_St} {x : Int32} (h : v_E w N s e (d + 1) q) : ∃ s', f_X12_closes x s = some s' ∧ v_F w s s' ∧ v_E w N s' e d q := by
  have hN := h.eN
  have e4 := h.e4
  obtain ⟨i1, d1, n1, ⟨g1, g2, g3, g4⟩, g5, g6⟩ := h
  refine ⟨k_wr (k_wr s 0 3 (iI ((i1 : Int) + 1))) 0 5 (iI ((d1 : Int) - 1)), ?_, (v_F.rf.w0 (Or.inl rfl)).w0 (Or.inr (Or.inr rfl)), ⟨i1 + 1, d1 - 1, n1, ⟨(wr_k (by decide)).trans wr_s, (wr_k (by decide)).trans ((wr_k (by decide)).trans g2), ?_, (wr_k (by decide)).trans ((wr_k (by decide)).trans g4)⟩, ?_, by omega⟩⟩
  · unfold f_X12_closes
    simp only [iI_lit, iI_neg, n_jn]
    rw [e4, n_ieq (by omega) (by omega), if_neg (by omega), show k_rd s 0 3 = _ from g1, iI_add, n_nm, show k_rd (k_wr s 0 3 (iI ((i1 : Int) + 1))) 0 5 = _ from g3, iI_sub, n_nm]
  · rw [wr_s, show ((d1 - 1 : Nat) : Int) = (d1 : Int) - 1 by omega]
  · rw [wr_c (by decide), wr_c (by decide)]
    exact g5
