/-! count, said, run, set -/
theorem n_ift {β : Type} {p : Prop} [Decidable p] {a b : Option β} (h : p) : k_if p a b = a := if_pos h
theorem n_iff {β : Type} {p : Prop} [Decidable p] {a b : Option β} (h : ¬ p) : k_if p a b = b := if_neg h
theorem n_told {σ : k_St} {p j : Nat} (hp : p < 6) (hj : j < 4) : f_X1_told (iI p) (iI j) σ = some (σ.1 13 (4 * p + j)) := by
  unfold f_X1_told
  simp (disch := omega) only [iI_lit, n_jn, n_ilt, n_ile]
  rw [if_neg (by omega), if_neg (by omega), if_neg (by omega), if_neg (by omega), n_iff (show ¬ iI 1 = iI 0 by decide), show iI (p : Int) * iI 4 + iI (j : Int) = iI ((4 * p + j : Nat) : Int) from (by simp only [iI_mul, iI_add]; congr 1; omega), n_gix (by omega) (by omega), iI_cl (by omega)]
  rfl
theorem n_of {σ : k_St} {p j : Nat} (hp : p < 6) (hj : j < 4) : f_X12_of (iI p) (iI j) σ = some (σ.1 13 (4 * p + j)) := by
  unfold f_X12_of
  rw [iI_lit, show iI 4 * iI (p : Int) + iI (j : Int) = iI ((4 * p + j : Nat) : Int) from (by simp only [iI_mul, iI_add]; congr 1), n_gix (by omega) (by omega), iI_cl (by omega)]
  rfl
theorem n_i32 (y : Int32) : y = iI y.toInt := iI_of y
theorem n_two {α : Type} {e : Option α} (h : ∃ r, e = some r) : ∃ r, e = some r ∧ e = some r := by
  obtain ⟨r, h⟩ := h
  exact ⟨r, h, h⟩
theorem n_fi {β : Type} {p : Prop} [Decidable p] {a b : Option β} (ha : ∃ r, a = some r) (hb : ∃ r, b = some r) : ∃ r, k_if p a b = some r := by
  unfold k_if
  by_cases h : p
  · rw [if_pos h]; exact ha
  · rw [if_neg h]; exact hb
theorem q_s47 : g_s47 z_Inv := by
  intro σX σM hI a0
  obtain ⟨z, hz, rfl⟩ := iI_ex a0
  obtain ⟨x, m, hx, hm, hR⟩ := z_open hI
  obtain ⟨hTap, hLak, hNow, hImg, hShf, hSee, hLrn, hLaw, hVal⟩ := id hR
  obtain ⟨l1, l2, l3, l4, l5, l6⟩ := id hLak
  obtain ⟨h1, h2, h3, h4, h5, h6, h7, h8⟩ := id hNow
  have b7 : 0 ≤ vI m 0 59 ∧ vI m 0 59 ≤ 40 := h7.2
  have g4 := h1.1.r4 l2.2.2
  have r26 := vI_rg m 0 26
  have r27 := vI_rg m 0 27
  have r28 := vI_rg m 0 28
  have r29 := vI_rg m 0 29
  have ep : f_X12_packed 14 σM = some (iI (n_p4 (fun s => (m.1 14 s).toInt))) := n_packed rfl (fun s hs => (n_core_1 hm rfl).trans (iI_of _))
  have ed : f_X11_digitsOf (k_rd σX 16 0) = some (iI (n_p4 (fun s => (m.1 14 s).toInt))) := by
    rw [show k_rd σX 16 0 = iI (n_e4 (fun s => (m.1 14 s).toInt)) from (n_core_1 hx rfl).trans h1.2, n_digs g4]
  unfold f_X11_count f_X12_count
  rw [ep, ed, n_caX hx hNow, n_caM hm b7, n_rX hx rfl l1.1, n_rX hx rfl l2.1, n_rX hx rfl h6.1, n_rX hx rfl hLaw.1.1, n_rX hx rfl hTap.1.1, n_rX hx rfl h4.1, n_rX hx rfl h5.1, n_rX hx rfl hLrn.1.1, n_rX hx rfl hSee.1.1, n_rX hx rfl h7.1, n_rX hx rfl hLaw.2.1.1, n_rX hx rfl hLrn.2.1, n_core_I hm (c := 0) (k := 21) rfl, n_core_I hm (c := 0) (k := 22) rfl, n_core_I hm (c := 0) (k := 23) rfl, n_core_I hm (c := 0) (k := 13) rfl, n_core_I hm (c := 0) (k := 2) rfl, n_core_I hm (c := 0) (k := 26) rfl, n_core_I hm (c := 0) (k := 27) rfl, n_core_I hm (c := 0) (k := 28) rfl, n_core_I hm (c := 0) (k := 52) rfl, n_core_I hm (c := 0) (k := 59) rfl, n_core_I hm (c := 0) (k := 30) rfl, n_core_I hm (c := 0) (k := 29) rfl]
  refine n_two ?_
  repeat' (first | exact ⟨_, rfl⟩ | refine n_fi ?_ ?_)
theorem q_s42 : g_s42 z_Inv := by
  intro σX σM hI a0 a1
  obtain ⟨a, ha, rfl⟩ := iI_ex a0
  obtain ⟨b, hb, rfl⟩ := iI_ex a1
  obtain ⟨x, m, hx, hm, hR⟩ := z_open hI
  obtain ⟨hTap, hLak, hNow, hImg, hShf, hSee, hLrn, hLaw, hVal⟩ := id hR
  obtain ⟨l1, l2, l3, l4, l5, l6⟩ := id hLak
  obtain ⟨h1, h2, h3, h4, h5, h6, h7, h8⟩ := id hNow
  have b7 : 0 ≤ vI m 0 59 ∧ vI m 0 59 ≤ 40 := h7.2
  have f1 := n_rX hx rfl h7.1
  have f2 := n_core_I hm (c := 0) (k := 59) rfl
  have f3 := n_core_I hm (c := 0) (k := 21) rfl
  obtain ⟨d, hd⟩ := Int.eq_ofNat_of_zero_le b7.1
  rw [hd] at f1 f2 b7
  have hpl : ∀ j : Nat, j < d → ∃ q : Nat, q < 6 ∧ m.1 35 j = iI q ∧ x.1 13 (4 * q + 1) = m.1 13 (4 * q + 1) := fun j hj => by
    have h9 := (h8 j (by show (j : Int) < vI m 0 59; omega)).1
    obtain ⟨q, hq⟩ := Int.eq_ofNat_of_zero_le h9.2.1
    have h10 := h9.2.2
    rw [hq] at h10
    exact ⟨q, by omega, by rw [← hq]; exact iI_of _, (l6 q h10).1 1 (by omega)⟩
  unfold f_X11_said f_X12_said
  simp (disch := omega) only [iI_lit, n_lk hx (n_vI l1.1) l1.2, f3, n_in, n_within, n_bd, n_ib, n_ieq]
  by_cases c0 : 0 < vI m 0 21
  · rw [if_pos c0, if_neg (show ¬ vI m 0 21 = 0 by omega)]
    by_cases c1 : 0 ≤ a ∧ a ≤ 3
    · rw [if_pos c1, if_pos c1]
      by_cases c2 : 0 ≤ b ∧ b ≤ 3
      · rw [if_pos c2, if_pos c2]
        refine ⟨n_rec (iI 0) (fun j v => if m.1 36 j = iI b ∧ m.1 13 (4 * (m.1 35 j).toInt.toNat + 1) = iI a then v + iI 1 else v) d, ?_, ?_⟩
        · refine ok_eq.mp (ok_for d (fun j (z : Int32 × Int32) => z = (n_rec (iI 0) (fun j v => if m.1 36 j = iI b ∧ m.1 13 (4 * (m.1 35 j).toInt.toNat + 1) = iI a then v + iI 1 else v) j, iI j)) ?_ (by omega) (j := 0) rfl (Nat.zero_le _))
          rintro g j _ rfl hj hg
          show k_OK (k_if _ _ _) _
          rw [f1, n_ile (by omega) (by omega)]
          by_cases c3 : (d : Int) ≤ j
          · rw [if_pos c3, ok_some, show j = d by omega]
          · have h9 := h8 j (by show (j : Int) < vI m 0 59; omega)
            obtain ⟨q, q1, q2, q3⟩ := hpl j (by omega)
            have eq0 : (m.1 35 j).toInt.toNat = q := by rw [q2, iI_to (by omega)]; rfl
            rw [if_neg c3, n_dy1 (by omega), n_dy0 (by omega), n_bd, n_bd, show k_rd σX 17 j = m.1 35 j from (n_core_1 hx rfl).trans h9.1.1, show k_rd σX 18 j = m.1 36 j from (n_core_1 hx rfl).trans h9.2.1.1, q2, show (iI 1 : Int32) = iI ((1 : Nat) : Int) from rfl, n_told q1 (by omega), show σX.1 13 (4 * q + 1) = m.1 13 (4 * q + 1) from (n_core_1 hx rfl).trans q3, ok_if]
            refine ⟨fun c4 => ?_, fun c4 => ?_⟩
            · rw [n_bd, ok_if]
              refine ⟨fun c5 => ?_, fun c5 => ?_⟩
              · rw [ok_nm, ok_nm]
                exact hg _ (by omega) (by show _ = ((if _ ∧ _ then _ else _), _); rw [eq0, if_pos ⟨c4, c5⟩, iI_add]; rfl)
              · rw [ok_nm]
                exact hg _ (by omega) (by show _ = ((if _ ∧ _ then _ else _), _); rw [eq0, if_neg (fun q => c5 q.2), iI_add]; rfl)
            · rw [ok_nm]
              exact hg _ (by omega) (by show _ = ((if _ ∧ _ then _ else _), _); rw [if_neg (fun q => c4 q.1), iI_add]; rfl)
        · refine ok_eq.mp (ok_for d (fun j (z : Int32 × Int32) => z = (n_rec (iI 0) (fun j v => if m.1 36 j = iI b ∧ m.1 13 (4 * (m.1 35 j).toInt.toNat + 1) = iI a then v + iI 1 else v) j, iI j)) ?_ (by omega) (j := 0) rfl (Nat.zero_le _))
          rintro g j _ rfl hj hg
          show k_OK (k_if _ _ _) _
          rw [f2, n_ile (by omega) (by omega)]
          by_cases c3 : (d : Int) ≤ j
          · rw [if_pos c3, ok_some, show j = d by omega]
          · obtain ⟨q, q1, q2, q3⟩ := hpl j (by omega)
            have eq0 : (m.1 35 j).toInt.toNat = q := by rw [q2, iI_to (by omega)]; rfl
            have ez : ∀ y : Int32, y + iI 0 = y := fun y => by rw [show iI 0 = (0 : Int32) from rfl, Int32.add_zero]
            rw [if_neg c3, n_gix (by omega) (by omega), n_gix (by omega) (by omega), iI_cl (by omega), show ((j : Int)).toNat = j from rfl, show k_rd σM 35 j = m.1 35 j from n_core_1 hm rfl, show k_rd σM 36 j = m.1 36 j from n_core_1 hm rfl, q2, show (iI 1 : Int32) = iI ((1 : Nat) : Int) from rfl, n_of q1 (by omega), show σM.1 13 (4 * q + 1) = m.1 13 (4 * q + 1) from n_core_1 hm rfl, n_bd, ok_if]
            refine ⟨fun c4 => ?_, fun c4 => ?_⟩
            · rw [ok_if]
              refine ⟨fun c5 => ?_, fun c5 => ?_⟩
              · rw [ok_nm, ok_nm]
                exact hg _ (by omega) (by show _ = ((if _ ∧ _ then _ else _), _); rw [eq0, if_pos ⟨c5, c4⟩, iI_add]; rfl)
              · rw [ok_nm, ok_nm]
                exact hg _ (by omega) (by show _ = ((if _ ∧ _ then _ else _), _); rw [if_neg (fun q => c5 q.1), iI_add, ez]; rfl)
            · rw [ok_nm, ok_nm]
              exact hg _ (by omega) (by show _ = ((if _ ∧ _ then _ else _), _); rw [eq0, if_neg (fun q => c4 q.2), iI_add, ez]; rfl)
      · rw [if_neg c2, if_neg c2]
        exact ⟨_, rfl, rfl⟩
    · rw [if_neg c1, if_neg c1]
      exact ⟨_, rfl, rfl⟩
  · rw [if_neg c0, if_pos (show vI m 0 21 = 0 by omega)]
    exact ⟨_, rfl, rfl⟩
def n_rn (ct : Nat → Int32) (j : Nat) (v : Int32 × Int32) : Int32 × Int32 := if ct j = iI 0 then (o_max v.1 (v.2 + iI 1), v.2 + iI 1) else (o_max v.1 (iI 0), iI 0)
theorem q_s43 : g_s43 z_Inv := by
  intro σX σM hI
  obtain ⟨x, m, hx, hm, hR⟩ := z_open hI
  obtain ⟨hTap, hLak, hNow, hImg, hShf, hSee, hLrn, hLaw, hVal⟩ := id hR
  obtain ⟨l1, l2, l3, l4, l5, l6⟩ := id hLak
  obtain ⟨h1, h2, h3, h4, h5, h6, h7, h8⟩ := id hNow
  have b7 : 0 ≤ vI m 0 59 ∧ vI m 0 59 ≤ 40 := h7.2
  have f1 := n_rX hx rfl h7.1
  have f2 := n_core_I hm (c := 0) (k := 59) rfl
  have f3 := n_core_I hm (c := 0) (k := 21) rfl
  obtain ⟨d, hd⟩ := Int.eq_ofNat_of_zero_le b7.1
  rw [hd] at f1 f2 b7
  unfold f_X11_run f_X12_run
  simp (disch := omega) only [iI_lit, n_lk hx (n_vI l1.1) l1.2, f3, n_bd, n_ib, n_ieq]
  by_cases c0 : 0 < vI m 0 21
  · rw [if_pos c0, if_neg (show ¬ vI m 0 21 = 0 by omega)]
    refine ⟨(n_rec (iI 0, iI 0) (n_rn (m.1 37)) d).1, ?_, ?_⟩
    · refine ok_eq.mp (ok_for d (fun j (z : Int32 × Int32 × Int32) => z = ((n_rec (iI 0, iI 0) (n_rn (m.1 37)) j).1, (n_rec (iI 0, iI 0) (n_rn (m.1 37)) j).2, iI j)) ?_ (by omega) (j := 0) rfl (Nat.zero_le _))
      rintro g j _ rfl hj hg
      show k_OK (k_if _ _ _) _
      rw [f1, n_ile (by omega) (by omega)]
      by_cases c3 : (d : Int) ≤ j
      · rw [if_pos c3, ok_some, show j = d by omega]
      · have h9 := h8 j (by show (j : Int) < vI m 0 59; omega)
        rw [if_neg c3, n_dy2 (by omega), n_bd, show k_rd σX 19 j = m.1 37 j from (n_core_1 hx rfl).trans h9.2.2.1.1, ok_jn, ok_if]
        refine ⟨fun c4 => ?_, fun c4 => ?_⟩
        · rw [ok_nm, ok_nm]
          exact hg _ (by omega) (by show _ = ((n_rn _ _ _).1, (n_rn _ _ _).2, _); unfold n_rn; rw [if_pos c4, iI_add]; rfl)
        · rw [ok_nm, ok_nm]
          exact hg _ (by omega) (by show _ = ((n_rn _ _ _).1, (n_rn _ _ _).2, _); unfold n_rn; rw [if_neg c4, iI_add]; rfl)
    · refine ok_eq.mp (ok_for d (fun j (z : Int32 × Int32 × Int32) => z = ((n_rec (iI 0, iI 0) (n_rn (m.1 37)) j).1, (n_rec (iI 0, iI 0) (n_rn (m.1 37)) j).2, iI j)) ?_ (by omega) (j := 0) rfl (Nat.zero_le _))
      rintro g j _ rfl hj hg
      show k_OK (k_if _ _ _) _
      rw [f2, n_ile (by omega) (by omega)]
      by_cases c3 : (d : Int) ≤ j
      · rw [if_pos c3, ok_some, show j = d by omega]
      · rw [if_neg c3, n_gix (by omega) (by omega), iI_cl (by omega), show ((j : Int)).toNat = j from rfl, show k_rd σM 37 j = m.1 37 j from n_core_1 hm rfl, ok_jn, ok_if]
        refine ⟨fun c4 => ?_, fun c4 => ?_⟩
        · rw [ok_nm, ok_nm]
          exact hg _ (by omega) (by show _ = ((n_rn _ _ _).1, (n_rn _ _ _).2, _); unfold n_rn; rw [if_pos c4, iI_add]; rfl)
        · rw [ok_nm, ok_nm]
          exact hg _ (by omega) (by show _ = ((n_rn _ _ _).1, (n_rn _ _ _).2, _); unfold n_rn; rw [if_neg c4, iI_add]; rfl)
  · rw [if_neg c0, if_pos (show vI m 0 21 = 0 by omega)]
    exact ⟨_, rfl, rfl⟩
