/-! what is counted over DAYS and SEEN -/
theorem n_rwc {σ : k_St} {c c' k k' : Nat} {x : Int32} (h : c' ≠ c) : k_rd (k_wr σ c k x) c' k' = k_rd σ c' k' := by
  show (k_wr σ c k x).1 c' k' = _
  rw [wr_c h]
  rfl
theorem n_rws {σ : k_St} {c k : Nat} {x : Int32} : k_rd (k_wr σ c k x) c k = x := wr_s
theorem n_rlw {σ : k_St} {c c' k k' : Nat} {x : Int32} : k_rl (k_wr σ c k x) c' k' = k_rl σ c' k' := rfl
theorem n_rwl {σ : k_St} {c c' k k' : Nat} {x : Int64} : k_rd (k_wl σ c k x) c' k' = k_rd σ c' k' := rfl
def n_rec {α : Type} (a : α) (f : Nat → α → α) : Nat → α
  | 0 => a
  | j + 1 => f j (n_rec a f j)
theorem n_rec_c {α : Type} {a : α} {f g : Nat → α → α} {n : Nat} (h : ∀ j, j < n → ∀ v, f j v = g j v) : n_rec a f n = n_rec a g n := by
  induction n with
  | zero => rfl
  | succ n ih =>
    show f n (n_rec a f n) = g n (n_rec a g n)
    rw [ih (fun j hj => h j (by omega)), h n (by omega)]
theorem q_s21 : g_s21 z_Inv := by
  intro σX σM hI a0 a1
  obtain ⟨a, ha, rfl⟩ := iI_ex a0
  obtain ⟨b, hb, rfl⟩ := iI_ex a1
  obtain ⟨x, m, hx, hm, hR⟩ := z_open hI
  obtain ⟨hTap, hLak, hNow, hImg, hShf, hSee, hLrn, hLaw, hVal⟩ := id hR
  obtain ⟨l1, l2, l3, l4, l5, l6⟩ := id hLak
  obtain ⟨s1, s2⟩ := id hSee
  have b1 := s1.2
  have f1 := n_rX hx rfl s1.1
  have f2 := n_core_I hm (c := 0) (k := 52) rfl
  unfold f_X11_see f_X12_see
  simp (disch := omega) only [iI_lit, n_isPX hx (n_vI l1.1) l1.2 ha, n_isPM hm rfl l1.2 ha, n_isPX hx (n_vI l1.1) l1.2 hb, n_isPM hm rfl l1.2 hb, n_bd, n_ib, n_nm, f1, f2, n_ilt, n_ieq, n_rwc, n_rws, iI_add]
  by_cases c1 : 0 ≤ a ∧ a ≤ vI m 0 21 - 1
  · rw [if_pos c1, if_pos c1]
    by_cases c2 : 0 ≤ b ∧ b ≤ vI m 0 21 - 1
    · rw [if_pos c2, if_pos c2]
      by_cases c3 : vI m 0 52 < 20
      · rw [if_pos c3, if_neg (show ¬ vI m 0 52 = 20 by omega)]
        obtain ⟨j, hj⟩ := Int.eq_ofNat_of_zero_le b1.1
        rw [hj] at c3 b1 ⊢
        simp (disch := omega) only [n_gix, iI_cl]
        refine ⟨_, _, _, rfl, rfl, z_close (n_cw (n_cw (n_cw hx rfl) rfl) rfl) (n_cw (n_cw (n_cw hm rfl) rfl) rfl) ⟨hTap, hLak, hNow, hImg, hShf, ⟨⟨rfl, ?_⟩, fun i hi => ?_⟩, hLrn, hLaw, hVal⟩⟩
        · show 0 ≤ (iI ((j : Int) + 1)).toInt ∧ (iI ((j : Int) + 1)).toInt ≤ 20
          rw [iI_to (by omega)]
          omega
        · have hi : (i : Int) < (iI ((j : Int) + 1)).toInt := hi
          rw [iI_to (by omega)] at hi
          show ((k_wr x 48 j (iI a)).1 48 i = (k_wr m 33 j (iI a)).1 33 i ∧ 0 ≤ ((k_wr m 33 j (iI a)).1 33 i).toInt ∧ ((k_wr m 33 j (iI a)).1 33 i).toInt < vI m 0 21) ∧ ((k_wr x 49 j (iI b)).1 49 i = (k_wr m 34 j (iI b)).1 34 i ∧ 0 ≤ ((k_wr m 34 j (iI b)).1 34 i).toInt ∧ ((k_wr m 34 j (iI b)).1 34 i).toInt < vI m 0 21)
          by_cases e : i = j
          · subst e
            rw [wr_s, wr_s, wr_s, wr_s, iI_to ha, iI_to hb]
            exact ⟨⟨rfl, by omega⟩, ⟨rfl, by omega⟩⟩
          · rw [wr_k e, wr_k e, wr_k e, wr_k e]
            exact s2 i (by omega)
      · rw [if_neg c3, if_pos (show vI m 0 52 = 20 by omega)]
        exact ⟨_, _, _, rfl, rfl, hI⟩
    · rw [if_neg c2, if_neg c2]
      exact ⟨_, _, _, rfl, rfl, hI⟩
  · rw [if_neg c1, if_neg c1]
    exact ⟨_, _, _, rfl, rfl, hI⟩
theorem q_s41 : g_s41 z_Inv := by
  intro σX σM hI a0 a1
  obtain ⟨a, ha, rfl⟩ := iI_ex a0
  obtain ⟨b, hb, rfl⟩ := iI_ex a1
  obtain ⟨x, m, hx, hm, hR⟩ := z_open hI
  obtain ⟨hTap, hLak, hNow, hImg, hShf, hSee, hLrn, hLaw, hVal⟩ := id hR
  obtain ⟨l1, l2, l3, l4, l5, l6⟩ := id hLak
  obtain ⟨h1, h2, h3, h4, h5, h6, h7, h8⟩ := id hNow
  have b7 : 0 ≤ vI m 0 59 ∧ vI m 0 59 ≤ 40 := h7.2
  have f1 := n_rX hx rfl h7.1
  have f2 := n_core_I hm (c := 0) (k := 59) rfl
  obtain ⟨d, hd⟩ := Int.eq_ofNat_of_zero_le b7.1
  rw [hd] at f1 f2 b7
  unfold f_X11_hoard f_X12_hoard
  simp (disch := omega) only [n_isPX hx (n_vI l1.1) l1.2 ha, n_isPM hm rfl l1.2 ha, n_bd]
  simp (disch := omega) only [iI_lit, n_in, n_within, n_bd, n_ib]
  by_cases c1 : 0 ≤ a ∧ a ≤ vI m 0 21 - 1
  · rw [if_pos c1, if_pos c1]
    by_cases c2 : 0 ≤ b ∧ b ≤ 1
    · rw [if_pos c2, if_pos c2]
      refine ⟨n_rec (iI 0) (fun j v => if m.1 35 j = iI a then (if b = 0 then v + m.1 37 j else v + iI 1) else v) d, ?_, ?_⟩
      · refine ok_eq.mp (ok_for d (fun j (z : Int32 × Int32) => z = (n_rec (iI 0) (fun j v => if m.1 35 j = iI a then (if b = 0 then v + m.1 37 j else v + iI 1) else v) j, iI j)) ?_ (by omega) (j := 0) rfl (Nat.zero_le _))
        rintro g j _ rfl hj hg
        show k_OK (k_if _ _ _) _
        rw [f1, n_ile (by omega) (by omega)]
        by_cases c3 : (d : Int) ≤ j
        · rw [if_pos c3, ok_some, show j = d by omega]
        · have h9 := h8 j (by show (j : Int) < vI m 0 59; omega)
          rw [if_neg c3, n_dy0 (by omega), n_dy2 (by omega), n_bd, n_bd, show k_rd σX 17 j = m.1 35 j from (n_core_1 hx rfl).trans h9.1.1, show k_rd σX 19 j = m.1 37 j from (n_core_1 hx rfl).trans h9.2.2.1.1, ok_if]
          refine ⟨fun c4 => ?_, fun c4 => ?_⟩
          · rw [n_ieq (by omega) (by omega)]
            by_cases c5 : b = 0
            · rw [if_pos c5, ok_nm, ok_nm]
              exact hg _ (by omega) (by show _ = ((if m.1 35 j = iI a then (if b = 0 then _ else _) else _), _); rw [if_pos c4, if_pos c5, iI_add]; rfl)
            · rw [if_neg c5, ok_nm, ok_nm]
              exact hg _ (by omega) (by show _ = ((if m.1 35 j = iI a then (if b = 0 then _ else _) else _), _); rw [if_pos c4, if_neg c5, iI_add]; rfl)
          · rw [ok_nm]
            exact hg _ (by omega) (by show _ = ((if m.1 35 j = iI a then (if b = 0 then _ else _) else _), _); rw [if_neg c4, iI_add]; rfl)
      · refine ok_eq.mp (ok_for d (fun j (z : Int32 × Int32) => z = (n_rec (iI 0) (fun j v => if m.1 35 j = iI a then (if b = 0 then v + m.1 37 j else v + iI 1) else v) j, iI j)) ?_ (by omega) (j := 0) rfl (Nat.zero_le _))
        rintro g j _ rfl hj hg
        show k_OK (k_if _ _ _) _
        rw [f2, n_ile (by omega) (by omega)]
        by_cases c3 : (d : Int) ≤ j
        · rw [if_pos c3, ok_some, show j = d by omega]
        · rw [if_neg c3, n_gix (by omega) (by omega), n_gix (by omega) (by omega), iI_cl (by omega), show ((j : Int)).toNat = j from rfl, show k_rd σM 35 j = m.1 35 j from n_core_1 hm rfl, show k_rd σM 37 j = m.1 37 j from n_core_1 hm rfl, ok_if]
          refine ⟨fun c4 => ?_, fun c4 => ?_⟩
          · rw [n_ieq (by omega) (by omega)]
            by_cases c5 : b = 0
            · rw [if_pos c5, ok_nm, ok_nm]
              exact hg _ (by omega) (by show _ = ((if m.1 35 j = iI a then (if b = 0 then _ else _) else _), _); rw [if_pos c4, if_pos c5, iI_add]; rfl)
            · rw [if_neg c5, ok_nm, ok_nm]
              exact hg _ (by omega) (by show _ = ((if m.1 35 j = iI a then (if b = 0 then _ else _) else _), _); rw [if_pos c4, if_neg c5, iI_add]; rfl)
          · rw [ok_nm, ok_nm]
            exact hg _ (by omega) (by show _ = ((if m.1 35 j = iI a then (if b = 0 then _ else _) else _), _); rw [if_neg c4, iI_add, show iI 0 = (0 : Int32) from rfl, Int32.add_zero]; rfl)
    · rw [if_neg c2, if_neg c2]
      exact ⟨_, rfl, rfl⟩
  · rw [if_neg c1, if_neg c1]
    exact ⟨_, rfl, rfl⟩
theorem n_caX {σ x m : k_St} (hx : x_c σ = x) (hNow : r_now x m) : f_X11_caughtInAll σ = some (n_rec (iI 0) (fun j v => v + m.1 37 j) (vI m 0 59).toNat) := by
  obtain ⟨h1, h2, h3, h4, h5, h6, h7, h8⟩ := id hNow
  have b7 : 0 ≤ vI m 0 59 ∧ vI m 0 59 ≤ 40 := h7.2
  have f1 := n_rX hx rfl h7.1
  obtain ⟨d, hd⟩ := Int.eq_ofNat_of_zero_le b7.1
  rw [hd] at f1 b7 ⊢
  unfold f_X11_caughtInAll
  simp only [iI_lit]
  refine ok_eq.mp (ok_for d (fun j (z : Int32 × Int32) => z = (n_rec (iI 0) (fun j v => v + m.1 37 j) j, iI j)) ?_ (by omega) (j := 0) rfl (Nat.zero_le _))
  rintro g j _ rfl hj hg
  show k_OK (k_if _ _ _) _
  rw [f1, n_ile (by omega) (by omega)]
  by_cases c3 : (d : Int) ≤ j
  · rw [if_pos c3, ok_some, show j = d by omega]; rfl
  · have h9 := h8 j (by show (j : Int) < vI m 0 59; omega)
    rw [if_neg c3, n_dy2 (by omega), n_bd, show k_rd σ 19 j = m.1 37 j from (n_core_1 hx rfl).trans h9.2.2.1.1, ok_nm, ok_nm]
    exact hg _ (by omega) (by rw [iI_add]; rfl)
theorem n_caM {σ m : k_St} (hm : m_c σ = m) (b7 : 0 ≤ vI m 0 59 ∧ vI m 0 59 ≤ 40) : f_X12_caughtInAll σ = some (n_rec (iI 0) (fun j v => v + m.1 37 j) (vI m 0 59).toNat) := by
  have f1 := n_core_I hm (c := 0) (k := 59) rfl
  obtain ⟨d, hd⟩ := Int.eq_ofNat_of_zero_le b7.1
  rw [hd] at f1 b7 ⊢
  unfold f_X12_caughtInAll
  simp only [iI_lit]
  refine ok_eq.mp (ok_for d (fun j (z : Int32 × Int32) => z = (n_rec (iI 0) (fun j v => v + m.1 37 j) j, iI j)) ?_ (by omega) (j := 0) rfl (Nat.zero_le _))
  rintro g j _ rfl hj hg
  show k_OK (k_if _ _ _) _
  rw [f1, n_ile (by omega) (by omega)]
  by_cases c3 : (d : Int) ≤ j
  · rw [if_pos c3, ok_some, show j = d by omega]; rfl
  · rw [if_neg c3, n_gix (by omega) (by omega), iI_cl (by omega), show ((j : Int)).toNat = j from rfl, show k_rd σ 37 j = m.1 37 j from n_core_1 hm rfl, ok_nm, ok_nm]
    exact hg _ (by omega) (by rw [iI_add]; rfl)
