def i_Simage (c : Nat) : Bool := match c with
  | 41 => true
  | 42 => true
  | 43 => true
  | 44 => true
  | 45 => true
  | 46 => true
  | _ => false
def i_Aimage (σ : k_St) (n1 n2 n3 n4 : Nat) (s : k_St) : Prop := n_Fr (fun c => i_Simage c = true) σ s ∧ (∀ t, t < n1 → s.1 41 t = σ.1 14 t) ∧ (∀ t, t < n2 → s.1 42 t = σ.1 15 t) ∧ (∀ t, t < n3 → s.1 43 (3 * t) = σ.1 35 t ∧ s.1 43 (3 * t + 1) = σ.1 36 t ∧ s.1 43 (3 * t + 2) = σ.1 37 t ∧ s.2 45 t = σ.2 38 t ∧ s.1 46 t = σ.1 40 t) ∧ ∀ t, t < n4 → s.1 44 t = σ.1 39 t
set_option maxRecDepth 20000 in
theorem n_image {σ : k_St} (h0 : ¬ σ.1 0 21 = 0) (b1 : σ.1 0 26 = 0 ∨ σ.1 0 26 = 1) (b2 : σ.1 0 27 = 0 ∨ σ.1 0 27 = 1) : k_OK (f_X12_image σ) (fun r => ∃ s, i_Aimage σ 4 16 40 640 s ∧ r = (σ.1 0 59, k_wr (k_wl (k_wr (k_wr (k_wr (k_wr s 0 68 (σ.1 0 26)) 0 69 (σ.1 0 27)) 0 71 (σ.1 0 59)) 0 67 (σ.1 0 23)) 0 72 (σ.2 0 60)) 0 70 1)) := by
  unfold f_X12_image
  rw [ok_if]
  refine ⟨fun c => absurd c h0, fun _ => ?_⟩
  simp only [iI_lit]
  refine ok_for 4 (fun j (z : Int32 × k_St) => z.1 = iI j ∧ i_Aimage σ j 0 0 0 z.2) ?_ (by omega) (j := 0) ⟨rfl, n_Fr.rf, fun t h => absurd h (by omega), fun t h => absurd h (by omega), fun t h => absurd h (by omega), fun t h => absurd h (by omega)⟩ (Nat.zero_le _)
  rintro ga j ⟨v, s⟩ ⟨rfl, hA⟩ hj hg
  show k_OK (k_if _ _ _) _
  rw [n_ile (by omega) (by omega)]
  by_cases c1 : (4 : Int) ≤ j
  rotate_left
  · obtain ⟨hF, a1, a2, a3, a4⟩ := id hA
    rw [if_neg c1, n_gix (by omega) (by omega), n_gix (by omega) (by omega), iI_cl (by omega), show ((j : Int)).toNat = j from rfl, ok_nm, ok_nm]
    refine hg _ (by omega) ⟨by rw [iI_add]; rfl, hF.wr (by decide), fun t ht => ?_, a2, a3, a4⟩
    show (k_wr s 41 j (s.1 14 j)).1 41 t = σ.1 14 t
    by_cases e : t = j
    · subst e
      rw [wr_s, (hF 14 (by decide)).1]
    · rw [wr_k e]
      exact a1 t (by omega)
  · rw [if_pos c1]
    have e4 : j = 4 := by omega
    subst e4
    clear hg
    refine ok_for 16 (fun j (z : Int32 × k_St) => z.1 = iI j ∧ i_Aimage σ 4 j 0 0 z.2) ?_ (by omega) (j := 0) ⟨rfl, hA⟩ (Nat.zero_le _)
    clear hA
    rintro gb j ⟨v, s⟩ ⟨rfl, hA⟩ hj hg
    show k_OK (k_if _ _ _) _
    rw [n_ile (by omega) (by omega)]
    by_cases c1 : (16 : Int) ≤ j
    rotate_left
    · obtain ⟨hF, a1, a2, a3, a4⟩ := id hA
      rw [if_neg c1, n_gix (by omega) (by omega), n_gix (by omega) (by omega), iI_cl (by omega), show ((j : Int)).toNat = j from rfl, ok_nm, ok_nm]
      refine hg _ (by omega) ⟨by rw [iI_add]; rfl, hF.wr (by decide), a1, fun t ht => ?_, a3, a4⟩
      show (k_wr s 42 j (s.1 15 j)).1 42 t = σ.1 15 t
      by_cases e : t = j
      · subst e
        rw [wr_s, (hF 15 (by decide)).1]
      · rw [wr_k e]
        exact a2 t (by omega)
    · rw [if_pos c1]
      have e4 : j = 16 := by omega
      subst e4
      clear hg
      refine ok_for 40 (fun j (z : Int32 × k_St) => z.1 = iI j ∧ i_Aimage σ 4 16 j 0 z.2) ?_ (by omega) (j := 0) ⟨rfl, hA⟩ (Nat.zero_le _)
      clear hA
      rintro gc j ⟨v, s⟩ ⟨rfl, hA⟩ hj hg
      show k_OK (k_if _ _ _) _
      rw [n_ile (by omega) (by omega)]
      by_cases c1 : (40 : Int) ≤ j
      rotate_left
      · obtain ⟨hF, a1, a2, a3, a4⟩ := id hA
        rw [if_neg c1]
        simp (disch := omega) only [iI_mul, iI_add, n_gix, iI_cl, ok_nm]
        rw [show ((j : Int)).toNat = j from rfl, show (3 * (j : Int)).toNat = 3 * j by omega, show (3 * (j : Int) + 1).toNat = 3 * j + 1 by omega, show (3 * (j : Int) + 2).toNat = 3 * j + 2 by omega]
        refine hg _ (by omega) ⟨rfl, ((((hF.wr (by decide)).wr (by decide)).wr (by decide)).wl (by decide)).wr (by decide), a1, a2, fun t ht => ?_, a4⟩
        show (k_wr (k_wr (k_wr s 43 (3 * j) (s.1 35 j)) 43 (3 * j + 1) (s.1 36 j)) 43 (3 * j + 2) (s.1 37 j)).1 43 (3 * t) = σ.1 35 t ∧ (k_wr (k_wr (k_wr s 43 (3 * j) (s.1 35 j)) 43 (3 * j + 1) (s.1 36 j)) 43 (3 * j + 2) (s.1 37 j)).1 43 (3 * t + 1) = σ.1 36 t ∧ (k_wr (k_wr (k_wr s 43 (3 * j) (s.1 35 j)) 43 (3 * j + 1) (s.1 36 j)) 43 (3 * j + 2) (s.1 37 j)).1 43 (3 * t + 2) = σ.1 37 t ∧ (k_wl s 45 j (s.2 38 j)).2 45 t = σ.2 38 t ∧ (k_wr s 46 j (s.1 40 j)).1 46 t = σ.1 40 t
        by_cases e : t = j
        · subst e
          have q35 : s.1 35 t = σ.1 35 t := by rw [(hF 35 (by decide)).1]
          have q36 : s.1 36 t = σ.1 36 t := by rw [(hF 36 (by decide)).1]
          have q37 : s.1 37 t = σ.1 37 t := by rw [(hF 37 (by decide)).1]
          have q38 : s.2 38 t = σ.2 38 t := by rw [(hF 38 (by decide)).2]
          have q40 : s.1 40 t = σ.1 40 t := by rw [(hF 40 (by decide)).1]
          exact ⟨(wr_k (by omega)).trans ((wr_k (by omega)).trans (wr_s.trans q35)), (wr_k (by omega)).trans (wr_s.trans q36), wr_s.trans q37, wl_s.trans q38, wr_s.trans q40⟩
        · obtain ⟨u1, u2, u3, u4, u5⟩ := a3 t (by omega)
          exact ⟨(wr_k (by omega)).trans ((wr_k (by omega)).trans ((wr_k (by omega)).trans u1)), (wr_k (by omega)).trans ((wr_k (by omega)).trans ((wr_k (by omega)).trans u2)), (wr_k (by omega)).trans ((wr_k (by omega)).trans ((wr_k (by omega)).trans u3)), (wl_k e).trans u4, (wr_k e).trans u5⟩
      · rw [if_pos c1]
        have e4 : j = 40 := by omega
        subst e4
        clear hg
        refine ok_for 640 (fun j (z : Int32 × k_St) => z.1 = iI j ∧ i_Aimage σ 4 16 40 j z.2) ?_ (by omega) (j := 0) ⟨rfl, hA⟩ (Nat.zero_le _)
        clear hA
        rintro gd j ⟨v, s⟩ ⟨rfl, hA⟩ hj hg
        show k_OK (k_if _ _ _) _
        rw [n_ile (by omega) (by omega)]
        by_cases c1 : (640 : Int) ≤ j
        rotate_left
        · obtain ⟨hF, a1, a2, a3, a4⟩ := id hA
          rw [if_neg c1, n_gix (by omega) (by omega), n_gix (by omega) (by omega), iI_cl (by omega), show ((j : Int)).toNat = j from rfl, ok_nm, ok_nm]
          refine hg _ (by omega) ⟨by rw [iI_add]; rfl, hF.wr (by decide), a1, a2, a3, fun t ht => ?_⟩
          show (k_wr s 44 j (s.1 39 j)).1 44 t = σ.1 39 t
          by_cases e : t = j
          · subst e
            rw [wr_s, (hF 39 (by decide)).1]
          · rw [wr_k e]
            exact a4 t (by omega)
        · rw [if_pos c1]
          have e4 : j = 640 := by omega
          subst e4
          have hF := hA.1
          have z0 := (hF 0 (by decide)).1
          have z2 := (hF 0 (by decide)).2
          have l1 : ∀ (s : k_St) (b c d : Nat) (v : Int32), b ≠ d → k_rd (k_wr s c b v) c d = k_rd s c d := fun s b c d v h => wr_k (fun q => h q.symm)
          have l2 : ∀ k, k_rd s 0 k = σ.1 0 k := fun k => by show s.1 0 k = _; rw [z0]
          have l3 : ∀ k, k_rl s 0 k = σ.2 0 k := fun k => by show s.2 0 k = _; rw [z2]
          simp (disch := omega) only [n_nm, l1, n_rwl, n_rlw, n_rws, l2, l3]
          rw [n_gdt (n_isB2 b1), n_gdt (n_isB2 b2), ok_some]
          exact ⟨s, hA, rfl⟩
def i_Sback (c : Nat) : Bool := match c with
  | 14 => true
  | 15 => true
  | 35 => true
  | 36 => true
  | 37 => true
  | 38 => true
  | 39 => true
  | 40 => true
  | _ => false
def i_Aback (σ : k_St) (n1 n2 n3 n4 : Nat) (s : k_St) : Prop := n_Fr (fun c => i_Sback c = true) σ s ∧ (∀ t, t < n1 → s.1 14 t = σ.1 41 t) ∧ (∀ t, t < n2 → s.1 15 t = σ.1 42 t) ∧ (∀ t, t < n3 → s.1 35 t = σ.1 43 (3 * t) ∧ s.1 36 t = σ.1 43 (3 * t + 1) ∧ s.1 37 t = σ.1 43 (3 * t + 2) ∧ s.2 38 t = σ.2 45 t ∧ s.1 40 t = σ.1 46 t) ∧ ∀ t, t < n4 → s.1 39 t = σ.1 44 t
set_option maxRecDepth 20000 in
theorem n_back {σ : k_St} (h0 : ¬ σ.1 0 70 = 0) (b1 : σ.1 0 68 = 0 ∨ σ.1 0 68 = 1) (b2 : σ.1 0 69 = 0 ∨ σ.1 0 69 = 1) : k_OK (f_X12_back σ) (fun r => ∃ s, i_Aback σ 4 16 40 640 s ∧ r = (σ.1 0 71, k_wl (k_wr (k_wr (k_wr (k_wr s 0 26 (σ.1 0 68)) 0 27 (σ.1 0 69)) 0 59 (σ.1 0 71)) 0 23 (σ.1 0 67)) 0 60 (σ.2 0 72))) := by
  unfold f_X12_back
  rw [ok_if]
  refine ⟨fun c => absurd c h0, fun _ => ?_⟩
  simp only [iI_lit]
  refine ok_for 4 (fun j (z : Int32 × k_St) => z.1 = iI j ∧ i_Aback σ j 0 0 0 z.2) ?_ (by omega) (j := 0) ⟨rfl, n_Fr.rf, fun t h => absurd h (by omega), fun t h => absurd h (by omega), fun t h => absurd h (by omega), fun t h => absurd h (by omega)⟩ (Nat.zero_le _)
  rintro ga j ⟨v, s⟩ ⟨rfl, hA⟩ hj hg
  show k_OK (k_if _ _ _) _
  rw [n_ile (by omega) (by omega)]
  by_cases c1 : (4 : Int) ≤ j
  rotate_left
  · obtain ⟨hF, a1, a2, a3, a4⟩ := id hA
    rw [if_neg c1, n_gix (by omega) (by omega), n_gix (by omega) (by omega), iI_cl (by omega), show ((j : Int)).toNat = j from rfl, ok_nm, ok_nm]
    refine hg _ (by omega) ⟨by rw [iI_add]; rfl, hF.wr (by decide), fun t ht => ?_, a2, a3, a4⟩
    show (k_wr s 14 j (s.1 41 j)).1 14 t = σ.1 41 t
    by_cases e : t = j
    · subst e
      rw [wr_s, (hF 41 (by decide)).1]
    · rw [wr_k e]
      exact a1 t (by omega)
  · rw [if_pos c1]
    have e4 : j = 4 := by omega
    subst e4
    clear hg
    refine ok_for 16 (fun j (z : Int32 × k_St) => z.1 = iI j ∧ i_Aback σ 4 j 0 0 z.2) ?_ (by omega) (j := 0) ⟨rfl, hA⟩ (Nat.zero_le _)
    clear hA
    rintro gb j ⟨v, s⟩ ⟨rfl, hA⟩ hj hg
    show k_OK (k_if _ _ _) _
    rw [n_ile (by omega) (by omega)]
    by_cases c1 : (16 : Int) ≤ j
    rotate_left
    · obtain ⟨hF, a1, a2, a3, a4⟩ := id hA
      rw [if_neg c1, n_gix (by omega) (by omega), n_gix (by omega) (by omega), iI_cl (by omega), show ((j : Int)).toNat = j from rfl, ok_nm, ok_nm]
      refine hg _ (by omega) ⟨by rw [iI_add]; rfl, hF.wr (by decide), a1, fun t ht => ?_, a3, a4⟩
      show (k_wr s 15 j (s.1 42 j)).1 15 t = σ.1 42 t
      by_cases e : t = j
      · subst e
        rw [wr_s, (hF 42 (by decide)).1]
      · rw [wr_k e]
        exact a2 t (by omega)
    · rw [if_pos c1]
      have e4 : j = 16 := by omega
      subst e4
      clear hg
      refine ok_for 40 (fun j (z : Int32 × k_St) => z.1 = iI j ∧ i_Aback σ 4 16 j 0 z.2) ?_ (by omega) (j := 0) ⟨rfl, hA⟩ (Nat.zero_le _)
      clear hA
      rintro gc j ⟨v, s⟩ ⟨rfl, hA⟩ hj hg
      show k_OK (k_if _ _ _) _
      rw [n_ile (by omega) (by omega)]
      by_cases c1 : (40 : Int) ≤ j
      rotate_left
      · obtain ⟨hF, a1, a2, a3, a4⟩ := id hA
        rw [if_neg c1]
        simp (disch := omega) only [iI_mul, iI_add, n_gix, iI_cl, ok_nm]
        rw [show ((j : Int)).toNat = j from rfl, show (3 * (j : Int)).toNat = 3 * j by omega, show (3 * (j : Int) + 1).toNat = 3 * j + 1 by omega, show (3 * (j : Int) + 2).toNat = 3 * j + 2 by omega]
        refine hg _ (by omega) ⟨rfl, ((((hF.wr (by decide)).wr (by decide)).wr (by decide)).wl (by decide)).wr (by decide), a1, a2, fun t ht => ?_, a4⟩
        show (k_wr s 35 j (s.1 43 (3 * j))).1 35 t = σ.1 43 (3 * t) ∧ (k_wr s 36 j (s.1 43 (3 * j + 1))).1 36 t = σ.1 43 (3 * t + 1) ∧ (k_wr s 37 j (s.1 43 (3 * j + 2))).1 37 t = σ.1 43 (3 * t + 2) ∧ (k_wl s 38 j (s.2 45 j)).2 38 t = σ.2 45 t ∧ (k_wr s 40 j (s.1 46 j)).1 40 t = σ.1 46 t
        by_cases e : t = j
        · subst e
          have q43 : ∀ k, s.1 43 k = σ.1 43 k := fun k => by rw [(hF 43 (by decide)).1]
          have q45 : s.2 45 t = σ.2 45 t := by rw [(hF 45 (by decide)).2]
          have q46 : s.1 46 t = σ.1 46 t := by rw [(hF 46 (by decide)).1]
          exact ⟨wr_s.trans (q43 _), wr_s.trans (q43 _), wr_s.trans (q43 _), wl_s.trans q45, wr_s.trans q46⟩
        · obtain ⟨u1, u2, u3, u4, u5⟩ := a3 t (by omega)
          exact ⟨(wr_k e).trans u1, (wr_k e).trans u2, (wr_k e).trans u3, (wl_k e).trans u4, (wr_k e).trans u5⟩
      · rw [if_pos c1]
        have e4 : j = 40 := by omega
        subst e4
        clear hg
        refine ok_for 640 (fun j (z : Int32 × k_St) => z.1 = iI j ∧ i_Aback σ 4 16 40 j z.2) ?_ (by omega) (j := 0) ⟨rfl, hA⟩ (Nat.zero_le _)
        clear hA
        rintro gd j ⟨v, s⟩ ⟨rfl, hA⟩ hj hg
        show k_OK (k_if _ _ _) _
        rw [n_ile (by omega) (by omega)]
        by_cases c1 : (640 : Int) ≤ j
        rotate_left
        · obtain ⟨hF, a1, a2, a3, a4⟩ := id hA
          rw [if_neg c1, n_gix (by omega) (by omega), n_gix (by omega) (by omega), iI_cl (by omega), show ((j : Int)).toNat = j from rfl, ok_nm, ok_nm]
          refine hg _ (by omega) ⟨by rw [iI_add]; rfl, hF.wr (by decide), a1, a2, a3, fun t ht => ?_⟩
          show (k_wr s 39 j (s.1 44 j)).1 39 t = σ.1 44 t
          by_cases e : t = j
          · subst e
            rw [wr_s, (hF 44 (by decide)).1]
          · rw [wr_k e]
            exact a4 t (by omega)
        · rw [if_pos c1]
          have e4 : j = 640 := by omega
          subst e4
          have hF := hA.1
          have z0 := (hF 0 (by decide)).1
          have z2 := (hF 0 (by decide)).2
          have l1 : ∀ (s : k_St) (b c d : Nat) (v : Int32), b ≠ d → k_rd (k_wr s c b v) c d = k_rd s c d := fun s b c d v h => wr_k (fun q => h q.symm)
          have l2 : ∀ k, k_rd s 0 k = σ.1 0 k := fun k => by show s.1 0 k = _; rw [z0]
          have l3 : ∀ k, k_rl s 0 k = σ.2 0 k := fun k => by show s.2 0 k = _; rw [z2]
          simp (disch := omega) only [n_nm, l1, n_rwl, n_rlw, n_rws, l2, l3]
          rw [n_gdt (n_isB2 b1), n_gdt (n_isB2 b2), ok_some]
          exact ⟨s, hA, rfl⟩
