/-! the reference's WORTH of a place -/
theorem n_frM {σ σ' : k_St} {S : Nat → Prop} (h : n_Fr S σ σ') (hs : ∀ c, S c → ∀ k, m_scr c k = true) : m_c σ' = m_c σ := n_core_fr (fun c k hk => by
  have hc : ¬ S c := fun q => by
    rw [hs c q k] at hk
    exact absurd hk (by decide)
  rw [(h c hc).1, (h c hc).2]
  exact ⟨rfl, rfl⟩)
theorem n_worthOf {σ : k_St} {i : Nat} {L : Nat → Int} {v : Int} (hi : i < 5) (hL : ∀ j, j < 5 → σ.1 9 j = iI (L j) ∧ (-2147483648 ≤ L j ∧ L j ≤ 2147483647)) (h : rp_E σ i L = some v) : k_OK (f_X12_worthOf (iI i) σ) (fun r => r.1 = iI v ∧ (-2147483648 ≤ v ∧ v ≤ 2147483647) ∧ n_Fr (fun c => c = 10) σ r.2) := by
  unfold rp_E at h
  by_cases c5 : vI σ 5 i ≤ 90
  rotate_left
  · rw [if_neg c5] at h
    exact absurd h (by simp)
  rw [if_pos c5] at h
  have r5 := vI_rg σ 5 i
  unfold f_X12_worthOf
  simp only [iI_lit, iI_mul, n_nm]
  refine ok_for (vI σ 5 i).toNat (fun t (z : Int32 × k_St) => z.1 = iI ((90 * i + t : Nat) : Int) ∧ n_Fr (fun c => c = 10) σ z.2 ∧ rp_cls (vI σ 2) (vI σ 3) (vI σ 6) (vI σ 7) (vI σ 8) i L (90 * i + t) ((vI σ 5 i).toNat - t) = some v) ?_ (by omega) (j := 0) ⟨by show iI _ = iI _; congr 1, n_Fr.rf, h⟩ (by omega)
  rintro g t ⟨v2, s⟩ ⟨rfl, hF, hR⟩ ht hg
  have hF : n_Fr (fun c => c = 10) σ s := hF
  show k_OK (k_gd _ _) _
  have e5 : k_rd s 5 i = iI (vI σ 5 i) := by
    show s.1 5 _ = _
    rw [(hF 5 (by decide)).1]
    exact iI_of _
  simp (disch := omega) only [n_gix, iI_cl, Int.toNat_natCast, e5, iI_add, n_ile]
  by_cases c0 : 90 * (i : Int) + vI σ 5 i ≤ ((90 * i + t : Nat) : Int)
  · rw [if_pos c0, ok_some]
    rw [show (vI σ 5 i).toNat - t = 0 by omega] at hR
    have e : (0 : Int) = v := Option.some.inj hR
    subst e
    exact ⟨rfl, by omega, hF⟩
  rw [if_neg c0]
  have hk : 90 * i + t < 450 := by omega
  obtain ⟨u, hu⟩ : ∃ u, (vI σ 5 i).toNat - t = u + 1 := ⟨(vI σ 5 i).toNat - t - 1, by omega⟩
  rw [hu] at hR
  have hfr : ∀ (s' : k_St), n_Fr (fun c => c = 10) σ s' → (∀ k, k_rd s' 6 k = iI (vI σ 6 k) ∧ k_rd s' 7 k = iI (vI σ 7 k) ∧ k_rd s' 8 k = iI (vI σ 8 k)) ∧ vI s' 2 = vI σ 2 ∧ vI s' 3 = vI σ 3 ∧ ∀ j, j < 5 → s'.1 9 j = iI (L j) ∧ (-2147483648 ≤ L j ∧ L j ≤ 2147483647) := fun s' hG => by
    refine ⟨fun k => ⟨?_, ?_, ?_⟩, funext fun k => hG.i (by decide) k, funext fun k => hG.i (by decide) k, fun j hj => ?_⟩
    · show s'.1 6 k = _
      rw [(hG 6 (by decide)).1]
      exact iI_of _
    · show s'.1 7 k = _
      rw [(hG 7 (by decide)).1]
      exact iI_of _
    · show s'.1 8 k = _
      rw [(hG 8 (by decide)).1]
      exact iI_of _
    · rw [(hG 9 (by decide)).1]
      exact hL j hj
  have nx : ∀ s' : k_St, n_Fr (fun c => c = 10) σ s' → rp_cls (vI σ 2) (vI σ 3) (vI σ 6) (vI σ 7) (vI σ 8) i L (90 * i + t + 1) u = some v → k_OK (g (iI (((90 * i + t : Nat) : Int) + 1), s')) (fun r => r.1 = iI v ∧ (-2147483648 ≤ v ∧ v ≤ 2147483647) ∧ n_Fr (fun c => c = 10) σ r.2) := fun s' hG h1 => hg _ (by omega) ⟨by show iI _ = iI _; congr 1, hG, by
    rw [show (vI σ 5 i).toNat - (t + 1) = u by omega]
    exact h1⟩
  generalize hK : 90 * i + t = K at hR hk nx
  have w6 := vI_rg σ 6 K
  have w7 := vI_rg σ 7 K
  have w8 := vI_rg σ 8 K
  unfold rp_cls at hR
  by_cases c1 : 0 ≤ vI σ 6 K ∧ 0 ≤ vI σ 7 K ∧ vI σ 7 K ≤ 340 ∧ vI σ 8 K ≤ 340
  rotate_left
  · rw [if_neg c1] at hR
    exact absurd hR (by simp)
  rw [if_pos c1] at hR
  obtain ⟨A, hA⟩ := Int.eq_ofNat_of_zero_le c1.1
  obtain ⟨B, hB⟩ := Int.eq_ofNat_of_zero_le c1.2.1
  have c2 := c1.2.2
  -- the value
  have val : ∀ s' : k_St, n_Fr (fun c => c = 10) σ s' → rp_val (vI σ 2) (vI σ 3) L (340 * i + (vI σ 7 K).toNat) (340 * i + (vI σ 8 K).toNat) = some v → k_OK (k_b2 (f_X12_workOut (iI i) (iI (vI σ 7 K)) (iI (vI σ 8 K)) s') fun v69 s69 => some (v69, s69)) (fun r => r.1 = iI v ∧ (-2147483648 ≤ v ∧ v ≤ 2147483647) ∧ n_Fr (fun c => c = 10) σ r.2) := fun s' hG h1 => by
    obtain ⟨_, f2, f3, f4⟩ := hfr s' hG
    have c8 : 0 ≤ vI σ 8 K := by
      by_cases e : 0 ≤ vI σ 8 K
      · exact e
      · exfalso
        unfold rp_val at h1
        rw [show 340 * i + (vI σ 8 K).toNat - (340 * i + (vI σ 7 K).toNat) = 0 by omega] at h1
        exact absurd h1 (by simp [rp_run])
    obtain ⟨C, hC⟩ := Int.eq_ofNat_of_zero_le c8
    rw [hB, hC] at h1
    rw [hB, hC]
    rw [hC] at c2
    have := n_workOut (σ := s') (i := i) (a := B) (b := C) (L := L) (v := v) hi (by omega) f4 (by rw [f2, f3]; exact h1)
    rw [ok_b2]
    exact ok_mono this (fun r hr => ok_some.mpr ⟨hr.1, hr.2.1, hG.tr hr.2.2⟩)
  obtain ⟨f1, f2, f3, f4⟩ := hfr s hF
  simp (disch := omega) only [n_jn, (f1 K).1, (f1 K).2.1, n_ieq]
  by_cases c3 : vI σ 6 K = vI σ 7 K
  · rw [if_pos c3] at hR
    simp (disch := omega) only [if_pos c3, n_gix, (f1 K).2.2, n_jn, (f1 K).2.1]
    exact val s hF hR
  · rw [if_neg c3] at hR
    simp (disch := omega) only [if_neg c3, n_gix]
    cases hT : rp_val (vI σ 2) (vI σ 3) L (340 * i + (vI σ 6 K).toNat) (340 * i + (vI σ 7 K).toNat) with
    | none =>
      rw [hT] at hR
      exact absurd hR (by simp)
    | some q =>
      rw [hT] at hR
      have hR : (if q ≠ 0 then rp_val (vI σ 2) (vI σ 3) L (340 * i + (vI σ 7 K).toNat) (340 * i + (vI σ 8 K).toNat) else rp_cls (vI σ 2) (vI σ 3) (vI σ 6) (vI σ 7) (vI σ 8) i L (K + 1) u) = some v := hR
      rw [hA, hB] at hT
      have hc := c2.1
      rw [hB] at hc
      obtain ⟨⟨r, s'⟩, e1, hr, hq, hG⟩ := n_workOut (σ := s) (i := i) (a := A) (b := B) (L := L) (v := q) hi (by omega) f4 (by rw [f2, f3]; exact hT)
      have hr : r = iI q := hr
      have hG := hF.tr hG
      rw [hA, hB, e1, n_b2, hr, n_ieq (by omega) (by omega)]
      by_cases c4 : q = 0
      · rw [if_pos c4]
        rw [if_neg (fun z => z c4)] at hR
        exact nx s' hG hR
      · rw [if_neg c4]
        rw [if_pos c4] at hR
        obtain ⟨f1', _⟩ := hfr s' hG
        simp (disch := omega) only [n_gix, (f1' K).2.1, (f1' K).2.2]
        exact val s' hG hR
/-- the WORTH of a place -/
theorem n_worthAt {σ : k_St} {p : Nat} {v : Int} (hp : p < 6) (hl : vI (m_c σ) 0 30 = -1 ∨ 0 ≤ vI (m_c σ) 0 30 ∧ vI (m_c σ) 0 30 < 4) (h : m_V (m_c σ) p = some v) : ∃ σ', f_X12_worthAt (iI p) σ = some (iI v, σ') ∧ m_c σ' = m_c σ ∧ n_Fr (fun c => c = 9 ∨ c = 10) σ σ' := by
  have f30 : k_rd σ 0 30 = iI (vI (m_c σ) 0 30) := n_core_I rfl rfl
  unfold f_X12_worthAt
  have n13 : ∀ (s : k_St) (j : Nat), j < 4 → s.1 13 (4 * p + j) = iI (vI s 13 (4 * p + j)) := fun s j _ => iI_of _
  unfold m_V at h
  simp only [iI_lit, f30, iI_neg]
  rcases hl with hl | hl
  · rw [hl, n_ift rfl, show iI 3 = iI ((3 : Nat) : Int) from rfl, n_of hp (by decide), n_bd]
    rw [if_pos hl] at h
    have e := Option.some.inj h
    refine ⟨σ, ?_, rfl, n_Fr.rf⟩
    rw [← e]
    exact congrArg (fun z => some (z, σ)) (iI_of (σ.1 13 (4 * p + 3)))
  · obtain ⟨i, hi⟩ := Int.eq_ofNat_of_zero_le hl.1
    rw [hi] at hl
    rw [if_neg (by omega), hi] at h
    rw [hi, n_ieq (by omega) (by omega), if_neg (show ¬ (i : Int) = -1 by omega)]
    rw [show iI 3 = iI ((3 : Nat) : Int) from rfl, show iI 1 = iI ((1 : Nat) : Int) from rfl, show iI 2 = iI ((2 : Nat) : Int) from rfl, show iI 0 = iI ((0 : Nat) : Int) from rfl]
    simp (disch := omega) only [n_of, n_bd, n_nm]
    simp (disch := omega) only [n_gix, iI_cl]
    have h : (match rp_E (m_c σ) i (m_let (m_c σ) p) with
      | none => none
      | some v => some (max 0 (min 999 v))) = some v := h
    cases hE : rp_E (m_c σ) i (m_let (m_c σ) p) with
    | none =>
      rw [hE] at h
      exact absurd h (by simp)
    | some w =>
      rw [hE] at h
      have e : max 0 (min 999 w) = v := Option.some.inj h
      generalize hs : k_wr (k_wr (k_wr (k_wr (k_wr σ 9 _ _) 9 _ _) 9 _ _) 9 _ _) 9 _ _ = s
      have hF : n_Fr (fun c => c = 9 ∨ c = 10) σ s := by
        rw [← hs]
        exact ((((n_Fr.rf.wr (Or.inl rfl)).wr (Or.inl rfl)).wr (Or.inl rfl)).wr (Or.inl rfl)).wr (Or.inl rfl)
      have hm : m_c s = m_c σ := n_frM hF (fun c hc k => by
        rcases hc with rfl | rfl <;> rfl)
      have g30 : k_rd s 0 30 = iI (i : Int) := by
        rw [← hi, ← hm]
        exact n_core_I rfl rfl
      have hL : ∀ j, j < 5 → s.1 9 j = iI (m_let (m_c σ) p j) ∧ (-2147483648 ≤ m_let (m_c σ) p j ∧ m_let (m_c σ) p j ≤ 2147483647) := fun j hj => by
        rw [← hs]
        rcases (show j = 0 ∨ j = 1 ∨ j = 2 ∨ j = 3 ∨ j = 4 by omega) with rfl | rfl | rfl | rfl | rfl
        · exact ⟨n13 σ 3 (by decide), vI_rg _ _ _⟩
        · exact ⟨rfl, by show -2147483648 ≤ (p : Int) ∧ (p : Int) ≤ 2147483647; omega⟩
        · exact ⟨n13 σ 1 (by decide), vI_rg _ _ _⟩
        · exact ⟨n13 σ 2 (by decide), vI_rg _ _ _⟩
        · exact ⟨n13 σ 0 (by decide), vI_rg _ _ _⟩
      obtain ⟨⟨r, s'⟩, e1, hr, hq, hG⟩ := n_worthOf (σ := s) (i := i) (L := m_let (m_c σ) p) (v := w) (by omega) hL (by
        rw [← hE, ← hm]
        rfl)
      have hr : r = iI w := hr
      have hG : n_Fr (fun c => c = 10) s s' := hG
      rw [g30, e1, n_b2, hr, iI_min (by omega) hq, show iI ((0 : Nat) : Int) = iI 0 from rfl, iI_max (by omega) (by omega), e]
      have hFF := hF.tr (hG.mono (fun c hc => Or.inr hc))
      refine ⟨s', rfl, ?_, hFF⟩
      exact n_frM hFF (fun c hc k => by
        rcases hc with rfl | rfl <;> rfl)
