/-! rows of digits, read and written -/
theorem n_bc {p q : Prop} [Decidable p] [Decidable q] (h : p ↔ q) : iB p = iB q := by
  by_cases c : p
  · rw [n_bt c, n_bt (h.mp c)]
  · rw [n_bf c, n_bf (fun z => c (h.mpr z))]
theorem iI_div2 {a b : Int} (ha : -2147483648 ≤ a ∧ a ≤ 2147483647) (hb : -2147483648 ≤ b ∧ b ≤ 2147483647) : iI a / iI b = iI (a.tdiv b) := by
  have h1 : (Int32.minValue).toInt = -2147483648 := rfl
  have h2 : (Int32.maxValue).toInt = 2147483647 := rfl
  exact (Int32.ofInt_tdiv (by omega) (by omega) (by omega) (by omega)).symm
theorem iI_rem2 {a b : Int} (ha : -2147483648 ≤ a ∧ a ≤ 2147483647) (hb : -2147483648 ≤ b ∧ b ≤ 2147483647) : o_rem (iI a) (iI b) = iI (a.tmod b) := by
  unfold o_rem
  rw [iI_div2 ha hb, iI_mul, iI_sub]
  congr 1
  have := Int.mul_tdiv_add_tmod a b
  rw [Int.mul_comm] at this
  omega
def n_dv (z : Int) : Nat → Int
  | 0 => z
  | t + 1 => n_dv z t / 10
theorem n_dv_r {z : Int} (h : 0 ≤ z ∧ z ≤ 9999) : ∀ t, 0 ≤ n_dv z t ∧ n_dv z t ≤ 9999
  | 0 => h
  | t + 1 => by
    have := n_dv_r h t
    show 0 ≤ n_dv z t / 10 ∧ n_dv z t / 10 ≤ 9999
    omega
theorem n_dv_d {z : Int} {s : Nat} (hs : s < 4) : n_dv z (3 - s) % 10 = n_d4 z s := by
  rcases (show s = 0 ∨ s = 1 ∨ s = 2 ∨ s = 3 by omega) with rfl | rfl | rfl | rfl
  · show z / 10 / 10 / 10 % 10 = z / 1000 % 10
    omega
  · show z / 10 / 10 % 10 = z / 100 % 10
    omega
  · rfl
  · rfl
/-- the last t digits of z are drawn below k -/
def n_okb (z k : Int) (t : Nat) : Bool := decide (0 ≤ z) && (decide (z ≤ 9999) && (List.range 4).all (fun s => decide (s < 4 - t) || decide (n_d4 z s < k)))
abbrev n_okd (z k : Int) (t : Nat) : Prop := n_okb z k t = true
theorem n_okd_i {z k : Int} {t : Nat} : n_okd z k t ↔ (0 ≤ z ∧ z ≤ 9999) ∧ ∀ s : Nat, s < 4 → 4 - t ≤ s → n_d4 z s < k := by
  show n_okb z k t = true ↔ _
  unfold n_okb
  rw [Bool.and_eq_true, Bool.and_eq_true, List.all_eq_true, decide_eq_true_iff, decide_eq_true_iff, and_assoc]
  refine and_congr_right (fun _ => and_congr_right (fun _ => ?_))
  constructor
  · intro h s hs h2
    have := h s (List.mem_range.mpr hs)
    rw [Bool.or_eq_true, decide_eq_true_iff, decide_eq_true_iff] at this
    omega
  · intro h s hs
    rw [Bool.or_eq_true, decide_eq_true_iff, decide_eq_true_iff]
    have hs := List.mem_range.mp hs
    by_cases c : s < 4 - t
    · exact Or.inl c
    · exact Or.inr (h s hs (by omega))
theorem n_okd4 {z k : Int} : n_okd z k 4 ↔ 0 ≤ z ∧ z ≤ 9999 ∧ ∀ s : Nat, s < 4 → n_d4 z s < k := by
  rw [n_okd_i]
  exact ⟨fun h => ⟨h.1.1, h.1.2, fun s hs => h.2 s hs (by omega)⟩, fun h => ⟨⟨h.1, h.2.1⟩, fun s hs _ => h.2.2 s hs⟩⟩
theorem n_td {w : Int} (h : 0 ≤ w) : w.tdiv 10 = w / 10 := Int.tdiv_eq_ediv_of_nonneg h
theorem n_tm {w : Int} (h : 0 ≤ w) : w.tmod 10 = w % 10 := Int.tmod_eq_emod_of_nonneg h
theorem n_digitOf {z : Int} (hz : 0 ≤ z ∧ z ≤ 9999) {s : Nat} (hs : s < 4) : f_X11_digitOf (iI z) (iI s) = some (iI (n_d4 z s)) := by
  unfold f_X11_digitOf
  simp only [iI_lit]
  refine ok_eq.mp (ok_for 3 (fun j (v : Int32 × Int32) => s ≤ j ∧ v = (iI (n_dv z (j - s)), iI j)) ?_ (by omega) (j := s) ⟨Nat.le_refl _, by rw [Nat.sub_self]; rfl⟩ (by omega))
  rintro g j _ ⟨hsj, rfl⟩ hj hg
  show k_OK (k_if _ _ _) _
  have hr := n_dv_r hz (j - s)
  rw [n_ile (by omega) (by omega)]
  by_cases c3 : (3 : Int) ≤ j
  · rw [if_pos c3, ok_some, iI_rem2 (by omega) (by omega), n_tm hr.1, ← n_dv_d hs, show j = 3 by omega]
  · rw [if_neg c3, iI_div2 (by omega) (by omega), n_td hr.1, ok_nm, ok_nm]
    exact hg _ (by omega) ⟨by omega, by rw [iI_add, show j + 1 - s = (j - s) + 1 by omega]; rfl⟩
/-- TUGS told as digits -/
theorem n_tugsOf {z k : Int} (hz : -2147483648 ≤ z ∧ z ≤ 2147483647) (hk : 0 ≤ k ∧ k ≤ 4) : f_X11_tugsOf (iI z) (iI k) = some (iI (if n_okd z k 4 then n_e4 (n_d4 z) else -1)) := by
  unfold f_X11_tugsOf
  simp (disch := omega) only [iI_lit, n_within, n_bd, n_ib]
  by_cases c1 : 0 ≤ z ∧ z ≤ 9999
  · rw [if_pos c1]
    refine ok_eq.mp (ok_for 4 (fun j (v : Int32 × Int32) => (∀ s, s < j → n_d4 z s < k) ∧ v = (iI (n_e4 (fun s => if s < j then n_d4 z s else 0)), iI j)) ?_ (by omega) (j := 0) ⟨fun s h => absurd h (by omega), rfl⟩ (by omega))
    rintro g j _ ⟨hA, rfl⟩ hj hg
    show k_OK (k_if _ _ _) _
    rw [n_ile (by omega) (by omega)]
    by_cases c3 : (4 : Int) ≤ j
    · have e4 : j = 4 := by omega
      subst e4
      rw [if_pos c3, ok_some, if_pos (n_okd4.mpr ⟨c1.1, c1.2, hA⟩)]
      refine congrArg iI (n_e4c (fun s hs => ?_))
      show (if s < 4 then n_d4 z s else 0) = _
      rw [if_pos hs]
    · have hd := n_d4r c1 j
      rw [if_neg c3, n_digitOf c1 (by omega), n_bd, n_ilt (by omega) (by omega)]
      by_cases c4 : n_d4 z j < k
      · have h4 : r_4 (fun s => if s < j then n_d4 z s else 0) := fun s hs => by
          by_cases e : s < j
          · simp only [e, if_true]
            have := hA s e
            have := n_d4r c1 s
            omega
          · simp only [e, if_false]
            omega
        rw [if_pos c4, n_wsign h4 (by omega) (by omega), n_bd, ok_nm]
        refine hg _ (by omega) ⟨fun s hs => ?_, ?_⟩
        · by_cases e : s = j
          · rw [e]; exact c4
          · exact hA s (by omega)
        · rw [iI_add]
          refine congrArg (fun t => (iI t, _)) (n_e4c (fun s hs => ?_))
          unfold n_up
          by_cases e : s = j
          · rw [if_pos e, if_pos (by omega), e]
          · rw [if_neg e]
            by_cases e2 : s < j
            · show (if s < j then n_d4 z s else 0) = _
              rw [if_pos e2, if_pos (by omega)]
            · show (if s < j then n_d4 z s else 0) = _
              rw [if_neg e2, if_neg (by omega)]
      · rw [if_neg c4, ok_some, if_neg (fun q => c4 ((n_okd4.mp q).2.2 j (by omega)))]
        rfl
  · rw [if_neg c1, if_neg (fun q => c1 (n_okd_i.mp q).1)]
    rfl
/-- the reference's way -/
theorem n_spread {σ : k_St} {a : Nat} (ha : k_nM a = 4) {z k : Int} (hz : -2147483648 ≤ z ∧ z ≤ 2147483647) (hk : -2147483648 ≤ k ∧ k ≤ 2147483647) : k_OK (f_X12_spreadOut (iI z) (iI k) a σ) (fun r => r.1 = iB (n_okd z k 4) ∧ n_Fr (fun c => c = a) σ r.2 ∧ (0 ≤ z ∧ z ≤ 9999 → ∀ s, s < 4 → r.2.1 a s = iI (n_d4 z s))) := by
  unfold f_X12_spreadOut
  rw [ha]
  simp (disch := omega) only [iI_lit, n_in, n_within, n_bd, iI_neg]
  refine ok_for 4 (fun t (v : Int32 × Int32 × Int32 × k_St) => v.2.2.1 = iI (3 - (t : Int)) ∧ (∃ w : Int, (-2147483648 ≤ w ∧ w ≤ 2147483647) ∧ v.1 = iI w ∧ (0 ≤ z ∧ z ≤ 9999 → w = n_dv z t)) ∧ v.2.1 = iB (n_okd z k t) ∧ n_Fr (fun c => c = a) σ v.2.2.2 ∧ (0 ≤ z ∧ z ≤ 9999 → ∀ s, s < 4 → 4 - t ≤ s → v.2.2.2.1 a s = iI (n_d4 z s))) ?_ (by omega) (j := 0) ⟨rfl, ⟨z, hz, rfl, fun _ => rfl⟩, n_bc ⟨fun h => n_okd_i.mpr ⟨h, fun s h1 h2 => absurd h2 (by omega)⟩, fun h => (n_okd_i.mp h).1⟩, n_Fr.rf, fun _ s h1 h2 => absurd h2 (by omega)⟩ (by omega)
  rintro g t ⟨v3, v4, v5, s⟩ ⟨rfl, ⟨w, hw, rfl, hwz⟩, rfl, hF, hA⟩ ht hg
  show k_OK (k_if _ _ _) _
  rw [n_ilt (by omega) (by omega)]
  by_cases c3 : 3 - (t : Int) < 0
  · have e4 : t = 4 := by omega
    subst e4
    rw [if_pos c3, n_gdt n_isB, ok_some]
    exact ⟨rfl, hF, fun h s hs => hA h s hs (by omega)⟩
  · have hdig : 0 ≤ z ∧ z ≤ 9999 → w.tmod 10 = n_d4 z (3 - t) := fun h => by
      have hr := n_dv_r h t
      rw [hwz h, n_tm hr.1, ← n_dv_d (by omega), show 3 - (3 - t) = t by omega]
    have hm := Int.emod_nonneg w (show (10 : Int) ≠ 0 by decide)
    have hmr : -10 < w.tmod 10 ∧ w.tmod 10 < 10 := by
      have h1 := Int.lt_tmod_of_pos w (show (0 : Int) < 10 by decide)
      have h2 := Int.tmod_lt_of_pos w (show (0 : Int) < 10 by decide)
      exact ⟨h1, h2⟩
    have hdr : -2147483648 ≤ w.tdiv 10 ∧ w.tdiv 10 ≤ 2147483647 := by
      have := Int.mul_tdiv_add_tmod w 10
      omega
    have fin : ∀ u : Int32, u = iB (n_okd z k (t + 1)) → k_OK (g (iI (w.tdiv 10), u, iI (3 - (t : Int)) + iI (-1), k_wr s a (3 - (t : Int)).toNat (iI (w.tmod 10)))) _ := fun u hu => hg _ (by omega) ⟨by show iI (3 - (t : Int)) + iI (-1) = _; rw [iI_add]; congr 1; omega, ⟨w.tdiv 10, hdr, rfl, fun h => by
        have hr := n_dv_r h t
        rw [hwz h, n_td hr.1]
        rfl⟩, hu, hF.wr rfl, fun h s' hs' hs2 => by
        show (k_wr s a (3 - (t : Int)).toNat (iI (w.tmod 10))).1 a s' = _
        by_cases e : s' = (3 - (t : Int)).toNat
        · rw [e, wr_s, hdig h]
          congr 2
          omega
        · rw [wr_k e]
          exact hA h s' hs' (by omega)⟩
    rw [if_neg c3, ok_jn, ok_jn]
    simp (disch := omega) only [iI_rem2, iI_div2, n_gix, iI_cl, n_nm]
    by_cases c4 : n_okd z k t
    · rw [n_bt c4, n_iff (show ¬ iI 1 = iI 0 by decide), n_ile (by omega) (by omega)]
      by_cases c5 : k ≤ w.tmod 10
      · rw [if_pos c5]
        refine fin _ (n_bf (fun q => ?_)).symm
        have c4 := n_okd_i.mp c4
        have := (n_okd_i.mp q).2 (3 - t) (by omega) (by omega)
        rw [← hdig c4.1] at this
        omega
      · rw [if_neg c5]
        have c4 := n_okd_i.mp c4
        refine fin _ (n_bt (n_okd_i.mpr ⟨c4.1, fun s' h1 h2 => ?_⟩)).symm
        by_cases e : s' = 3 - t
        · rw [e, ← hdig c4.1]; omega
        · exact c4.2 s' h1 (by omega)
    · rw [n_bf c4, n_ift rfl]
      exact fin _ (n_bf (fun q => c4 (n_okd_i.mpr ⟨(n_okd_i.mp q).1, fun s' h1 h2 => (n_okd_i.mp q).2 s' h1 (by omega)⟩))).symm
