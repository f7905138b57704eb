/-! meant -/
def n_agi (m : k_St) (f : Nat → Int) (i : Nat) : Bool := decide (m.1 15 (4 * n_sn m (vI m 0 26) (vI m 33 i).toNat + f (n_hd m (vI m 0 27) (vI m 33 i).toNat).toNat).toNat = m.1 34 i)
def n_ag (m : k_St) (f : Nat → Int) : Nat → Bool
  | 0 => true
  | N + 1 => n_ag m f N && n_agi m f N
theorem n_ag_f {m : k_St} {f : Nat → Int} {j : Nat} (h : n_agi m f j = false) : ∀ {N}, j < N → n_ag m f N = false
  | 0, h2 => absurd h2 (by omega)
  | N + 1, h2 => by
    show (n_ag m f N && n_agi m f N) = false
    by_cases e : j = N
    · rw [← e, h, Bool.and_false]
    · rw [n_ag_f h (show j < N by omega), Bool.false_and]
theorem n_ag_c {m : k_St} {f g : Nat → Int} (h : ∀ s, s < 4 → f s = g s) : ∀ {N : Nat}, (∀ i, i < N → (n_hd m (vI m 0 27) (vI m 33 i).toNat).toNat < 4) → n_ag m f N = n_ag m g N
  | 0, _ => rfl
  | N + 1, hN => by
    show (n_ag m f N && n_agi m f N) = (n_ag m g N && n_agi m g N)
    rw [n_ag_c h (fun i hi => hN i (by omega))]
    congr 1
    unfold n_agi
    rw [h _ (hN N (by omega))]
theorem n_agrees {σ m : k_St} {n N a : Nat} {V f : Nat → Int} (ha : k_nM a = 4) (hm : m_c σ = m) (hk : n_mk m n V) (hN : vI m 0 52 = N) (hN20 : N ≤ 20) (hp : ∀ i : Nat, i < N → 0 ≤ vI m 33 i ∧ vI m 33 i < n) (hf : ∀ s, s < 4 → σ.1 a s = iI (f s) ∧ 0 ≤ f s ∧ f s < 4) : f_X12_agrees a σ = some (iB (n_ag m f N = true)) := by
  have h6 := hk.2.1
  unfold f_X12_agrees
  rw [ha, n_core_I hm (c := 0) (k := 52) rfl, hN]
  simp only [iI_lit]
  refine ok_eq.mp (ok_for N (fun j (y : Int32) => y = iI j ∧ n_ag m f j = true) ?_ (by omega) (j := 0) ⟨rfl, rfl⟩ (by omega))
  rintro g j _ ⟨rfl, hA⟩ hj hg
  show k_OK (k_if _ _ _) _
  rw [n_ile (by omega) (by omega)]
  by_cases c : (N : Int) ≤ j
  · have e : j = N := by omega
    subst e
    rw [if_pos c, ok_some, n_bt hA]
  have hpj := hp j (by omega)
  obtain ⟨p, hpp⟩ := Int.eq_ofNat_of_zero_le hpj.1
  have hh := hk.hd (show p < n by omega) (vI m 0 27)
  have hs := hk.sn (show p < n by omega) (vI m 0 26)
  have hfh := hf (n_hd m (vI m 0 27) p).toNat (by omega)
  have eag : n_agi m f j = decide (m.1 15 (4 * n_sn m (vI m 0 26) p + f (n_hd m (vI m 0 27) p).toNat).toNat = m.1 34 j) := by
    unfold n_agi
    rw [hpp]
    rfl
  have ea : k_rd σ a (n_hd m (vI m 0 27) p).toNat = iI (f (n_hd m (vI m 0 27) p).toNat) := hfh.1
  have e33 : k_rd σ 33 j = iI (p : Int) := by rw [n_core_I hm (c := 33) (k := j) rfl, hpp]
  have e34 : k_rd σ 34 j = m.1 34 j := n_core_1 hm rfl
  have e15 : ∀ c, k_rd σ 15 c = m.1 15 c := fun c => n_core_1 hm rfl
  rw [if_neg c, n_gix (by omega) (by omega), iI_cl (by omega), Int.toNat_natCast, e33, ok_nm, n_seenM (by omega), n_bd, n_heardM (by omega), n_bd, hm, n_gix (by omega) (by omega), iI_cl (by omega), ea]
  simp (disch := omega) only [iI_mul, iI_add, n_gix, iI_cl, e15, e34]
  rw [ok_if]
  refine ⟨fun c0 => ?_, fun c0 => ?_⟩
  · rw [ok_nm]
    refine hg _ (by omega) ⟨rfl, ?_⟩
    show (n_ag m f j && n_agi m f j) = true
    rw [hA, eag, decide_eq_true c0]
    rfl
  · rw [ok_some, n_bf (fun q => by
      rw [n_ag_f (by rw [eag]; exact decide_eq_false c0) (show j < N by omega)] at q
      exact absurd q (by decide))]
def n_f4 (e s : Nat) : Int := ((e / 4 ^ (3 - s) % 4 : Nat) : Int)
theorem n_canBe {σ x m : k_St} {n N e : Nat} {V : Nat → Int} (hx : x_c σ = x) (hk : n_mk m n V) (hl : r_lak x m) (hs : r_see x m) (hfg : x.1 16 3 = m.1 0 26) (hth : x.1 16 4 = m.1 0 27) (hR : ∀ c, c < 16 → o_pl (x.2 16 1) c = m.1 15 c) (hN : vI m 0 52 = N) (he : e < 256) : f_X11_canBeMeant (iI e) σ = some (iB (n_ag m (n_f4 e) N = true)) := by
  have h6 := hk.2.1
  have hN20 := hs.1.2
  unfold f_X11_canBeMeant
  rw [n_rX hx rfl hs.1.1, hN, n_rX hx rfl hfg, n_rX hx rfl hth, show k_rl σ 16 1 = x.2 16 1 from n_core_2 hx rfl]
  simp only [iI_lit]
  refine ok_eq.mp (ok_for N (fun j (y : Int32) => y = iI j ∧ n_ag m (n_f4 e) j = true) ?_ (by omega) (j := 0) ⟨rfl, rfl⟩ (by omega))
  rintro g j _ ⟨rfl, hA⟩ hj hg
  show k_OK (k_if _ _ _) _
  rw [n_ile (by omega) (by omega)]
  by_cases c : (N : Int) ≤ j
  · have e : j = N := by omega
    subst e
    rw [if_pos c, ok_some, n_bt hA]
  obtain ⟨⟨a1, a2⟩, b1, b2⟩ := hs.2 j (by omega)
  obtain ⟨p, hpp⟩ := Int.eq_ofNat_of_zero_le a2.1
  have k1 := hk.1
  have hpn : p < n := by omega
  have hh := hk.hd hpn (vI m 0 27)
  have hsn := hk.sn hpn (vI m 0 26)
  have eag : n_agi m (n_f4 e) j = decide (m.1 15 (4 * n_sn m (vI m 0 26) p + n_f4 e (n_hd m (vI m 0 27) p).toNat).toNat = m.1 34 j) := by
    unfold n_agi
    rw [hpp]
    rfl
  have e48 : k_rd σ 48 j = iI (p : Int) := by rw [n_rX hx rfl a1, hpp]
  have e49 : k_rd σ 49 j = m.1 34 j := (n_core_1 hx rfl).trans b1
  rw [if_neg c, n_ile (by omega) (by omega), if_neg (show ¬ (20 : Int) ≤ (j : Int) by omega), n_gix (by omega) (by omega), iI_cl (by omega), Int.toNat_natCast, e48, ok_nm, n_heardX hx hk hl hpn (vI_rg _ _ _), n_bd]
  obtain ⟨H, hH⟩ := Int.eq_ofNat_of_zero_le hh.1
  obtain ⟨M, hM⟩ := Int.eq_ofNat_of_zero_le hsn.1
  have hm4 := Nat.mod_lt (e / 4 ^ (3 - H)) (show 0 < 4 by omega)
  have esg : f_X11_signOf (iI (e : Int)) (iI (n_hd m (vI m 0 27) p)) = some (iI ((e / 4 ^ (3 - H) % 4 : Nat) : Int)) := by
    rw [hH, ← iI_nat, ← iI_nat, n_sgD e he H (by omega), iI_nat]
  rw [esg, n_bd, n_seenX hx hk hl hpn (vI_rg _ _ _), n_bd, hM]
  rw [hH, hM] at eag
  have eix : (4 * (M : Int) + n_f4 e ((H : Nat) : Int).toNat).toNat = 4 * M + e / 4 ^ (3 - H) % 4 := by
    unfold n_f4
    rw [Int.toNat_natCast]
    omega
  rw [eix] at eag
  rw [n_placeOf (by omega) (by omega), n_bd, hR _ (by omega), n_gix (by omega) (by omega), e49, ok_if]
  refine ⟨fun c0 => ?_, fun c0 => ?_⟩
  · rw [ok_nm, iI_add]
    refine hg _ (by omega) ⟨rfl, ?_⟩
    show (n_ag m (n_f4 e) j && n_agi m (n_f4 e) j) = true
    rw [hA, eag, decide_eq_true c0]
    rfl
  · rw [ok_some, n_bf (fun q => by
      rw [n_ag_f (by rw [eag]; exact decide_eq_false c0) (show j < N by omega)] at q
      exact absurd q (by decide))]
