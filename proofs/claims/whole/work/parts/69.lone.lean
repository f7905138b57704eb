/-! one knows one thing alone: the reference -/
def n_kn (w h s : Int) : Int := if w = 0 then h else if w = 1 then s else 4 * h + s
theorem n_known {w h s : Int} (hw : 0 ≤ w ∧ w ≤ 2) : f_X12_known (iI w) (iI h) (iI s) = some (iI (n_kn w h s)) := by
  unfold f_X12_known n_kn
  simp (disch := omega) only [iI_lit, n_ieq, iI_mul, iI_add]
  by_cases c0 : w = 0
  · rw [if_pos c0, if_pos c0]
  · rw [if_neg c0, if_neg c0]
    by_cases c1 : w = 1
    · rw [if_pos c1, if_pos c1]
    · rw [if_neg c1, if_neg c1]
def n_Lo (m : k_St) (V : Nat → Int) (w : Int) (c p : Nat) : Int := if n_kn w (n_hd m (vI m 0 27) p) (n_sn m (vI m 0 26) p) = c then vI m 13 (4 * p) * V p else 0
def i_SL (c : Nat) : Prop := c = 9 ∨ c = 10 ∨ c = 26
theorem i_SL_s : ∀ c, i_SL c → ∀ k, m_scr c k = true := fun c hc k => by
  rcases hc with rfl | rfl | rfl <;> rfl
theorem n_knr {w h s : Int} (hw : 0 ≤ w ∧ w ≤ 2) (hh : 0 ≤ h ∧ h ≤ 3) (hs : 0 ≤ s ∧ s ≤ 3) : 0 ≤ n_kn w h s ∧ n_kn w h s ≤ 15 := by
  unfold n_kn
  split
  · omega
  · split <;> omega
theorem n_layLone {σ m : k_St} {n : Nat} {V : Nat → Int} {w : Int} (hm : m_c σ = m) (hk : n_mk m n V) (hw : 0 ≤ w ∧ w ≤ 2) : k_OK (f_X12_layLone (iI w) σ) (fun s => n_Fr i_SL σ s ∧ ∀ c, c < 16 → ∀ p, p < n → s.1 26 (6 * c + p) = iI (n_Lo m V w c p)) := by
  obtain ⟨k1, k2, k3, k4, k5⟩ := id hk
  unfold f_X12_layLone
  simp only [iI_lit]
  refine ok_for 96 (fun j (z : Int32 × k_St) => z.1 = iI j ∧ n_Fr i_SL σ z.2 ∧ ∀ t, t < j → z.2.1 26 t = iI 0) ?_ (by omega) (j := 0) ⟨rfl, n_Fr.rf, fun t h => absurd h (by omega)⟩ (Nat.zero_le _)
  rintro g0 j ⟨v, s⟩ ⟨hv, hF, hz⟩ hj hg0
  have hv : v = iI j := hv
  subst hv
  have hF : n_Fr i_SL σ s := hF
  have hz : ∀ t, t < j → s.1 26 t = iI 0 := hz
  show k_OK (k_if _ _ _) _
  rw [n_ile (by omega) (by omega)]
  by_cases c0 : (96 : Int) ≤ j
  rotate_left
  · rw [if_neg c0, n_gix (by omega) (by omega), iI_cl (by omega), show ((j : Int)).toNat = j from rfl, ok_nm, ok_nm]
    refine hg0 _ (by omega) ⟨by rw [iI_add]; rfl, hF.wr (Or.inr (Or.inr rfl)), fun t ht => ?_⟩
    show (k_wr s 26 j (iI 0)).1 26 t = iI 0
    by_cases e : t = j
    · subst e
      exact wr_s
    · rw [wr_k e]
      exact hz t (by omega)
  rw [if_pos c0]
  have e96 : j = 96 := by omega
  subst e96
  clear hg0
  refine ok_for n (fun P (z : Int32 × k_St) => z.1 = iI P ∧ n_Fr i_SL σ z.2 ∧ ∀ c, c < 16 → ∀ p, p < 6 → z.2.1 26 (6 * c + p) = iI (if p < P then n_Lo m V w c p else 0)) ?_ (by omega) (j := 0) ⟨rfl, hF, fun c hc p hp => by rw [if_neg (by omega)]; exact hz _ (by omega)⟩ (Nat.zero_le _)
  clear hF hz
  rintro g P ⟨v, s⟩ ⟨hv, hF, hz⟩ hP hg
  have hv : v = iI P := hv
  subst hv
  have hF : n_Fr i_SL σ s := hF
  have hz : ∀ c, c < 16 → ∀ p, p < 6 → s.1 26 (6 * c + p) = iI (if p < P then n_Lo m V w c p else 0) := hz
  have hms : m_c s = m := (n_frM hF i_SL_s).trans hm
  show k_OK (k_if _ _ _) _
  rw [n_core_I hms (c := 0) (k := 21) rfl, k1, n_ile (by omega) (by omega)]
  by_cases c1 : (n : Int) ≤ P
  · rw [if_pos c1, ok_some]
    refine ⟨hF, fun c hc p hp => ?_⟩
    rw [hz c hc p (by omega), if_pos (by omega)]
  rw [if_neg c1]
  have hPn : P < n := by omega
  obtain ⟨⟨p1, p2, p3⟩, p4, p5⟩ := k5 P hPn
  have hh := hk.hd hPn (vI m 0 27)
  have hs := hk.sn hPn (vI m 0 26)
  have hK := n_knr hw hh hs
  have eh : f_X12_heard (iI (P : Int)) s = some (iI (n_hd m (vI m 0 27) P)) := by
    rw [n_heardM (by omega), hms]
  have es : f_X12_seenAt (iI (P : Int)) s = some (iI (n_sn m (vI m 0 26) P)) := by
    rw [n_seenM (by omega), hms]
  have ew : f_X12_of (iI (P : Int)) (iI 0) s = some (iI (vI m 13 (4 * P))) := by
    rw [show iI 0 = iI ((0 : Nat) : Int) from rfl, n_of (by omega) (by omega)]
    exact congrArg some (n_core_I hms (c := 13) (k := 4 * P) rfl)
  obtain ⟨s', e1, e2, hG⟩ := n_worthAt (σ := s) (p := P) (v := V P) (by omega) (by rw [hms]; exact k4) (by rw [hms]; exact p4)
  have eL : ∀ c, n_Lo m V w c P = if n_kn w (n_hd m (vI m 0 27) P) (n_sn m (vI m 0 26) P) = (c : Int) then vI m 13 (4 * P) * V P else 0 := fun c => rfl
  have hFs : n_Fr i_SL σ s' := hF.tr (hG.mono (fun c hc => by
    rcases hc with h | h
    · exact Or.inl h
    · exact Or.inr (Or.inl h)))
  have hS26 : s'.1 26 = s.1 26 := (hG 26 (by omega)).1
  rw [eh, n_bd, es, n_bd, n_known hw, n_bd]
  obtain ⟨K, hKn⟩ := Int.eq_ofNat_of_zero_le hK.1
  rw [hKn] at eL hK ⊢
  have e26 : k_rd s 26 (6 * (K : Int) + (P : Int)).toNat = iI 0 := by
    show s.1 26 _ = _
    rw [show (6 * (K : Int) + (P : Int)).toNat = 6 * K + P by omega, hz K (by omega) P (by omega), if_neg (by omega)]
  simp (disch := omega) only [iI_mul, iI_add, n_nm, n_gix, iI_cl, ew, n_bd, e1, n_b2, e26]
  refine hg _ (by omega) ⟨rfl, hFs.wr (Or.inr (Or.inr rfl)), fun c hc p hp => ?_⟩
  show (k_wr s' 26 (6 * (K : Int) + (P : Int)).toNat (iI (0 + vI m 13 (4 * P) * V P))).1 26 (6 * c + p) = _
  by_cases eP : p = P
  · subst eP
    rw [if_pos (by omega), eL c]
    by_cases e : (K : Int) = c
    · rw [if_pos e, show (6 * (K : Int) + (p : Int)).toNat = 6 * c + p by omega, wr_s, Int.zero_add]
    · rw [if_neg e, wr_k (by omega), hS26, hz c hc p hp, if_neg (by omega)]
  · rw [wr_k (by omega), hS26, hz c hc p hp]
    congr 1
    by_cases e : p < P
    · rw [if_pos e, if_pos (by omega)]
    · rw [if_neg e, if_neg (by omega)]
