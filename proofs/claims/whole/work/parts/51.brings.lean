/-! what every throw would bring, in the reference -/
def n_t0 (g y : Int) : Int := if y = 0 then 0 else g
def n_B (m : k_St) (V : Nat → Int) (f : Nat → Int) (c p : Nat) : Int :=
  (if (c : Int) = 4 * n_sn m (vI m 0 26) p + f (n_hd m (vI m 0 27) p).toNat then vI m 13 (4 * p) * V p * (100 - n_t0 (vI m 0 23) (f (n_hd m (vI m 0 27) p).toNat)) else 0) + (if (c : Int) = 4 * n_sn m (vI m 0 26) p then vI m 13 (4 * p) * V p * n_t0 (vI m 0 23) (f (n_hd m (vI m 0 27) p).toNat) else 0)
def i_SB (c : Nat) : Prop := c = 9 ∨ c = 10 ∨ c = 17
theorem i_SB_s : ∀ c, i_SB c → ∀ k, m_scr c k = true := fun c hc k => by
  rcases hc with rfl | rfl | rfl <;> rfl
theorem n_layBrings {σ m : k_St} {a n : Nat} {V f : Nat → Int} (ha : k_nM a = 4) (ha2 : ¬ i_SB a) (hm : m_c σ = m) (hk : n_mk m n V) (hf : ∀ s, s < 4 → σ.1 a s = iI (f s) ∧ 0 ≤ f s ∧ f s < 4) : k_OK (f_X12_layBrings a σ) (fun s => n_Fr i_SB σ s ∧ ∀ c, c < 16 → ∀ p, p < n → s.1 17 (6 * c + p) = iI (n_B m V f c p)) := by
  obtain ⟨k1, k2, k3, k4, k5⟩ := id hk
  unfold f_X12_layBrings
  rw [ha]
  simp only [iI_lit]
  refine ok_for 96 (fun j (z : Int32 × k_St) => z.1 = iI j ∧ n_Fr i_SB σ z.2 ∧ ∀ t, t < j → z.2.1 17 t = iI 0) ?_ (by omega) (j := 0) ⟨rfl, n_Fr.rf, fun t h => absurd h (by omega)⟩ (Nat.zero_le _)
  rintro g0 j ⟨v, s⟩ ⟨rfl, hF, hz⟩ hj hg0
  have hF : n_Fr i_SB σ s := hF
  show k_OK (k_if _ _ _) _
  rw [n_ile (by omega) (by omega)]
  by_cases c0 : (96 : Int) ≤ j
  rotate_left
  · rw [if_neg c0, n_gix (by omega) (by omega), iI_cl (by omega), show ((j : Int)).toNat = j from rfl, ok_nm, ok_nm]
    refine hg0 _ (by omega) ⟨by rw [iI_add]; rfl, hF.wr (Or.inr (Or.inr rfl)), fun t ht => ?_⟩
    show (k_wr s 17 j (iI 0)).1 17 t = iI 0
    by_cases e : t = j
    · subst e
      exact wr_s
    · rw [wr_k e]
      exact hz t (by omega)
  rw [if_pos c0]
  have e96 : j = 96 := by omega
  subst e96
  clear hg0
  have hz : ∀ t, t < 96 → s.1 17 t = iI 0 := hz
  refine ok_for n (fun P (z : Int32 × k_St) => z.1 = iI P ∧ n_Fr i_SB σ z.2 ∧ ∀ c, c < 16 → ∀ p, p < 6 → z.2.1 17 (6 * c + p) = iI (if p < P then n_B m V f c p else 0)) ?_ (by omega) (j := 0) ⟨rfl, hF, fun c hc p hp => by rw [if_neg (by omega)]; exact hz _ (by omega)⟩ (Nat.zero_le _)
  clear hF hz
  rintro g P ⟨v, s⟩ ⟨rfl, hF, hz⟩ hP hg
  have hF : n_Fr i_SB σ s := hF
  have hz : ∀ c, c < 16 → ∀ p, p < 6 → s.1 17 (6 * c + p) = iI (if p < P then n_B m V f c p else 0) := hz
  have hms : m_c s = m := (n_frM hF i_SB_s).trans hm
  show k_OK (k_if _ _ _) _
  rw [n_core_I hms (c := 0) (k := 21) rfl, k1, n_ile (by omega) (by omega)]
  by_cases c1 : (n : Int) ≤ P
  · rw [if_pos c1, ok_some]
    refine ⟨hF, fun c hc p hp => ?_⟩
    rw [hz c hc p (by omega), if_pos (by omega)]
  rw [if_neg c1]
  have hPn : P < n := by omega
  obtain ⟨⟨p1, p2, p3⟩, p4, p5⟩ := k5 P hPn
  have hh := hk.hd hPn (vI m 0 27)
  have hs := hk.sn hPn (vI m 0 26)
  have eh : f_X12_heard (iI (P : Int)) s = some (iI (n_hd m (vI m 0 27) P)) := by
    rw [n_heardM (by omega), hms]
  have es : f_X12_seenAt (iI (P : Int)) s = some (iI (n_sn m (vI m 0 26) P)) := by
    rw [n_seenM (by omega), hms]
  have ew : f_X12_of (iI (P : Int)) (iI 0) s = some (iI (vI m 13 (4 * P))) := by
    rw [show iI 0 = iI ((0 : Nat) : Int) from rfl, n_of (by omega) (by omega)]
    exact congrArg some (n_core_I hms (c := 13) (k := 4 * P) rfl)
  obtain ⟨s', e1, e2, hG⟩ := n_worthAt (σ := s) (p := P) (v := V P) (by omega) (by rw [hms]; exact k4) (by rw [hms]; exact p4)
  rw [eh, n_bd]
  have hBd : ∀ c, n_B m V f c P = (if (c : Int) = 4 * n_sn m (vI m 0 26) P + f (n_hd m (vI m 0 27) P).toNat then vI m 13 (4 * P) * V P * (100 - n_t0 (vI m 0 23) (f (n_hd m (vI m 0 27) P).toNat)) else 0) + (if (c : Int) = 4 * n_sn m (vI m 0 26) P then vI m 13 (4 * P) * V P * n_t0 (vI m 0 23) (f (n_hd m (vI m 0 27) P).toNat) else 0) := fun c => rfl
  generalize hH : n_hd m (vI m 0 27) P = H at *
  generalize hN : n_sn m (vI m 0 26) P = N at *
  obtain ⟨h, rfl⟩ := Int.eq_ofNat_of_zero_le hh.1
  have f1 := hf h (by omega)
  have ea : k_rd s a h = iI (f h) := by
    show s.1 a h = _
    rw [(hF a ha2).1, f1.1]
  rw [n_gix (by omega) (by omega), iI_cl (by omega)]
  simp only [Int.toNat_natCast] at *
  have hS17 : s'.1 17 = s.1 17 := (hG 17 (by omega)).1
  have e23 : k_rd s' 0 23 = iI (vI m 0 23) := n_core_I (e2.trans hms) rfl
  rw [ea, ok_nm, es, n_bd, ew, n_bd, e1, n_b2, ok_nm]
  have hFs : n_Fr i_SB σ s' := hF.tr (hG.mono (fun c hc => by
    rcases hc with h | h
    · exact Or.inl h
    · exact Or.inr (Or.inl h)))
  generalize hY : f h = Y at *
  generalize hT : n_t0 (vI m 0 23) Y = T at *
  -- the common end
  have fin : ∀ t0 : Int32, t0 = iI T → k_OK (k_nm ((iI 6 * ((iI 4 * iI N) + iI Y)) + iI (P : Int)) fun y89 =>
                k_gd (k_ix y89 96 = true) <|
                k_gd (k_ix y89 96 = true) <|
                k_nm (k_wr s' 17 y89.toNatClampNeg ((k_rd s' 17 y89.toNatClampNeg) + ((iI (vI m 13 (4 * P)) * iI (V P)) * (iI 100 - t0)))) fun s100 =>
                k_nm ((iI 6 * (iI 4 * iI N)) + iI (P : Int)) fun y114 =>
                k_gd (k_ix y114 96 = true) <|
                k_gd (k_ix y114 96 = true) <|
                k_nm (k_wr s100 17 y114.toNatClampNeg ((k_rd s100 17 y114.toNatClampNeg) + ((iI (vI m 13 (4 * P)) * iI (V P)) * t0))) fun s122 =>
                k_nm (iI (P : Int) + iI 1) fun y123 =>
                g (y123, s122)) (fun s => n_Fr i_SB σ s ∧ ∀ c, c < 16 → ∀ p, p < n → s.1 17 (6 * c + p) = iI (n_B m V f c p)) := by
    intro t0 ht0
    subst ht0
    simp (disch := omega) only [iI_mul, iI_add, iI_sub, n_nm, n_gix, iI_cl]
    refine hg _ (by omega) ⟨rfl, (hFs.wr (Or.inr (Or.inr rfl))).wr (Or.inr (Or.inr rfl)), fun c hc p hp => ?_⟩
    show (k_wr (k_wr s' 17 (6 * (4 * N + Y) + (P : Int)).toNat (s'.1 17 (6 * (4 * N + Y) + (P : Int)).toNat + iI (vI m 13 (4 * P) * V P * (100 - T)))) 17 (6 * (4 * N) + (P : Int)).toNat ((k_wr s' 17 (6 * (4 * N + Y) + (P : Int)).toNat (s'.1 17 (6 * (4 * N + Y) + (P : Int)).toNat + iI (vI m 13 (4 * P) * V P * (100 - T)))).1 17 (6 * (4 * N) + (P : Int)).toNat + iI (vI m 13 (4 * P) * V P * T))).1 17 (6 * c + p) = _
    have hz' : ∀ c, c < 16 → ∀ p, p < 6 → s'.1 17 (6 * c + p) = iI (if p < P then n_B m V f c p else 0) := fun c hc p hp => by
      rw [hS17]
      exact hz c hc p hp
    by_cases eP : p = P
    · subst eP
      rw [if_pos (by omega), hBd c]
      have z0 := hz' c hc p hp
      rw [if_neg (by omega)] at z0
      by_cases e2' : (c : Int) = 4 * N
      · rw [if_pos e2', show (6 * (4 * N) + (p : Int)).toNat = 6 * c + p by omega, wr_s]
        by_cases e1' : (c : Int) = 4 * N + Y
        · rw [if_pos e1', show (6 * (4 * N + Y) + (p : Int)).toNat = 6 * c + p by omega, wr_s, z0, iI_add, iI_add]
          congr 1
          omega
        · rw [if_neg e1', wr_k (by omega), z0, iI_add]
      · rw [if_neg e2', wr_k (by omega)]
        by_cases e1' : (c : Int) = 4 * N + Y
        · rw [if_pos e1', show (6 * (4 * N + Y) + (p : Int)).toNat = 6 * c + p by omega, wr_s, z0, iI_add]
          congr 1
          omega
        · rw [if_neg e1', wr_k (by omega), z0]
          rfl
    · rw [wr_k (by omega), wr_k (by omega), hz' c hc p hp]
      congr 1
      by_cases e : p < P
      · rw [if_pos e, if_pos (by omega)]
      · rw [if_neg e, if_neg (by omega)]
  rw [ok_jn, n_ieq (by omega) (by omega)]
  by_cases cy : Y = 0
  · rw [if_pos cy]
    exact fin _ (by rw [← hT, cy]; rfl)
  · rw [if_neg cy]
    exact fin _ (by rw [← hT, e23]; unfold n_t0; rw [if_neg cy])
