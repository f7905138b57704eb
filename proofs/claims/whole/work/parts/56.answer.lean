/-! the class's answers -/
theorem n_bv_r {F : Nat → Int} {n : Nat} {b : Int} (h : ∀ p, p < n → 0 ≤ F p ∧ F p ≤ b) (hb : 0 ≤ b) : ∀ P, P ≤ n → 0 ≤ n_bv F P ∧ n_bv F P ≤ b
  | 0, _ => ⟨Int.le_refl 0, hb⟩
  | P + 1, hP => by
    have ih := n_bv_r h hb P (by omega)
    have := h P (by omega)
    show 0 ≤ (if n_bv F P < F P then F P else n_bv F P) ∧ (if n_bv F P < F P then F P else n_bv F P) ≤ b
    split <;> omega
theorem n_fill {σ : k_St} : k_OK (f_J7_fill_53178 31 (iI 0) σ) (fun s => n_Fr (fun c => c = 31) σ s ∧ ∀ t, t < 16 → s.1 31 t = iI 0) := by
  unfold f_J7_fill_53178
  rw [show (Int32.ofNat (k_nX 31)) = iI 16 from rfl, show k_nX 31 = 16 from rfl, ok_nm]
  simp only [iI_lit]
  refine ok_for 16 (fun j (z : Int32 × k_St) => z.1 = iI j ∧ n_Fr (fun c => c = 31) σ z.2 ∧ ∀ t, t < j → z.2.1 31 t = iI 0) ?_ (by omega) (j := 0) ⟨rfl, n_Fr.rf, fun t h => absurd h (by omega)⟩ (Nat.zero_le _)
  rintro g0 j ⟨v, s⟩ ⟨rfl, hF, hz⟩ hj hg0
  show k_OK (k_if _ _ _) _
  rw [n_ile (by omega) (by omega)]
  by_cases c0 : (16 : Int) ≤ j
  · rw [if_pos c0, ok_some]
    exact ⟨hF, fun t ht => hz t (by omega)⟩
  · rw [if_neg c0, n_gix (by omega) (by omega), iI_cl (by omega), show ((j : Int)).toNat = j from rfl, ok_nm, ok_nm]
    refine hg0 _ (by omega) ⟨by rw [iI_add]; rfl, n_Fr.wr hF rfl, fun t ht => ?_⟩
    show (k_wr s 31 j (iI 0)).1 31 t = iI 0
    by_cases e : t = j
    · subst e
      exact wr_s
    · rw [wr_k e]
      exact hz t (by omega)
theorem n_offer {s x m : k_St} {n p y C N : Nat} {S pc : Int} {u : Nat → Int} {v0 : Int64} (hx : x_c s = x) (hk : n_mk m n (fun p => vI x 14 p)) (hl : r_lak x m) (hv : r_val x m) (hfg : x.1 16 3 = m.1 0 26) (hp : p < n) (hy : y < 4) (hpc : 0 ≤ pc ∧ pc ≤ 100) (hN : n_sn m (vI m 0 26) p = N) (hS0 : vI m 13 (4 * p) * vI x 14 p = S) (hC : C = 4 * N + y) (hu : ∀ d, d < 16 → s.1 31 d = iI (u d) ∧ 0 ≤ u d ∧ u d ≤ 1798200) : ∃ v' s', f_X0_offer v0 (iI p) (iI y) (iI pc) s = some (v', s') ∧ n_Fr (fun c => c = 31) s s' ∧ ∀ d, d < 16 → s'.1 31 d = iI (if d = C ∧ u d < S * pc then S * pc else u d) ∧ o_pl v' d = if d = C ∧ u d < S * pc then iI p else o_pl v0 d := by
  have h6 := hk.2.1
  have hs := hk.sn hp (vI m 0 26)
  obtain ⟨⟨a1, _, _⟩, _, a2⟩ := hk.2.2.2.2 p hp
  have hv15 := (hv p (by rw [hk.1]; omega)).2.2
  have hS : 0 ≤ vI m 13 (4 * p) * vI x 14 p ∧ vI m 13 (4 * p) * vI x 14 p ≤ 9 * 999 := n_mulr a1 a2
  have hSp := n_mulr hS hpc
  have es : f_X1_stakeOf (iI (p : Int)) s = some (iI (vI m 13 (4 * p) * vI x 14 p)) := by
    unfold f_X1_stakeOf
    simp (disch := omega) only [iI_lit, n_ilt, n_ile, n_gix, iI_cl, Int.toNat_natCast]
    rw [if_neg (by omega), if_neg (by omega), n_core_I hx rfl, hv15, Int.mul_comm]
  unfold f_X0_offer
  rw [n_rX hx rfl hfg, n_seenX hx hk hl hp (vI_rg _ _ _), n_bd, es]
  rw [hN] at hs ⊢
  rw [hS0] at hS hSp ⊢
  have eC : (N : Int) * 4 + y = (C : Int) := by omega
  obtain ⟨u1, u2, u3⟩ := hu C (by omega)
  have e31 : k_rd s 31 C = iI (u C) := u1
  simp only [iI_lit, iI_mul, iI_add, iI_sub, n_nm, n_bd, eC]
  simp (disch := omega) only [n_within, n_bd, n_ib]
  rw [if_pos (by omega), n_gix (by omega) (by omega), iI_cl (by omega), Int.toNat_natCast, e31, n_ilt (by omega) (by omega)]
  by_cases c : u C < S * pc
  · rw [if_pos c, n_gix (by omega) (by omega), show (iI (N : Int)) = iI ((N : Nat) : Int) from rfl, n_withPlace (by omega) hy, n_bd]
    refine ⟨_, _, rfl, n_Fr.rf.wr rfl, fun d hd => ⟨?_, ?_⟩⟩
    · by_cases e : d = C
      · subst e
        rw [wr_s, if_pos ⟨rfl, c⟩]
      · rw [wr_k e, if_neg (fun q => e q.1)]
        exact (hu d hd).1
    · rw [show (iI (p : Int)) = nI p from (iI_nat p).symm, o_pl_wp (show 4 * N + y < 16 by omega) hd (show p < 8 by omega)]
      by_cases e : d = C
      · subst e
        rw [if_pos (by omega), if_pos ⟨rfl, c⟩]
      · rw [if_neg (by omega), if_neg (fun q => e q.1)]
  · rw [if_neg c]
    refine ⟨_, _, rfl, n_Fr.rf, fun d hd => ⟨?_, ?_⟩⟩
    · rw [if_neg (fun q => c (by rw [← q.1]; exact q.2))]
      exact (hu d hd).1
    · rw [if_neg (fun q => c (by rw [← q.1]; exact q.2))]
theorem n_frX {σ σ' : k_St} {S : Nat → Prop} (h : n_Fr S σ σ') (hs : ∀ c, S c → ∀ k, x_scr c k = true) : x_c σ' = x_c σ := n_core_fr (fun c k hk => by
  have hc : ¬ S c := fun q => by
    rw [hs c q k] at hk
    exact absurd hk (by decide)
  rw [(h c hc).1, (h c hc).2]
  exact ⟨rfl, rfl⟩)
theorem n_answerOf {σ x m : k_St} {n : Nat} {f : Nat → Int} (hx : x_c σ = x) (hk : n_mk m n (fun p => vI x 14 p)) (hl : r_lak x m) (hv : r_val x m) (hfg : x.1 16 3 = m.1 0 26) (hth : x.1 16 4 = m.1 0 27) (hlo : x.1 16 5 = m.1 0 23) (hf : r_4 f) : k_OK (f_X0_answerOf (iI (n_e4 f)) σ) (fun r => n_Fr (fun c => c = 31) σ r.2 ∧ ∀ c, c < 16 → o_pl r.1 c = iI (n_am (n_B m (fun p => vI x 14 p) f c) n : Nat)) := by
  have h6 := hk.2.1
  have g1 := hk.2.2.1
  unfold f_X0_answerOf
  rw [ok_bd, show (0 : Int32) = iI 0 from rfl]
  refine ok_mono n_fill (fun s0 hs0 => ?_)
  obtain ⟨hF0, hz0⟩ := hs0
  simp only [iI_lit]
  refine ok_for n (fun P (z : Int64 × Int32 × k_St) => z.2.1 = iI P ∧ n_Fr (fun c => c = 31) σ z.2.2 ∧ ∀ d, d < 16 → z.2.2.1 31 d = iI (n_bv (n_B m (fun p => vI x 14 p) f d) P) ∧ o_pl z.1 d = iI (n_am (n_B m (fun p => vI x 14 p) f d) P : Nat)) ?_ (by omega) (j := 0) ⟨rfl, hF0, fun d hd => ⟨hz0 d hd, o_pl_0 hd⟩⟩ (Nat.zero_le _)
  clear hF0 hz0
  rintro g P ⟨v, i, s⟩ ⟨hi, hF, hz⟩ hP hg
  have hi : i = iI P := hi
  subst hi
  have hF : n_Fr (fun c => c = 31) σ s := hF
  have hz : ∀ d, d < 16 → s.1 31 d = iI (n_bv (n_B m (fun p => vI x 14 p) f d) P) ∧ o_pl v d = iI (n_am (n_B m (fun p => vI x 14 p) f d) P : Nat) := hz
  have hxs : x_c s = x := (n_frX hF (fun c hc k => by rw [hc]; rfl)).trans hx
  show k_OK (k_if _ _ _) _
  rw [n_rX hxs rfl hl.1.1, hk.1, n_ile (by omega) (by omega)]
  by_cases c1 : (n : Int) ≤ P
  · rw [if_pos c1, ok_some]
    refine ⟨hF, fun c hc => ?_⟩
    rw [(hz c hc).2, show P = n by omega]
  rw [if_neg c1]
  have hPn : P < n := by omega
  have hh := hk.hd hPn (vI m 0 27)
  have hs := hk.sn hPn (vI m 0 26)
  have hy := hf (n_hd m (vI m 0 27) P).toNat (by omega)
  have esg := n_sign hf (s := (n_hd m (vI m 0 27) P).toNat) (by omega)
  rw [show (((n_hd m (vI m 0 27) P).toNat : Nat) : Int) = n_hd m (vI m 0 27) P by omega] at esg
  have hB0 : ∀ d p, p < n → 0 ≤ n_B m (fun p => vI x 14 p) f d p ∧ n_B m (fun p => vI x 14 p) f d p ≤ 1798200 := fun d p hp => n_B_r hk hp
  have hbv : ∀ d, 0 ≤ n_bv (n_B m (fun p => vI x 14 p) f d) P ∧ n_bv (n_B m (fun p => vI x 14 p) f d) P ≤ 1798200 := fun d => n_bv_r (n := n) (hB0 d) (by omega) P hP
  have eam : ∀ d, n_am (n_B m (fun p => vI x 14 p) f d) (P + 1) = if n_bv (n_B m (fun p => vI x 14 p) f d) P < n_B m (fun p => vI x 14 p) f d P then P else n_am (n_B m (fun p => vI x 14 p) f d) P := fun d => n_am_s (n := n) (fun p hp => (hB0 d p hp).1) hPn
  have ebv : ∀ d, n_bv (n_B m (fun p => vI x 14 p) f d) (P + 1) = if n_bv (n_B m (fun p => vI x 14 p) f d) P < n_B m (fun p => vI x 14 p) f d P then n_B m (fun p => vI x 14 p) f d P else n_bv (n_B m (fun p => vI x 14 p) f d) P := fun d => rfl
  have eB : ∀ d, n_B m (fun p => vI x 14 p) f d P = (if (d : Int) = 4 * n_sn m (vI m 0 26) P + f (n_hd m (vI m 0 27) P).toNat then vI m 13 (4 * P) * vI x 14 P * (100 - n_t0 (vI m 0 23) (f (n_hd m (vI m 0 27) P).toNat)) else 0) + (if (d : Int) = 4 * n_sn m (vI m 0 26) P then vI m 13 (4 * P) * vI x 14 P * n_t0 (vI m 0 23) (f (n_hd m (vI m 0 27) P).toNat) else 0) := fun d => rfl
  have e5 : ∀ s', x_c s' = x → k_rd s' 16 5 = iI (vI m 0 23) := fun s' h => n_rX h rfl hlo
  rw [n_rX hxs rfl hth, n_heardX hxs hk hl hPn (vI_rg _ _ _), n_bd, esg, n_bd, ok_jn]
  obtain ⟨N, hN⟩ := Int.eq_ofNat_of_zero_le hs.1
  obtain ⟨Y, hY⟩ := Int.eq_ofNat_of_zero_le hy.1
  obtain ⟨S, hS⟩ : ∃ S, vI m 13 (4 * P) * vI x 14 P = S := ⟨_, rfl⟩
  rw [hY] at hy ⊢
  rw [hN] at hs
  rw [hN, hY, hS] at eB
  obtain ⟨⟨a1, _, _⟩, _, a2⟩ := hk.2.2.2.2 P hPn
  have hSr : 0 ≤ vI m 13 (4 * P) * vI x 14 P ∧ vI m 13 (4 * P) * vI x 14 P ≤ 9 * 999 := n_mulr a1 a2
  rw [hS] at hSr
  rw [n_ieq (by omega) (by omega)]
  by_cases cy : (Y : Int) = 0
  · have cy' : Y = 0 := by omega
    subst cy'
    obtain ⟨v', s', e1, hG, hw⟩ := n_offer (s := s) (p := P) (y := 0) (C := 4 * N) (pc := 100) (v0 := v) (u := fun d => n_bv (n_B m (fun p => vI x 14 p) f d) P) hxs hk hl hv hfg hPn (by omega) (by omega) hN hS rfl (fun d hd => ⟨(hz d hd).1, hbv d⟩)
    rw [if_pos cy]
    have e1 : f_X0_offer v (iI (P : Int)) (iI 0) (iI 100) s = some (v', s') := e1
    show k_OK (k_b2 (f_X0_offer v (iI (P : Int)) (iI 0) (iI 100) s) (fun v69 s69 => k_if (iI (((0 : Nat) : Int) : Int) = iI 0) (k_nm (iI (P : Int) + iI 1) fun y98 => g (v69, y98, s69)) (k_b2 (f_X0_offer v69 (iI (P : Int)) (iI (((0 : Nat) : Int) : Int)) (iI 100 - k_rd s69 16 5) s69) fun v94 s94 => k_nm (iI (P : Int) + iI 1) fun y98 => g (v94, y98, s94)))) _
    rw [e1, n_b2, n_ieq (by omega) (by omega), if_pos cy]
    simp only [iI_add, n_nm]
    refine hg _ (by omega) ⟨rfl, hF.tr hG, fun d hd => ?_⟩
    obtain ⟨w1, w2⟩ := hw d hd
    show s'.1 31 d = _ ∧ o_pl v' d = _
    rw [w1, w2, eam, ebv, (hz d hd).2]
    have := hbv d
    have hb := eB d
    unfold n_t0 at hb
    rw [if_pos cy] at hb
    by_cases e : d = 4 * N
    · rw [if_pos (show (d : Int) = 4 * (N : Int) + ((0 : Nat) : Int) by omega), if_pos (show (d : Int) = 4 * (N : Int) by omega), show S * (100 - 0) + S * 0 = S * 100 by omega] at hb
      rw [hb]
      by_cases q : n_bv (n_B m (fun p => vI x 14 p) f d) P < S * 100
      · have q1 : d = 4 * N ∧ n_bv (n_B m (fun p => vI x 14 p) f d) P < S * 100 := ⟨e, q⟩
        exact ⟨by rw [if_pos q1, if_pos q], by rw [if_pos q1, if_pos q]⟩
      · have q1 : ¬ (d = 4 * N ∧ n_bv (n_B m (fun p => vI x 14 p) f d) P < S * 100) := fun z => q z.2
        exact ⟨by rw [if_neg q1, if_neg q], by rw [if_neg q1, if_neg q]⟩
    · rw [if_neg (show ¬ (d : Int) = 4 * (N : Int) + ((0 : Nat) : Int) by omega), if_neg (show ¬ (d : Int) = 4 * (N : Int) by omega)] at hb
      rw [hb]
      have q1 : ¬ (d = 4 * N ∧ n_bv (n_B m (fun p => vI x 14 p) f d) P < S * 100) := fun z => e z.1
      have q2 : ¬ n_bv (n_B m (fun p => vI x 14 p) f d) P < 0 + 0 := by omega
      exact ⟨by rw [if_neg q1, if_neg q2], by rw [if_neg q1, if_neg q2]⟩
  · obtain ⟨v', s', e1, hG, hw⟩ := n_offer (s := s) (p := P) (y := 0) (C := 4 * N) (pc := vI m 0 23) (v0 := v) (u := fun d => n_bv (n_B m (fun p => vI x 14 p) f d) P) hxs hk hl hv hfg hPn (by omega) (by omega) hN hS rfl (fun d hd => ⟨(hz d hd).1, hbv d⟩)
    have hxs' : x_c s' = x := (n_frX hG (fun c hc k => by rw [hc]; rfl)).trans hxs
    have hSg := n_mulr hSr (show 0 ≤ vI m 0 23 ∧ vI m 0 23 ≤ 100 by omega)
    have hSh := n_mulr hSr (show 0 ≤ 100 - vI m 0 23 ∧ 100 - vI m 0 23 ≤ 100 by omega)
    obtain ⟨v2, s2, e2, hG2, hw2⟩ := n_offer (s := s') (p := P) (y := Y) (C := 4 * N + Y) (pc := 100 - vI m 0 23) (v0 := v') (u := fun d => if d = 4 * N ∧ n_bv (n_B m (fun p => vI x 14 p) f d) P < S * vI m 0 23 then S * vI m 0 23 else n_bv (n_B m (fun p => vI x 14 p) f d) P) hxs' hk hl hv hfg hPn (by omega) (by omega) hN hS rfl (fun d hd => ⟨(hw d hd).1, by
      have := hbv d
      show 0 ≤ (if d = 4 * N ∧ n_bv (n_B m (fun p => vI x 14 p) f d) P < S * vI m 0 23 then S * vI m 0 23 else n_bv (n_B m (fun p => vI x 14 p) f d) P) ∧ _ ≤ _
      split <;> omega⟩)
    rw [if_neg cy]
    have e1 : f_X0_offer v (iI (P : Int)) (iI 0) (iI (vI m 0 23)) s = some (v', s') := e1
    show k_OK (k_b2 (f_X0_offer v (iI (P : Int)) (iI 0) (k_rd s 16 5) s) (fun v69 s69 => k_if (iI (Y : Int) = iI 0) (k_nm (iI (P : Int) + iI 1) fun y98 => g (v69, y98, s69)) (k_b2 (f_X0_offer v69 (iI (P : Int)) (iI (Y : Int)) (iI 100 - k_rd s69 16 5) s69) fun v94 s94 => k_nm (iI (P : Int) + iI 1) fun y98 => g (v94, y98, s94)))) _
    rw [e5 s hxs, e1, n_b2, n_ieq (by omega) (by omega), if_neg cy, e5 s' hxs']
    simp only [iI_sub]
    rw [e2, n_b2]
    simp only [iI_add, n_nm]
    refine hg _ (by omega) ⟨rfl, (hF.tr hG).tr hG2, fun d hd => ?_⟩
    obtain ⟨w1, w2⟩ := hw d hd
    obtain ⟨x1, x2⟩ := hw2 d hd
    show s2.1 31 d = _ ∧ o_pl v2 d = _
    rw [x1, x2, w2, eam, ebv, (hz d hd).2]
    have := hbv d
    have hb := eB d
    unfold n_t0 at hb
    rw [if_neg cy] at hb
    by_cases e : d = 4 * N
    · rw [if_neg (show ¬ (d : Int) = 4 * (N : Int) + (Y : Int) by omega), if_pos (show (d : Int) = 4 * (N : Int) by omega), Int.zero_add] at hb
      rw [hb]
      have q0 : ¬ (d = 4 * N + Y ∧ (if d = 4 * N ∧ n_bv (n_B m (fun p => vI x 14 p) f d) P < S * vI m 0 23 then S * vI m 0 23 else n_bv (n_B m (fun p => vI x 14 p) f d) P) < S * (100 - vI m 0 23)) := fun z => absurd z.1 (by omega)
      by_cases q : n_bv (n_B m (fun p => vI x 14 p) f d) P < S * vI m 0 23
      · have q1 : d = 4 * N ∧ n_bv (n_B m (fun p => vI x 14 p) f d) P < S * vI m 0 23 := ⟨e, q⟩
        exact ⟨by rw [if_neg q0, if_pos q1, if_pos q], by rw [if_neg q0, if_pos q1, if_pos q]⟩
      · have q1 : ¬ (d = 4 * N ∧ n_bv (n_B m (fun p => vI x 14 p) f d) P < S * vI m 0 23) := fun z => q z.2
        exact ⟨by rw [if_neg q0, if_neg q1, if_neg q], by rw [if_neg q0, if_neg q1, if_neg q]⟩
    · have q1 : ¬ (d = 4 * N ∧ n_bv (n_B m (fun p => vI x 14 p) f d) P < S * vI m 0 23) := fun z => e z.1
      rw [if_neg (show ¬ (d : Int) = 4 * (N : Int) by omega), Int.add_zero] at hb
      rw [if_neg q1, if_neg q1, hb]
      by_cases e2 : d = 4 * N + Y
      · rw [if_pos (show (d : Int) = 4 * (N : Int) + (Y : Int) by omega)] at hb ⊢
        by_cases q : n_bv (n_B m (fun p => vI x 14 p) f d) P < S * (100 - vI m 0 23)
        · have q2 : d = 4 * N + Y ∧ n_bv (n_B m (fun p => vI x 14 p) f d) P < S * (100 - vI m 0 23) := ⟨e2, q⟩
          exact ⟨by rw [if_pos q2, if_pos q], by rw [if_pos q2, if_pos q]⟩
        · have q2 : ¬ (d = 4 * N + Y ∧ n_bv (n_B m (fun p => vI x 14 p) f d) P < S * (100 - vI m 0 23)) := fun z => q z.2
          exact ⟨by rw [if_neg q2, if_neg q], by rw [if_neg q2, if_neg q]⟩
      · have q2 : ¬ (d = 4 * N + Y ∧ n_bv (n_B m (fun p => vI x 14 p) f d) P < S * (100 - vI m 0 23)) := fun z => e2 z.1
        have q3 : ¬ n_bv (n_B m (fun p => vI x 14 p) f d) P < 0 := by omega
        rw [if_neg (show ¬ (d : Int) = 4 * (N : Int) + (Y : Int) by omega)]
        exact ⟨by rw [if_neg q2, if_neg q3], by rw [if_neg q2, if_neg q3]⟩
