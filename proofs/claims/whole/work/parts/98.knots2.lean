/-! knots: the reference, and both -/
theorem n_comesAs {s : k_St} {g : Int} {nn w c : Nat} (hg : 0 ≤ g ∧ g ≤ 99) (hn : nn ≤ 3) (hw : w < 8) (hc : c < 8) (h5 : s.1 0 23 = iI g) : f_X12_comesAs (iI nn) (iI w) (iI c) s = some (iL (n_ckp g w c nn)) := by
  unfold f_X12_comesAs
  simp only [iI_lit]
  refine ok_eq.mp (ok_for nn (fun t (y : Int64 × Int32) => y = (iL (n_ckp g w c t), iI t)) ?_ (by omega) (j := 0) rfl (by omega))
  rintro gg t _ rfl ht hg2
  show k_OK (k_if _ _ _) _
  rw [n_ile (by omega) (by omega)]
  by_cases c0 : (nn : Int) ≤ t
  · rw [if_pos c0, ok_some, show t = nn by omega]
  have hb1 := Nat.mod_lt (w / 2 ^ t) (show 0 < 2 by omega)
  have hb2 := Nat.mod_lt (c / 2 ^ t) (show 0 < 2 by omega)
  have es : n_ckp g w c (t + 1) = n_ckp g w c t * n_ckf g w c t := rfl
  have ef : n_ckf g w c t = if w / 2 ^ t % 2 = 1 then (if c / 2 ^ t % 2 = 1 then 100 - g else g) else (if c / 2 ^ t % 2 = 1 then 0 else 100) := rfl
  rw [if_neg c0, n_has8 hw (by omega), n_bd, n_has8 hc (by omega), n_bd, n_bd, n_ieq (by omega) (by omega), n_ieq (by omega) (by omega), show k_rd s 0 23 = _ from h5, iI_sub, iI_l (by omega), iI_l (by omega), show (100 : Int64) = iL 100 from rfl, show (0 : Int64) = iL 0 from rfl, iL_mul, iL_mul, iL_mul, iL_mul, n_ieq (by omega) (by omega)]
  by_cases c1 : w / 2 ^ t % 2 = 1
  · rw [if_pos c1] at ef
    rw [if_neg (by omega)]
    by_cases c2 : c / 2 ^ t % 2 = 1
    · rw [if_pos c2] at ef
      rw [if_neg (by omega), ok_nm, ok_nm, iI_add]
      exact hg2 _ (by omega) (by rw [es, ef]; rfl)
    · rw [if_neg c2] at ef
      rw [if_pos (by omega), ok_nm, ok_nm, iI_add]
      exact hg2 _ (by omega) (by rw [es, ef]; rfl)
  · rw [if_neg c1] at ef
    rw [if_pos (by omega)]
    by_cases c2 : c / 2 ^ t % 2 = 1
    · rw [if_pos c2] at ef
      rw [if_neg (by omega), ok_nm, ok_nm, iI_add]
      exact hg2 _ (by omega) (by rw [es, ef]; rfl)
    · rw [if_neg c2] at ef
      rw [if_pos (by omega), ok_nm, ok_nm, iI_add]
      exact hg2 _ (by omega) (by rw [es, ef]; rfl)
def i_SK (c : Nat) : Prop := c = 9 ∨ c = 10 ∨ c = 27
theorem i_SK_s : ∀ c, i_SK c → ∀ k, m_scr c k = true := fun c hc k => by
  rcases hc with rfl | rfl | rfl <;> rfl
/-- what each place brings for a look and a word, in the reference -/
def n_KB (m : k_St) (V : Nat → Int) (nn : Nat) (f : Nat → Nat) (c p : Nat) : Int := if n_lN m (vI m 0 26) p = c / 8 ∧ c % 8 < 2 ^ nn then n_ckp (vI m 0 23) (f (n_hN m (vI m 0 27) p)) (c % 8) nn * vI m 13 (4 * p) * V p else 0
theorem n_knotSum {σ m : k_St} {n nn a : Nat} {V : Nat → Int} {f : Nat → Nat} (ha : k_nM a = 4) (ha2 : ¬ i_SK a) (hm : m_c σ = m) (hk : n_mk m n V) (hnn : 1 ≤ nn ∧ nn ≤ 3) (hf : ∀ t, t < 4 → σ.1 a t = iI (f t) ∧ f t < 2 ^ nn) : k_OK (f_X12_knotSum (iI nn) a σ) (fun r => r.1 = iL (n_sum (fun c => n_bv (n_KB m V nn f c) n) 32) ∧ n_Fr i_SK σ r.2) := by
  have hn6 := hk.2.1
  have hp8 := n_p8 hnn
  have hg := hk.2.2.1
  have h100 := n_h100_r hnn.2
  unfold f_X12_knotSum
  rw [ha]
  simp only [iI_lit]
  refine ok_for 192 (fun j (z : Int32 × k_St) => z.1 = iI j ∧ n_Fr i_SK σ z.2 ∧ ∀ t, t < j → z.2.2 27 t = iL 0) ?_ (by omega) (j := 0) ⟨rfl, n_Fr.rf, fun t ht => absurd ht (by omega)⟩ (by omega)
  rintro g0 j ⟨v, s⟩ ⟨hv, hF, hz⟩ hj hg0
  have hv : v = iI j := hv
  subst hv
  have hF : n_Fr i_SK σ s := hF
  have hz : ∀ t, t < j → s.2 27 t = iL 0 := hz
  show k_OK (k_if _ _ _) _
  rw [n_ile (by omega) (by omega)]
  by_cases c0 : (192 : Int) ≤ j
  rotate_left
  · rw [if_neg c0, n_gix (by omega) (by omega), iI_cl (by omega), Int.toNat_natCast, ok_nm, ok_nm, iI_add]
    refine hg0 _ (by omega) ⟨rfl, hF.wl (Or.inr (Or.inr rfl)), fun t ht => ?_⟩
    show (k_wl s 27 j 0).2 27 t = _
    by_cases e : t = j
    · rw [e, wl_s]
      rfl
    · rw [wl_k e]
      exact hz t (by omega)
  rw [if_pos c0]
  clear hg0
  refine ok_for n (fun P (z : Int32 × k_St) => z.1 = iI P ∧ n_Fr i_SK σ z.2 ∧ ∀ c p, c < 32 → p < 6 → z.2.2 27 (6 * c + p) = iL (if p < P then n_KB m V nn f c p else 0)) ?_ (by omega) (j := 0) ⟨rfl, hF, fun c p hc hp => by
    rw [if_neg (by omega)]
    exact hz _ (by omega)⟩ (by omega)
  clear hF hz
  rintro g P ⟨v, s⟩ ⟨hv, hF, hz⟩ hP hgg
  have hv : v = iI P := hv
  subst hv
  have hF : n_Fr i_SK σ s := hF
  have hz : ∀ c p, c < 32 → p < 6 → s.2 27 (6 * c + p) = iL (if p < P then n_KB m V nn f c p else 0) := hz
  have hms : m_c s = m := (n_frM hF i_SK_s).trans hm
  show k_OK (k_if _ _ _) _
  rw [n_core_I hms (c := 0) (k := 21) rfl, hk.1, n_ile (by omega) (by omega)]
  have hKBr : ∀ c p, p < n → 0 ≤ n_KB m V nn f c p ∧ n_KB m V nn f c p ≤ 8991000000 := fun c p hp => by
    obtain ⟨⟨a1, _, _⟩, _, a2⟩ := hk.2.2.2.2 p hp
    have a3 := n_ckp_r hg (f (n_hN m (vI m 0 27) p)) (c % 8) nn
    have a4 := n_mulr (n_mulr (show 0 ≤ n_ckp (vI m 0 23) (f (n_hN m (vI m 0 27) p)) (c % 8) nn ∧ n_ckp (vI m 0 23) (f (n_hN m (vI m 0 27) p)) (c % 8) nn ≤ 1000000 by omega) a1) a2
    unfold n_KB
    split <;> omega
  by_cases c1 : (n : Int) ≤ P
  · rw [if_pos c1]
    have hz : ∀ c p, c < 32 → p < n → k_rl s 27 (6 * c + p) = iL (n_KB m V nn f c p) := fun c p hc hp => by
      show s.2 27 _ = _
      rw [hz c p hc (by omega), if_pos (by omega)]
    clear hgg
    refine ok_for 32 (fun c (y : Int64 × Int32) => y = (iL (n_sum (fun c => n_bv (n_KB m V nn f c) n) c), iI c)) ?_ (by omega) (j := 0) rfl (by omega)
    rintro g2 c _ rfl hc hg2
    show k_OK (k_if _ _ _) _
    rw [n_ile (by omega) (by omega)]
    by_cases c2 : (32 : Int) ≤ c
    · rw [if_pos c2, ok_some, show c = 32 by omega]
      exact ⟨rfl, hF⟩
    rw [if_neg c2]
    refine ok_for n (fun p (y : Int64 × Int32) => y = (iL (n_bv (n_KB m V nn f c) p), iI p)) ?_ (by omega) (j := 0) rfl (by omega)
    rintro g3 p _ rfl hp hg3
    show k_OK (k_if _ _ _) _
    rw [n_ile (by omega) (by omega)]
    by_cases c3 : (n : Int) ≤ p
    · rw [if_pos c3, iL_add, ok_nm, ok_nm, iI_add, show p = n by omega]
      exact hg2 _ (by omega) rfl
    have hpn : p < n := by omega
    have hb := n_bv_r (F := n_KB m V nn f c) (n := n) (b := 8991000000) (fun q hq => hKBr c q hq) (by omega) p (by omega)
    have hv := hKBr c p hpn
    rw [if_neg c3, iI_mul, iI_add, n_gix (by omega) (by omega), iI_cl (by omega), show (6 * (c : Int) + (p : Int)).toNat = 6 * c + p by omega, hz c p (by omega) hpn, iL_max (by omega) (by omega), ok_nm, ok_nm, iI_add]
    refine hg3 _ (by omega) ?_
    rw [n_bv_s]
    rfl
  rw [if_neg c1]
  have hPn : P < n := by omega
  obtain ⟨⟨p1, p2, p3⟩, p4, p5⟩ := hk.2.2.2.2 P hPn
  have hh := hk.hd hPn (vI m 0 27)
  have hs := hk.sn hPn (vI m 0 26)
  refine ok_for (2 ^ nn) (fun A (z : Int32 × k_St) => z.1 = iI A ∧ n_Fr i_SK σ z.2 ∧ ∀ c p, c < 32 → p < 6 → z.2.2 27 (6 * c + p) = iL (if p < P ∨ p = P ∧ c % 8 < A then n_KB m V nn f c p else 0)) ?_ (by omega) (j := 0) ⟨rfl, hF, fun c p hc hp => by
    show s.2 27 _ = _
    rw [hz c p hc hp]
    congr 1
    by_cases e : p < P
    · rw [if_pos e, if_pos (Or.inl e)]
    · rw [if_neg e, if_neg (by omega)]⟩ (by omega)
  clear hF hz hms
  rintro g2 A ⟨v, s⟩ ⟨hv, hF, hz⟩ hA hg2
  have hv : v = iI A := hv
  subst hv
  have hF : n_Fr i_SK σ s := hF
  have hz : ∀ c p, c < 32 → p < 6 → s.2 27 (6 * c + p) = iL (if p < P ∨ p = P ∧ c % 8 < A then n_KB m V nn f c p else 0) := hz
  have hms : m_c s = m := (n_frM hF i_SK_s).trans hm
  show k_OK (k_if _ _ _) _
  rw [n_shl (by omega), n_ile (by omega) (by omega)]
  by_cases c2 : ((2 ^ nn : Nat) : Int) ≤ A
  · rw [if_pos c2, ok_nm, iI_add]
    refine hgg _ (by omega) ⟨rfl, hF, fun c p hc hp => ?_⟩
    show s.2 27 _ = _
    rw [hz c p hc hp]
    congr 1
    by_cases e : p < P ∨ p = P ∧ c % 8 < A
    · rw [if_pos e, if_pos (by omega)]
    · rw [if_neg e]
      by_cases e2 : p < P + 1
      · rw [if_pos e2]
        unfold n_KB
        rw [if_neg (fun q => e (Or.inr ⟨by omega, by omega⟩))]
      · rw [if_neg e2]
  obtain ⟨H, hH⟩ := Int.eq_ofNat_of_zero_le hh.1
  obtain ⟨N, hN⟩ := Int.eq_ofNat_of_zero_le hs.1
  have eHN : n_hN m (vI m 0 27) P = H := by unfold n_hN; omega
  have eNN : n_lN m (vI m 0 26) P = N := by unfold n_lN; omega
  have hfH := hf H (by omega)
  have ea : k_rd s a H = iI (f H : Nat) := by
    show s.1 a H = _
    rw [(hF a ha2).1, hfH.1]
  obtain ⟨s', e1, e2, hG⟩ := n_worthAt (σ := s) (p := P) (v := V P) (by omega) (by rw [hms]; exact hk.2.2.2.1) (by rw [hms]; exact p4)
  have ew : f_X12_of (iI (P : Int)) (iI 0) s = some (iI (vI m 13 (4 * P))) := by
    rw [show iI 0 = iI ((0 : Nat) : Int) from rfl, n_of (by omega) (by omega)]
    exact congrArg some (n_core_I hms (c := 13) (k := 4 * P) rfl)
  have e23 : s.1 0 23 = iI (vI m 0 23) := n_core_I hms rfl
  have hckr := n_ckp_r hg (f H) A nn
  have hKB : n_KB m V nn f (8 * N + A) P = n_ckp (vI m 0 23) (f H) A nn * vI m 13 (4 * P) * V P := by
    unfold n_KB
    rw [eHN, eNN, show (8 * N + A) / 8 = N by omega, show (8 * N + A) % 8 = A by omega, if_pos ⟨rfl, by omega⟩]
  have e27 : k_rl s 27 (6 * (8 * N + A) + P) = iL 0 := by
    show s.2 27 _ = _
    rw [hz (8 * N + A) P (by omega) (by omega), if_neg (by omega)]
  rw [if_neg c2, n_seenM (by omega), n_bd, hms, hN, iI_mul, iI_add, iI_mul, iI_add, ok_nm, n_gix (by omega) (by omega), n_heardM (by omega), n_bd, hms, hH, n_gix (by omega) (by omega), iI_cl (by omega), Int.toNat_natCast, ea, n_comesAs hg hnn.2 (by omega) (by omega) e23, n_bd, ew, n_bd, e1, n_b2, n_gix (by omega) (by omega), iI_cl (by omega), show (6 * (8 * (N : Int) + (A : Int)) + (P : Int)).toNat = 6 * (8 * N + A) + P by omega, e27, iI_l (by omega), iI_l (by omega), iL_mul, iL_mul, iL_add, Int.zero_add, ← hKB, ok_nm, ok_nm, iI_add]
  refine hg2 _ (by omega) ⟨rfl, (hF.tr (hG.mono (fun c hc => hc.elim Or.inl (fun q => Or.inr (Or.inl q))))).wl (Or.inr (Or.inr rfl)), fun c p hc hp => ?_⟩
  show (k_wl s' 27 (6 * (8 * N + A) + P) (iL (n_KB m V nn f (8 * N + A) P))).2 27 (6 * c + p) = _
  by_cases e : c = 8 * N + A ∧ p = P
  · rw [e.1, e.2, wl_s, if_pos (by omega)]
  · rw [wl_k (by omega), (hG 27 (by decide)).2, hz c p hc hp]
    congr 1
    by_cases q : p < P ∨ p = P ∧ c % 8 < A
    · rw [if_pos q, if_pos (by omega)]
    · rw [if_neg q]
      by_cases q2 : p < P ∨ p = P ∧ c % 8 < A + 1
      · rw [if_pos q2]
        unfold n_KB
        rw [if_neg (fun r => by
          have hp : p = P := by omega
          rw [hp, eNN] at r
          omega)]
      · rw [if_neg q2]
/-- both reckon alike -/
theorem n_SM_K {m : k_St} {n nn : Nat} {V : Nat → Int} {f : Nat → Nat} (hk : n_mk m n V) (hnn : 1 ≤ nn ∧ nn ≤ 3) (hf : ∀ s, s < 4 → f s < 2 ^ nn) : n_SM n (n_hN m (vI m 0 27)) (n_lN m (vI m 0 26)) (n_sN m V) (n_ck (vI m 0 23) nn) f 4 = n_sum (fun c => n_bv (n_KB m V nn f c) n) 32 := by
  have hp8 := n_p8 hnn
  unfold n_SM n_cB
  refine n_sum_c (fun c hc => n_bv_c (fun p hp => ?_))
  have hh := hk.hd hp (vI m 0 27)
  have hh4 : n_hN m (vI m 0 27) p < 4 := by unfold n_hN; omega
  have hfp := hf _ hh4
  unfold n_cv n_KB n_ck n_sN
  generalize n_hN m (vI m 0 27) p = H at *
  generalize n_lN m (vI m 0 26) p = N at *
  by_cases c1 : N = c / 8
  · rw [if_pos ⟨hh4, c1⟩]
    by_cases c2 : f H < c % 8
    · rw [if_pos c2, Int.mul_zero]
      by_cases c3 : c % 8 < 2 ^ nn
      · rw [if_pos ⟨c1, c3⟩, n_ckp_w hnn.2 (by omega) c3 c2, Int.zero_mul, Int.zero_mul]
      · rw [if_neg (fun q => c3 q.2)]
    · rw [if_neg c2, if_pos ⟨c1, by omega⟩, Int.mul_assoc (n_ckp _ _ _ _), Int.mul_comm]
  · rw [if_neg (fun q => c1 q.2), if_neg (fun q => c1 q.1)]
set_option maxRecDepth 20000 in
theorem q_s30 : g_s30 z_Inv := by
  intro σX σM hI a0 a1 a2
  obtain ⟨a, ha, rfl⟩ := iI_ex a0
  obtain ⟨b, hb, rfl⟩ := iI_ex a1
  obtain ⟨z, hz, rfl⟩ := iI_ex a2
  obtain ⟨x, hx, hR⟩ := z_openX hI
  obtain ⟨hTap, hLak, hNow, hImg, hShf, hSee, hLrn, hLaw, hVal⟩ := id hR
  obtain ⟨l1, l2, l3, l4, l5, l6⟩ := id hLak
  obtain ⟨h1, h2, h3, h4, h5, h6, h7, h8⟩ := id hNow
  obtain ⟨n, hk⟩ := hR.mk
  have b1 := l1.2
  have k1 := hk.1
  have hn6 := hk.2.1
  have f2 : k_rd σM 0 21 = iI (vI (m_c σM) 0 21) := n_core_I rfl rfl
  unfold f_X11_knots f_X12_knots f_X11_isPart
  simp (disch := omega) only [iI_lit, n_lk hx (n_vI l1.1) l1.2, n_bd, f2, n_ib, n_ieq, n_in, n_within, n_gdt n_isB]
  by_cases c0 : 0 < vI (m_c σM) 0 21
  rotate_left
  · rw [if_neg c0, if_pos (show vI (m_c σM) 0 21 = 0 by omega)]
    exact ⟨_, _, _, rfl, rfl, hI⟩
  rw [if_pos c0, if_neg (show ¬ vI (m_c σM) 0 21 = 0 by omega)]
  by_cases c1 : 1 ≤ a ∧ a ≤ 3
  rotate_left
  · rw [if_neg c1, if_neg c1]
    exact ⟨_, _, _, rfl, rfl, hI⟩
  rw [if_pos c1, if_pos c1]
  obtain ⟨nn, rfl⟩ := Int.eq_ofNat_of_zero_le (show 0 ≤ a by omega)
  have hnn : 1 ≤ nn ∧ nn ≤ 3 := by omega
  have hp8 := n_p8 hnn
  rw [n_shl (by omega)]
  obtain ⟨⟨u, s1⟩, e1, hu, hF1, hA1⟩ := n_spread (σ := σM) (a := 28) rfl (z := b) (k := ((2 ^ nn : Nat) : Int)) hb (by omega)
  have hu : u = iB (n_okd b ((2 ^ nn : Nat) : Int) 4) := hu
  have hF1 : n_Fr (fun c => c = 28) σM s1 := hF1
  have hm1 : m_c s1 = m_c σM := n_frM hF1 (fun c hc k => by rw [hc]; rfl)
  by_cases c3 : 0 ≤ z ∧ z ≤ 1
  rotate_left
  · rw [if_neg c3, if_neg c3]
    by_cases c2 : 0 ≤ b ∧ b ≤ 9999
    · rw [if_pos c2]
      exact ⟨_, _, _, rfl, rfl, hI⟩
    · rw [if_neg c2]
      exact ⟨_, _, _, rfl, rfl, hI⟩
  rw [if_pos c3, if_pos c3, e1, n_b2, hu, n_ib]
  by_cases c2 : 0 ≤ b ∧ b ≤ 9999
  rotate_left
  · rw [if_neg c2, if_neg (fun q => c2 ⟨(n_okd4.mp q).1, (n_okd4.mp q).2.1⟩)]
    exact ⟨_, _, _, rfl, rfl, z_close hx hm1 hR⟩
  rw [if_pos c2]
  have hA1 : ∀ s, s < 4 → s1.1 28 s = iI (n_d4 b s) := hA1 c2
  obtain ⟨⟨r, sX⟩, e2, hxX, e33, hcase⟩ := n_knotsX hx hk hLak hVal h4.1 h5.1 h6.1 hnn c2
  have hxX : x_c sX = x := hxX
  have e33 : sX.2 33 2 = iL (n_h100 nn) := e33
  have hW := (l4 c0).2.2
  rw [k1, Int.toNat_natCast] at hW
  have hsr : 0 ≤ m_sW (m_c σM) n ∧ m_sW (m_c σM) n ≤ n * 9 := n_sum_r (f := fun p => vI (m_c σM) 13 (4 * p)) (b := 9) (n := n) (fun p hp => (hk.2.2.2.2 p hp).1.1)
  have h100 := n_h100_r hnn.2
  rw [e2, n_b2]
  rcases hcase with ⟨hd, hr⟩ | ⟨⟨t, ht, hd⟩, hr⟩
  rotate_left
  · have hr : r = iL (-1) := hr
    rw [hr, show (-1 : Int64) = iL (-1) from rfl, n_lc0 (by omega) (by omega), if_pos rfl, if_neg (fun q => hd ((n_okd4.mp q).2.2 t ht))]
    exact ⟨_, _, _, rfl, rfl, z_close hxX hm1 hR⟩
  have hr : r = _ := hr
  have hfs : ∀ s, s < 4 → s1.1 28 s = iI (((n_d4 b s).toNat : Nat) : Int) ∧ (n_d4 b s).toNat < 2 ^ nn := fun s hs => by
    have := n_d4r c2 s
    have := hd s hs
    refine ⟨?_, by omega⟩
    rw [hA1 s hs]
    congr 1
    omega
  obtain ⟨⟨r2, s2⟩, e3, hr2, hF2⟩ := n_knotSum (σ := s1) (a := 28) (f := fun s => (n_d4 b s).toNat) rfl (by unfold i_SK; omega) hm1 hk hnn hfs
  have hr2 : r2 = _ := hr2
  have hF2 : n_Fr i_SK s1 s2 := hF2
  have hm2 : m_c s2 = m_c σM := (n_frM hF2 i_SK_s).trans hm1
  have eSK := n_SM_K (f := fun s => (n_d4 b s).toNat) hk hnn (fun s hs => (hfs s hs).2)
  have hSr := n_SM_r (n_pRk (V := fun p => vI x 14 p) hk hnn (vI (m_c σM) 0 26) (vI (m_c σM) 0 27)) (f := fun s => (n_d4 b s).toNat) (L := 4) (fun s hs => by have := (hfs s hs).2; omega)
  rw [eSK] at hr hSr
  obtain ⟨A, hA⟩ := Int.eq_ofNat_of_zero_le hSr.1
  rw [hA] at hr hr2 hSr
  obtain ⟨W, hW2⟩ : ∃ W : Nat, m_sW (m_c σM) n * n_h100 nn = (W : Int) := Int.eq_ofNat_of_zero_le (Int.mul_nonneg hsr.1 (by omega))
  have hWr := n_mulr (show 0 ≤ m_sW (m_c σM) n ∧ m_sW (m_c σM) n ≤ 54 by omega) (show 0 ≤ n_h100 nn ∧ n_h100 nn ≤ 1000000 by omega)
  have hW0 : 0 < m_sW (m_c σM) n * n_h100 nn := Int.mul_pos hW (by omega)
  have eW : k_rd sX 12 2 = iI (m_sW (m_c σM) n) := by
    rw [n_core_I hxX rfl, l5, k1, Int.toNat_natCast]
  rw [hr, show (-1 : Int64) = iL (-1) from rfl, n_lc0 (by omega) (by omega), if_neg (by omega), if_pos (show n_okd b ((2 ^ nn : Nat) : Int) 4 from n_okd4.mpr ⟨c2.1, c2.2, hd⟩), e3, n_b2, hr2, n_belowBy hm2 hk hnn.2, n_bd, show k_rl sX 33 2 = _ from e33, eW, iI_l (by omega), iL_mul, Int.mul_comm (n_h100 nn), hW2, n_plainX (by omega) (by omega) c3, n_bd, n_plainLong (by omega) (by omega) c3, n_bd]
  exact ⟨_, _, _, rfl, rfl, z_close hxX hm2 hR⟩
theorem n_nth2 {σ : k_St} {a j k : Nat} (ha : k_nM a = 4) (hk : 1 ≤ k ∧ k ≤ 8) (hj : j < 4096) : k_OK (f_X12_nth (iI j) (iI k) a σ) (fun s => n_Fr (fun c => c = a) σ s ∧ ∀ t, t < 4 → s.1 a t = iI (n_dk k j t : Nat)) := by
  unfold f_X12_nth
  rw [ha]
  simp only [iI_lit]
  have hk0 : ¬ iI (k : Int) = 0 := fun q => by
    have := (iI_eq (a := k) (b := 0) (by omega) (by omega)).mp q
    omega
  refine ok_for 4 (fun t (y : Int32 × Int32 × k_St) => y.1 = iI (j / k ^ t : Nat) ∧ y.2.1 = iI (3 - (t : Int)) ∧ n_Fr (fun c => c = a) σ y.2.2 ∧ ∀ u, u < 4 → 4 - t ≤ u → y.2.2.1 a u = iI (n_dk k j u : Nat)) ?_ (by omega) (j := 0) ⟨by show iI (j : Int) = _; rw [Nat.pow_zero, Nat.div_one], rfl, n_Fr.rf, fun u h1 h2 => absurd h2 (by omega)⟩ (by omega)
  rintro g t ⟨v, i, s⟩ ⟨h1, h2, hF, hz⟩ ht hg
  have h1 : v = iI (j / k ^ t : Nat) := h1
  have h2 : i = iI (3 - (t : Int)) := h2
  subst h1
  subst h2
  have hF : n_Fr (fun c => c = a) σ s := hF
  have hz : ∀ u, u < 4 → 4 - t ≤ u → s.1 a u = iI (n_dk k j u : Nat) := hz
  show k_OK (k_if _ _ _) _
  rw [n_ilt (by omega) (by omega)]
  by_cases c : 3 - (t : Int) < 0
  · rw [if_pos c, ok_some]
    exact ⟨hF, fun u hu => hz u hu (by omega)⟩
  have hle : j / k ^ t ≤ j := Nat.div_le_self _ _
  have hdd : j / k ^ t / k = j / k ^ (t + 1) := by
    rw [Nat.div_div_eq_div_mul, ← Nat.pow_succ]
  have hdk : ∀ u, u = 3 - t → n_dk k j u = j / k ^ t % k := fun u hu => by
    unfold n_dk
    rw [show 3 - u = t by omega]
  generalize j / k ^ t = q at *
  rw [if_neg c, n_gdt (show ¬ iI (k : Int) = iI 0 from hk0), n_gix (by omega) (by omega), iI_cl (by omega), iI_rem2 (by omega) (by omega), ok_nm, n_gdt (show ¬ iI (k : Int) = iI 0 from hk0), iI_div2 (by omega) (by omega), ok_nm, ok_nm]
  refine hg _ (by omega) ⟨?_, ?_, hF.wr rfl, fun u hu hu2 => ?_⟩
  · show iI ((q : Int).tdiv k) = _
    rw [show (q : Int).tdiv k = ((q / k : Nat) : Int) from rfl, hdd]
  · show iI (3 - (t : Int)) + -iI 1 = _
    rw [iI_neg, iI_add]
    congr 1
    omega
  · show (k_wr s a (3 - (t : Int)).toNat (iI ((q : Int).tmod k))).1 a u = _
    by_cases e : u = 3 - t
    · rw [show (3 - (t : Int)).toNat = u by omega, wr_s]
      rw [hdk u e]
      rfl
    · rw [wr_k (by omega)]
      exact hz u hu (by omega)
theorem n_sh4D : ∀ n, n < 4 → 1 ≤ n → o_shl 1 (nI (4 * n)) = nI ((2 ^ n) ^ 4) ∧ (2 ^ n) ^ 4 ≤ 4096 := by decide +kernel
set_option maxRecDepth 20000 in
theorem q_s31 : g_s31 z_Inv := by
  intro σX σM hI a0 a1
  obtain ⟨a, ha, rfl⟩ := iI_ex a0
  obtain ⟨z, hz, rfl⟩ := iI_ex a1
  obtain ⟨x, hx, hR⟩ := z_openX hI
  obtain ⟨hTap, hLak, hNow, hImg, hShf, hSee, hLrn, hLaw, hVal⟩ := id hR
  obtain ⟨l1, l2, l3, l4, l5, l6⟩ := id hLak
  obtain ⟨h1, h2, h3, h4, h5, h6, h7, h8⟩ := id hNow
  obtain ⟨n, hk⟩ := hR.mk
  have b1 := l1.2
  have k1 := hk.1
  have hn6 := hk.2.1
  have f2 : k_rd σM 0 21 = iI (vI (m_c σM) 0 21) := n_core_I rfl rfl
  unfold f_X11_bestKnots f_X12_bestKnots
  simp (disch := omega) only [iI_lit, n_lk hx (n_vI l1.1) l1.2, n_bd, f2, n_ib, n_ieq, n_in, n_within]
  by_cases c0 : 0 < vI (m_c σM) 0 21
  rotate_left
  · rw [if_neg c0, if_pos (show vI (m_c σM) 0 21 = 0 by omega)]
    exact ⟨_, _, _, rfl, rfl, hI⟩
  rw [if_pos c0, if_neg (show ¬ vI (m_c σM) 0 21 = 0 by omega)]
  by_cases c1 : 1 ≤ a ∧ a ≤ 3
  rotate_left
  · rw [if_neg c1, if_neg c1]
    exact ⟨_, _, _, rfl, rfl, hI⟩
  rw [if_pos c1, if_pos c1]
  by_cases c2 : 0 ≤ z ∧ z ≤ 2
  rotate_left
  · rw [if_neg c2, if_neg c2]
    exact ⟨_, _, _, rfl, rfl, hI⟩
  rw [if_pos c2, if_pos c2]
  obtain ⟨nn, rfl⟩ := Int.eq_ofNat_of_zero_le (show 0 ≤ a by omega)
  have hnn : 1 ≤ nn ∧ nn ≤ 3 := by omega
  have hp8 := n_p8 hnn
  have h100 := n_h100_r hnn.2
  obtain ⟨hs1, hs2⟩ := n_sh4D nn (by omega) hnn.1
  have e41 : o_shl (iI 1) (iI 4 * iI (nn : Int)) = iI (((2 ^ nn) ^ 4 : Nat) : Int) := by
    rw [iI_mul, show 4 * (nn : Int) = ((4 * nn : Nat) : Int) by omega, ← iI_nat, ← iI_nat]
    exact hs1
  have hKp : 0 < (2 ^ nn) ^ 4 := Nat.pos_of_ne_zero (by
    have := Nat.one_le_pow 4 (2 ^ nn) (by omega)
    omega)
  obtain ⟨sX, e1, hF1, e33, t1, t2⟩ := n_byK (σ := σX) hx hk hLak hVal h4.1 h5.1 h6.1 hnn
  have hxX : x_c sX = x := (n_frX hF1 i_SR_s).trans hx
  have hr := n_pRk (V := fun p => vI x 14 p) hk hnn (vI (m_c σM) 0 26) (vI (m_c σM) 0 27)
  have hWr := n_Wj_r hr
  have hWK : ∀ j, n_Wj n (2 ^ nn) (n_hN (m_c σM) (vI (m_c σM) 0 27)) (n_lN (m_c σM) (vI (m_c σM) 0 26)) (n_sN (m_c σM) (fun p => vI x 14 p)) (n_ck (vI (m_c σM) 0 23) nn) j = n_sum (fun c => n_bv (n_KB (m_c σM) (fun p => vI x 14 p) nn (n_dk (2 ^ nn) j) c) n) 32 := fun j => n_SM_K hk hnn (fun s hs => n_dk_lt hp8.1 j s)
  generalize n_Wj n (2 ^ nn) (n_hN (m_c σM) (vI (m_c σM) 0 27)) (n_lN (m_c σM) (vI (m_c σM) 0 26)) (n_sN (m_c σM) (fun p => vI x 14 p)) (n_ck (vI (m_c σM) 0 23) nn) = Wj at *
  have hbb := n_bm_b (b := 287712000000) (by omega) hWr ((2 ^ nn) ^ 4)
  have hb0 := n_bm_0 (fun j => (hWr j).1) hKp
  obtain ⟨A, hA⟩ := Int.eq_ofNat_of_zero_le hb0
  have hW := (l4 c0).2.2
  rw [k1, Int.toNat_natCast] at hW
  have hsr : 0 ≤ m_sW (m_c σM) n ∧ m_sW (m_c σM) n ≤ n * 9 := n_sum_r (f := fun p => vI (m_c σM) 13 (4 * p)) (b := 9) (n := n) (fun p hp => (hk.2.2.2.2 p hp).1.1)
  obtain ⟨W, hW2⟩ : ∃ W : Nat, m_sW (m_c σM) n * n_h100 nn = (W : Int) := Int.eq_ofNat_of_zero_le (Int.mul_nonneg hsr.1 (by omega))
  have hWr2 := n_mulr (show 0 ≤ m_sW (m_c σM) n ∧ m_sW (m_c σM) n ≤ 54 by omega) (show 0 ≤ n_h100 nn ∧ n_h100 nn ≤ 1000000 by omega)
  have hW0 : 0 < m_sW (m_c σM) n * n_h100 nn := Int.mul_pos hW (by omega)
  have eW : k_rd sX 12 2 = iI (m_sW (m_c σM) n) := by
    rw [n_core_I hxX rfl, l5, k1, Int.toNat_natCast]
  rw [e1, n_bd, n_nm, e41]
  obtain ⟨Z, hZ⟩ : ∃ Z : Int64, Z = if z = 0 then (iI (n_cd (2 ^ nn) (n_bs Wj ((2 ^ nn) ^ 4)))).toInt64 else iL (n_fr A W (z - 1) : Nat) := ⟨_, rfl⟩
  have hX : (if z = 0 then some ((k_rd sX 33 1).toInt64, sX) else k_bd (f_X11_plain (k_rl sX 33 0) ((k_rl sX 33 2) * (k_rd sX 12 2).toInt64) (iI z - iI 1)) fun v78 => some (v78, sX)) = some (Z, sX) := by
    rw [show k_rd sX 33 1 = _ from t2, show k_rl sX 33 0 = _ from t1, show k_rl sX 33 2 = _ from e33, eW, show (iI (m_sW (m_c σM) n)).toInt64 = iL (m_sW (m_c σM) n) from iI_l (by omega), iL_mul, Int.mul_comm (n_h100 nn), hW2, hA, hZ]
    by_cases c3 : z = 0
    · rw [if_pos c3, if_pos c3]
    · rw [if_neg c3, if_neg c3, iI_sub, n_plainX (by omega) (by omega) (by omega), n_bd]
  rw [hX]
  suffices hh : k_OK (k_loop (fun (g46 : Int64 × Int32 × Int32 × k_St → Option (Int64 × k_St)) (z46 : Int64 × Int32 × Int32 × k_St) => match z46 with
          | (v3_46, v5_46, v7_46, s_46) =>
            k_if (iI (((2 ^ nn) ^ 4 : Nat) : Int) ≤ v7_46)
              (if z = 0 then
                (some (v5_46.toInt64, s_46))
                else (k_bd (f_X12_belowBy (iI (nn : Int)) s_46) fun v115 =>
                k_bd (f_X12_plainLong v3_46 v115 (iI z - iI 1)) fun v121 =>
                some (v121, s_46)))
              (k_bd (f_X12_nth v7_46 (o_shl (iI 1) (iI (nn : Int))) 28 s_46) fun s63 =>
              k_b2 (f_X12_knotSum (iI (nn : Int)) 28 s63) fun v72 s72 =>
              k_if ((lg_cmp v72 v3_46) ≤ iI 0)
                (k_nm (v7_46 + iI 1) fun y96 =>
                g46 (v3_46, v5_46, y96, s72))
                (k_bd (f_X12_packed 28 s72) fun v91 =>
                k_nm (v7_46 + iI 1) fun y96 =>
                g46 (v72, v91, y96, s72)))) 100000 ((-1 : Int64), iI 0, iI 0, σM)) (fun r => r.1 = Z ∧ m_c r.2 = m_c σM) by
    obtain ⟨⟨r5, s5⟩, e5, hr5, hm5⟩ := hh
    have hr5 : r5 = Z := hr5
    have hm5 : m_c s5 = m_c σM := hm5
    refine ⟨Z, sX, s5, rfl, ?_, z_close hxX hm5 hR⟩
    rw [← hr5]
    exact e5
  refine ok_for ((2 ^ nn) ^ 4) (fun j (y : Int64 × Int32 × Int32 × k_St) => y.1 = iL (n_bm Wj j) ∧ y.2.1 = iI (n_cd (2 ^ nn) (n_bs Wj j)) ∧ y.2.2.1 = iI j ∧ m_c y.2.2.2 = m_c σM) ?_ (by omega) (j := 0) ⟨rfl, rfl, rfl, rfl⟩ (by omega)
  rintro g j ⟨v3, v5, v7, s⟩ ⟨g1, g2, g3, g4⟩ hj hg
  have g1 : v3 = iL (n_bm Wj j) := g1
  subst g1
  have g2 : v5 = iI (n_cd (2 ^ nn) (n_bs Wj j)) := g2
  subst g2
  have g3 : v7 = iI j := g3
  subst g3
  have g4 : m_c s = m_c σM := g4
  show k_OK (k_if _ _ _) _
  rw [n_ile (by omega) (by omega)]
  by_cases c3 : (((2 ^ nn) ^ 4 : Nat) : Int) ≤ j
  · have ej : j = (2 ^ nn) ^ 4 := by omega
    rw [if_pos c3, ej, hA, hZ]
    by_cases c4 : z = 0
    · rw [if_pos c4, if_pos c4, ok_some]
      exact ⟨rfl, g4⟩
    · rw [if_neg c4, if_neg c4, n_belowBy g4 hk hnn.2, n_bd, hW2, iI_sub, n_plainLong (by omega) (by omega) (by omega), n_bd, ok_some]
      exact ⟨rfl, g4⟩
  obtain ⟨s1, e2, hF2, hA2⟩ := n_nth2 (σ := s) (a := 28) (j := j) (k := 2 ^ nn) rfl hp8 (by omega)
  have hm1 : m_c s1 = m_c σM := (n_frM hF2 (fun c hc k => by rw [hc]; rfl)).trans g4
  obtain ⟨⟨r2, s2⟩, e3, hr2, hF3⟩ := n_knotSum (σ := s1) (a := 28) (f := n_dk (2 ^ nn) j) rfl (by unfold i_SK; omega) hm1 hk hnn (fun t ht => ⟨hA2 t ht, n_dk_lt hp8.1 j t⟩)
  have hr2 : r2 = _ := hr2
  rw [← hWK] at hr2
  have hF3 : n_Fr i_SK s1 s2 := hF3
  have hm2 : m_c s2 = m_c σM := (n_frM hF3 i_SK_s).trans hm1
  have hwj := hWr j
  have hbj := n_bm_b (b := 287712000000) (by omega) hWr j
  have eb1 : n_bm Wj (j + 1) = if Wj j ≤ n_bm Wj j then n_bm Wj j else Wj j := rfl
  have eb2 : n_bs Wj (j + 1) = if Wj j ≤ n_bm Wj j then n_bs Wj j else (j : Int) := rfl
  rw [if_neg c3, n_shl (by omega), e2, n_bd, e3, n_b2, hr2, n_lcl (by omega) (by omega)]
  by_cases c4 : Wj j ≤ n_bm Wj j
  · rw [if_pos c4] at eb1 eb2
    rw [if_pos c4, ok_nm, iI_add]
    exact hg _ (by omega) ⟨by rw [eb1], by rw [eb2], rfl, hm2⟩
  · rw [if_neg c4] at eb1 eb2
    have ep := n_packed (σ := s2) (a := 28) (f := fun s => (n_dk (2 ^ nn) j s : Int)) rfl (fun t ht => by
      rw [(hF3 28 (by unfold i_SK; omega)).1]
      exact hA2 t ht)
    rw [if_neg c4, ep, n_bd, ok_nm, iI_add]
    refine hg _ (by omega) ⟨by rw [eb1], ?_, rfl, hm2⟩
    show _ = iI (n_cd (2 ^ nn) (n_bs Wj (j + 1)))
    rw [eb2]
    unfold n_cd
    rw [if_neg (by omega), Int.toNat_natCast]
