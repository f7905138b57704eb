/-! settled: each sound has its own share of the mean -/
theorem n_am_c {F G : Nat → Int} {n : Nat} (h : ∀ p, p < n → F p = G p) (hn : 0 < n) : ∀ P, P ≤ n → n_am F P = n_am G P
  | 0, _ => rfl
  | P + 1, hP => by
    have ih := n_am_c h hn P (by omega)
    have hr := n_am_r F P
    show (if F P ≤ F (n_am F P) then n_am F P else P) = if G P ≤ G (n_am G P) then n_am G P else P
    rw [← ih, h P (by omega), h (n_am F P) (by omega)]
theorem n_B_c {m : k_St} {n : Nat} {V f g : Nat → Int} (hk : n_mk m n V) (h : ∀ s, s < 4 → f s = g s) {c p : Nat} (hp : p < n) : n_B m V f c p = n_B m V g c p := by
  have hh := hk.hd hp (vI m 0 27)
  unfold n_B
  rw [h _ (show (n_hd m (vI m 0 27) p).toNat < 4 by omega)]
def n_an (m : k_St) (V f : Nat → Int) (n : Nat) : Nat → Int32 := fun c => iI (n_am (n_B m V f c) n : Nat)
theorem n_an_c {m : k_St} {n : Nat} {V f g : Nat → Int} (hk : n_mk m n V) (hn : 0 < n) (h : ∀ s, s < 4 → f s = g s) : n_an m V f n = n_an m V g n := funext fun c => by
  unfold n_an
  rw [n_am_c (fun p hp => n_B_c hk h hp) hn n (Nat.le_refl _)]
theorem n_an_i {m : k_St} {n : Nat} {V f : Nat → Int} (hk : n_mk m n V) (hn : 0 < n) (c : Nat) : (n_an m V f n c).toInt = (n_am (n_B m V f c) n : Nat) ∧ 0 ≤ (n_an m V f n c).toInt ∧ (n_an m V f n c).toInt < n := by
  have := n_am_r (n_B m V f c) n
  have h6 := hk.2.1
  have e : (n_an m V f n c).toInt = (n_am (n_B m V f c) n : Nat) := iI_to (by omega)
  rw [e]
  exact ⟨rfl, by omega, by omega⟩
def n_gs (m : k_St) (V : Nat → Int) (R : Nat → Int32) (fg th : Int) (s : Nat) (y : Int) (n : Nat) : Int := n_sum (fun p => if n_hd m th p = (s : Int) then vI m 13 (4 * p) * V p * n_hv R (n_sn m fg p) y (vI m 0 23) p else 0) n
theorem n_gs_r {m : k_St} {n : Nat} {V : Nat → Int} (hk : n_mk m n V) (R : Nat → Int32) (fg th : Int) (s : Nat) (y : Int) (N : Nat) (hN : N ≤ n) : 0 ≤ n_gs m V R fg th s y N ∧ n_gs m V R fg th s y N ≤ 5394600 := by
  have h := n_sum_r (f := fun p => if n_hd m th p = (s : Int) then vI m 13 (4 * p) * V p * n_hv R (n_sn m fg p) y (vI m 0 23) p else 0) (b := 9 * 999 * 100) (n := N) (fun p hp => by
    obtain ⟨⟨a1, _, _⟩, _, a2⟩ := hk.2.2.2.2 p (by omega)
    have := n_mulr (n_mulr a1 a2) (n_hvr (R := R) (sn := n_sn m fg p) (y := y) (p := p) hk.2.2.1)
    by_cases c : n_hd m th p = (s : Int)
    · rw [if_pos c]
      omega
    · rw [if_neg c]
      omega)
  have h6 := hk.2.1
  unfold n_gs
  omega
theorem n_A_gs {m : k_St} {n : Nat} {V g : Nat → Int} (hk : n_mk m n V) (R : Nat → Int32) (fg th : Int) : n_A m V g R fg th n = n_sum (fun s => n_gs m V R fg th s (g s) n) 4 := by
  unfold n_A n_gs
  rw [n_sum_swap]
  refine n_sum_c (fun p hp => ?_)
  have hh := hk.hd hp th
  have e : n_sum (fun s => if n_hd m th p = (s : Int) then vI m 13 (4 * p) * V p * n_hv R (n_sn m fg p) (g s) (vI m 0 23) p else 0) 4 = n_sum (fun s => if s = (n_hd m th p).toNat then vI m 13 (4 * p) * V p * n_hv R (n_sn m fg p) (g s) (vI m 0 23) p else 0) 4 := n_sum_c (fun s hs => by
    by_cases c : n_hd m th p = (s : Int)
    · rw [if_pos c, if_pos (by omega)]
    · rw [if_neg c, if_neg (by omega)])
  rw [e, n_sum_one, if_pos (by omega)]
theorem n_s4 (G : Nat → Int) : n_sum G 4 = 0 + G 0 + G 1 + G 2 + G 3 := rfl
/-- settled -/
def n_stb (m : k_St) (V f : Nat → Int) (n k : Nat) : Bool := (List.range 4).all fun s => (List.range k).all fun y => decide (n_gs m V (n_an m V f n) (vI m 0 26) (vI m 0 27) s (y : Nat) n ≤ n_gs m V (n_an m V f n) (vI m 0 26) (vI m 0 27) s (f s) n)
theorem n_stb_i {m : k_St} {V f : Nat → Int} {n k : Nat} : n_stb m V f n k = true ↔ ∀ s, s < 4 → ∀ y : Nat, y < k → n_gs m V (n_an m V f n) (vI m 0 26) (vI m 0 27) s y n ≤ n_gs m V (n_an m V f n) (vI m 0 26) (vI m 0 27) s (f s) n := by
  unfold n_stb
  simp only [List.all_eq_true, List.mem_range, decide_eq_true_eq]
theorem n_stb_c {m : k_St} {n k : Nat} {V f g : Nat → Int} (hk : n_mk m n V) (hn : 0 < n) (h : ∀ s, s < 4 → f s = g s) : n_stb m V f n k = n_stb m V g n k := by
  have e := n_an_c hk hn h
  have : n_stb m V f n k = true ↔ n_stb m V g n k = true := by
    rw [n_stb_i, n_stb_i, e]
    constructor
    · intro q s hs y hy
      rw [← h s hs]
      exact q s hs y hy
    · intro q s hs y hy
      rw [h s hs]
      exact q s hs y hy
  cases h1 : n_stb m V f n k with
  | true => exact (this.mp h1).symm
  | false =>
    cases h2 : n_stb m V g n k with
    | true =>
      rw [this.mpr h2] at h1
      exact h1.symm
    | false => rfl
/-- no other row does better: as the reference asks it -/
theorem n_stb_A {m : k_St} {n k : Nat} {V f : Nat → Int} (hk : n_mk m n V) (hf : ∀ s, s < 4 → 0 ≤ f s ∧ f s < k) : n_stb m V f n k = true ↔ ∀ g : Nat → Int, (∀ s, s < 4 → 0 ≤ g s ∧ g s < k) → n_A m V g (n_an m V f n) (vI m 0 26) (vI m 0 27) n ≤ n_A m V f (n_an m V f n) (vI m 0 26) (vI m 0 27) n := by
  rw [n_stb_i]
  constructor
  · intro h g hg
    rw [n_A_gs hk, n_A_gs hk, n_s4, n_s4]
    have q : ∀ s, s < 4 → n_gs m V (n_an m V f n) (vI m 0 26) (vI m 0 27) s (g s) n ≤ n_gs m V (n_an m V f n) (vI m 0 26) (vI m 0 27) s (f s) n := fun s hs => by
      have := hg s hs
      have r := h s hs (g s).toNat (by omega)
      rw [show (((g s).toNat : Nat) : Int) = g s by omega] at r
      exact r
    have q0 := q 0 (by omega)
    have q1 := q 1 (by omega)
    have q2 := q 2 (by omega)
    have q3 := q 3 (by omega)
    omega
  · intro h s hs y hy
    have r := h (n_up f s y) (fun t ht => by
      unfold n_up
      by_cases e : t = s
      · rw [if_pos e]
        omega
      · rw [if_neg e]
        exact hf t ht)
    rw [n_A_gs hk, n_A_gs hk, n_s4, n_s4] at r
    have u1 : ∀ t, t = s → n_up f s y t = y := fun t ht => by
      unfold n_up
      rw [if_pos ht]
    have u2 : ∀ t, ¬ t = s → n_up f s y t = f t := fun t ht => by
      unfold n_up
      rw [if_neg ht]
    rcases (show s = 0 ∨ s = 1 ∨ s = 2 ∨ s = 3 by omega) with rfl | rfl | rfl | rfl
    · rw [u1 0 rfl, u2 1 (by decide), u2 2 (by decide), u2 3 (by decide)] at r
      omega
    · rw [u2 0 (by decide), u1 1 rfl, u2 2 (by decide), u2 3 (by decide)] at r
      omega
    · rw [u2 0 (by decide), u2 1 (by decide), u1 2 rfl, u2 3 (by decide)] at r
      omega
    · rw [u2 0 (by decide), u2 1 (by decide), u2 2 (by decide), u1 3 rfl] at r
      omega
/-! the class -/
theorem n_fill32 {σ : k_St} : k_OK (f_J7_fill_53178 32 (iI 0) σ) (fun s => n_Fr (fun c => c = 32) σ s ∧ ∀ t, t < 16 → s.1 32 t = iI 0) := by
  unfold f_J7_fill_53178
  rw [show (Int32.ofNat (k_nX 32)) = iI 16 from rfl, show k_nX 32 = 16 from rfl, ok_nm]
  simp only [iI_lit]
  refine ok_for 16 (fun j (z : Int32 × k_St) => z.1 = iI j ∧ n_Fr (fun c => c = 32) σ z.2 ∧ ∀ t, t < j → z.2.1 32 t = iI 0) ?_ (by omega) (j := 0) ⟨rfl, n_Fr.rf, fun t h => absurd h (by omega)⟩ (Nat.zero_le _)
  rintro g0 j ⟨v, s⟩ ⟨rfl, hF, hz⟩ hj hg0
  show k_OK (k_if _ _ _) _
  rw [n_ile (by omega) (by omega)]
  by_cases c0 : (16 : Int) ≤ j
  · rw [if_pos c0, ok_some]
    exact ⟨hF, fun t ht => hz t (by omega)⟩
  · rw [if_neg c0, n_gix (by omega) (by omega), iI_cl (by omega), show ((j : Int)).toNat = j from rfl, ok_nm, ok_nm]
    refine hg0 _ (by omega) ⟨by rw [iI_add]; rfl, n_Fr.wr hF rfl, fun t ht => ?_⟩
    show (k_wr s 32 j (iI 0)).1 32 t = iI 0
    by_cases e : t = j
    · subst e
      exact wr_s
    · rw [wr_k e]
      exact hz t (by omega)
theorem n_reckG {σ x m : k_St} {n k : Nat} {R : Nat → Int32} {X : Int64} (hx : x_c σ = x) (hk : n_mk m n (fun p => vI x 14 p)) (hl : r_lak x m) (hv : r_val x m) (hfg : x.1 16 3 = m.1 0 26) (hth : x.1 16 4 = m.1 0 27) (hlo : x.1 16 5 = m.1 0 23) (hR : r_R n R X) (hk22 : vI m 0 22 = k) (hk4 : k ≤ 4) : k_OK (f_X0_reckonGains X σ) (fun s => n_Fr (fun c => c = 32) σ s ∧ ∀ u y, u < 4 → y < 4 → s.1 32 (4 * u + y) = iI (if y < k then n_gs m (fun p => vI x 14 p) R (vI m 0 26) (vI m 0 27) u (y : Nat) n else 0)) := by
  have h6 := hk.2.1
  unfold f_X0_reckonGains
  simp only [iI_lit]
  rw [ok_bd]
  refine ok_mono n_fill32 (fun s0 hs0 => ?_)
  obtain ⟨hF0, hz0⟩ := hs0
  have hx0 : x_c s0 = x := (n_frX hF0 (fun c hc k => by rw [hc]; rfl)).trans hx
  rw [n_rX hx0 rfl hl.2.1.1, hk22, iI_min (by omega) (by omega), show min (4 : Int) (k : Int) = k by omega, ok_nm]
  have hs0 : ∀ u y N, n_gs m (fun p => vI x 14 p) R (vI m 0 26) (vI m 0 27) u y (N + 1) = n_gs m (fun p => vI x 14 p) R (vI m 0 26) (vI m 0 27) u y N + if n_hd m (vI m 0 27) N = (u : Int) then vI m 13 (4 * N) * vI x 14 N * n_hv R (n_sn m (vI m 0 26) N) y (vI m 0 23) N else 0 := fun u y N => rfl
  have hgr := fun (u : Nat) (y : Int) (N : Nat) (hN : N ≤ n) => n_gs_r hk R (vI m 0 26) (vI m 0 27) u y N hN
  have hg0 : ∀ u y, n_gs m (fun p => vI x 14 p) R (vI m 0 26) (vI m 0 27) u y 0 = 0 := fun u y => rfl
  generalize hGG : n_gs m (fun p => vI x 14 p) R (vI m 0 26) (vI m 0 27) = G at *
  refine ok_for n (fun P (z : Int32 × k_St) => z.1 = iI P ∧ n_Fr (fun c => c = 32) σ z.2 ∧ ∀ u y, u < 4 → y < 4 → z.2.1 32 (4 * u + y) = iI (if y < k then G u (y : Nat) P else 0)) ?_ (by omega) (j := 0) ⟨rfl, hF0, fun u y hu hy => by
    show s0.1 32 (4 * u + y) = _
    rw [hz0 _ (by omega), hg0]
    split <;> rfl⟩ (Nat.zero_le _)
  clear hF0 hz0 hx0
  rintro g P ⟨v, s⟩ ⟨hvv, hF, hz⟩ hP hg
  have hvv : v = iI P := hvv
  subst hvv
  have hF : n_Fr (fun c => c = 32) σ s := hF
  have hz : ∀ u y, u < 4 → y < 4 → s.1 32 (4 * u + y) = iI (if y < k then G u (y : Nat) P else 0) := hz
  have hxs : x_c s = x := (n_frX hF (fun c hc k => by rw [hc]; rfl)).trans hx
  show k_OK (k_if _ _ _) _
  rw [n_rX hxs rfl hl.1.1, hk.1, n_ile (by omega) (by omega)]
  by_cases c1 : (n : Int) ≤ P
  · rw [if_pos c1, ok_some]
    refine ⟨hF, fun u y hu hy => ?_⟩
    rw [hz u y hu hy, show P = n by omega]
  have hPn : P < n := by omega
  have hh := hk.hd hPn (vI m 0 27)
  have hv15 := (hv P (by rw [hk.1]; omega)).2.2
  obtain ⟨⟨a1, _, _⟩, _, a2⟩ := hk.2.2.2.2 P hPn
  have hS : 0 ≤ vI m 13 (4 * P) * vI x 14 P ∧ vI m 13 (4 * P) * vI x 14 P ≤ 9 * 999 := n_mulr a1 a2
  have es : f_X1_stakeOf (iI (P : Int)) s = some (iI (vI m 13 (4 * P) * vI x 14 P)) := by
    unfold f_X1_stakeOf
    simp (disch := omega) only [iI_lit, n_ilt, n_ile, n_gix, iI_cl, Int.toNat_natCast]
    rw [if_neg (by omega), if_neg (by omega), n_core_I hxs rfl, hv15, Int.mul_comm]
  obtain ⟨H, hH⟩ := Int.eq_ofNat_of_zero_le hh.1
  rw [if_neg c1, n_rX hxs rfl hth, n_heardX hxs hk hl hPn (vI_rg _ _ _), n_bd, hH, iI_mul, ok_nm, iI_sub, n_within (by omega) (by omega) (by omega), n_bd, n_ib, if_pos (by omega), es, n_bd]
  refine ok_for k (fun t (z : Int32 × k_St) => z.1 = iI t ∧ n_Fr (fun c => c = 32) σ z.2 ∧ ∀ u y, u < 4 → y < 4 → z.2.1 32 (4 * u + y) = iI (if y < k then (if y < t then G u (y : Nat) (P + 1) else G u (y : Nat) P) else 0)) ?_ (by omega) (j := 0) ⟨rfl, hF, fun u y hu hy => by
    show s.1 32 (4 * u + y) = _
    rw [hz u y hu hy]
    congr 1⟩ (Nat.zero_le _)
  clear hF hz hxs es
  rintro g2 t ⟨v, s⟩ ⟨hvv, hF, hz⟩ ht hg2
  have hvv : v = iI t := hvv
  subst hvv
  have hF : n_Fr (fun c => c = 32) σ s := hF
  have hz : ∀ u y, u < 4 → y < 4 → s.1 32 (4 * u + y) = iI (if y < k then (if y < t then G u (y : Nat) (P + 1) else G u (y : Nat) P) else 0) := hz
  have hxs : x_c s = x := (n_frX hF (fun c hc k => by rw [hc]; rfl)).trans hx
  show k_OK (k_if _ _ _) _
  rw [n_ile (by omega) (by omega)]
  by_cases c2 : (k : Int) ≤ t
  · rw [if_pos c2, ok_nm, iI_add]
    refine hg _ (by omega) ⟨rfl, hF, fun u y hu hy => ?_⟩
    show s.1 32 (4 * u + y) = _
    rw [hz u y hu hy]
    congr 1
    by_cases q : y < k
    · rw [if_pos q, if_pos q, if_pos (by omega)]
    · rw [if_neg q, if_neg q]
  have hHv := n_hvr (R := R) (sn := n_sn m (vI m 0 26) P) (y := (t : Nat)) (p := P) hk.2.2.1
  have hT := n_mulr hS hHv
  have e32 : k_rd s 32 ((H : Int) * 4 + (t : Int)).toNat = iI (G H (t : Nat) P) := by
    show s.1 32 _ = _
    rw [show ((H : Int) * 4 + (t : Int)).toNat = 4 * H + t by omega, hz H t (by omega) (by omega), if_pos (by omega), if_neg (by omega)]
  rw [if_neg c2, iI_add, ok_nm, n_gix (by omega) (by omega), n_rX hxs rfl hfg, n_hit hxs hk hl hlo hR hPn (by omega) (vI_rg _ _ _), n_bd, n_gix (by omega) (by omega), iI_cl (by omega), e32, iI_mul, iI_add, ok_nm, ok_nm, iI_add]
  refine hg2 _ (by omega) ⟨rfl, hF.wr rfl, fun u y hu hy => ?_⟩
  show (k_wr s 32 ((H : Int) * 4 + (t : Int)).toNat _).1 32 (4 * u + y) = _
  rw [show ((H : Int) * 4 + (t : Int)).toNat = 4 * H + t by omega]
  by_cases e : 4 * u + y = 4 * H + t
  · have e1 : u = H := by omega
    have e2 : y = t := by omega
    subst e1
    subst e2
    rw [wr_s, if_pos (by omega), if_pos (by omega), hs0, if_pos hH]
  · rw [wr_k e, hz u y hu hy]
    congr 1
    by_cases q : y < k
    · rw [if_pos q, if_pos q]
      by_cases q2 : y < t
      · rw [if_pos q2, if_pos (by omega)]
      · rw [if_neg q2]
        by_cases q3 : y = t
        · rw [if_pos (by omega), hs0, if_neg (by omega), Int.add_zero]
        · rw [if_neg (by omega)]
    · rw [if_neg q, if_neg q]
theorem n_isSX {σ x m : k_St} {n k : Nat} {f : Nat → Int} (hx : x_c σ = x) (hk : n_mk m n (fun p => vI x 14 p)) (hn : 0 < n) (hl : r_lak x m) (hv : r_val x m) (hfg : x.1 16 3 = m.1 0 26) (hth : x.1 16 4 = m.1 0 27) (hlo : x.1 16 5 = m.1 0 23) (hk22 : vI m 0 22 = k) (hk4 : k ≤ 4) (hf : ∀ s, s < 4 → 0 ≤ f s ∧ f s < k) : k_OK (f_X0_isSettled (iI (n_e4 f)) σ) (fun r => r.1 = iB (n_stb m (fun p => vI x 14 p) f n k = true) ∧ n_Fr (fun c => c = 31 ∨ c = 32) σ r.2) := by
  have h6 := hk.2.1
  have hf4 : r_4 f := fun s hs => by have := hf s hs; omega
  obtain ⟨⟨v, s1⟩, e1, hF1, hA⟩ := n_answerOf hx hk hl hv hfg hth hlo hf4
  have hF1 : n_Fr (fun c => c = 31) σ s1 := hF1
  have hx1 : x_c s1 = x := (n_frX hF1 (fun c hc k => by rw [hc]; rfl)).trans hx
  have hR : r_R n (n_an m (fun p => vI x 14 p) f n) v := fun c hc => by
    obtain ⟨_, i2, i3⟩ := n_an_i (f := f) hk hn c
    exact ⟨hA c hc, i2, by omega⟩
  obtain ⟨s2, e2, hF2, hG⟩ := n_reckG hx1 hk hl hv hfg hth hlo hR hk22 hk4
  unfold f_X0_isSettled
  rw [e1, n_b2, e2, n_bd]
  simp only [iI_lit]
  have hFF : n_Fr (fun c => c = 31 ∨ c = 32) σ s2 := (hF1.mono (fun c hc => Or.inl hc)).tr (hF2.mono (fun c hc => Or.inr hc))
  have hst := n_stb_i (m := m) (V := fun p => vI x 14 p) (f := f) (n := n) (k := k)
  have hgr := fun (u : Nat) (y : Int) => n_gs_r hk (n_an m (fun p => vI x 14 p) f n) (vI m 0 26) (vI m 0 27) u y n (Nat.le_refl _)
  generalize hGG : (fun u y => n_gs m (fun p => vI x 14 p) (n_an m (fun p => vI x 14 p) f n) (vI m 0 26) (vI m 0 27) u y n) = G
  have hGe : ∀ u y, n_gs m (fun p => vI x 14 p) (n_an m (fun p => vI x 14 p) f n) (vI m 0 26) (vI m 0 27) u y n = G u y := fun u y => by rw [← hGG]
  simp only [hGe] at hG hst hgr
  refine ok_for 4 (fun u (y : Int32) => y = iI u ∧ ∀ u', u' < u → ∀ y : Nat, y < k → G u' y ≤ G u' (f u')) ?_ (by omega) (j := 0) ⟨rfl, fun u hu => absurd hu (by omega)⟩ (by omega)
  rintro g u _ ⟨rfl, hA2⟩ hu hg
  show k_OK (k_if _ _ _) _
  rw [n_ile (by omega) (by omega)]
  by_cases c0 : (4 : Int) ≤ u
  · rw [if_pos c0, ok_some, n_bt (hst.mpr (fun s hs y hy => hA2 s (by omega) y hy))]
    exact ⟨rfl, hFF⟩
  have hfu := hf u (by omega)
  have hgo := hgr u (f u)
  have eo : k_rd s2 32 ((u : Int) * 4 + f u).toNat = iI (G u (f u)) := by
    show s2.1 32 _ = _
    rw [show ((u : Int) * 4 + f u).toNat = 4 * u + (f u).toNat by omega, hG u _ (by omega) (by omega), if_pos (by omega), show (((f u).toNat : Nat) : Int) = f u by omega]
  rw [if_neg c0, n_sign hf4 (by omega), n_bd, iI_mul, iI_add, n_gix (by omega) (by omega), iI_cl (by omega), eo, ok_nm]
  refine ok_for 4 (fun t (y : Int32) => y = iI t ∧ ∀ y : Nat, y < t → y < k → G u y ≤ G u (f u)) ?_ (by omega) (j := 0) ⟨rfl, fun y hy => absurd hy (by omega)⟩ (by omega)
  rintro g2 t _ ⟨rfl, hA3⟩ ht hg2
  show k_OK (k_if _ _ _) _
  rw [n_ile (by omega) (by omega)]
  by_cases c1 : (4 : Int) ≤ t
  · rw [if_pos c1, ok_nm, iI_add]
    refine hg _ (by omega) ⟨rfl, fun u' hu' y hy => ?_⟩
    by_cases e : u' = u
    · rw [e]
      exact hA3 y (by omega) hy
    · exact hA2 u' (by omega) y hy
  have hgt := hgr u (t : Nat)
  have e32 : k_rd s2 32 ((u : Int) * 4 + (t : Int)).toNat = iI (if t < k then G u (t : Nat) else 0) := by
    show s2.1 32 _ = _
    rw [show ((u : Int) * 4 + (t : Int)).toNat = 4 * u + t by omega, hG u t (by omega) (by omega)]
  rw [if_neg c1, iI_add, n_gix (by omega) (by omega), iI_cl (by omega), e32, n_ile (by split <;> omega) (by omega)]
  by_cases c2 : (if t < k then G u (t : Nat) else 0) ≤ G u (f u)
  · rw [if_pos c2, ok_nm, iI_add]
    refine hg2 _ (by omega) ⟨rfl, fun y hy hyk => ?_⟩
    by_cases e : y = t
    · subst e
      rw [if_pos hyk] at c2
      exact c2
    · exact hA3 y (by omega) hyk
  · rw [if_neg c2, ok_some]
    refine ⟨?_, hFF⟩
    rw [n_bf (fun q => c2 ?_)]
    by_cases e : t < k
    · rw [if_pos e]
      exact hst.mp q u (by omega) t e
    · rw [if_neg e]
      omega
