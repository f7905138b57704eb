/-! codes: the words taken -/
def n_pc (x : Nat) : Nat := x % 2 + x / 2 % 2 + x / 4 % 2 + x / 8 % 2 + x / 16 % 2 + x / 32 % 2 + x / 64 % 2 + x / 128 % 2
set_option maxRecDepth 100000 in
theorem n_bcD : ∀ x, x < 256 → f_J6_bitCount_0f7a4 (nI x) = some (nI (n_pc x)) := by decide +kernel
theorem n_pc_r (x : Nat) : n_pc x ≤ 8 := by
  unfold n_pc
  omega
theorem n_xor {a b : Nat} (ha : a < 256) (hb : b < 256) : (nI a ^^^ nI b) = nI (a ^^^ b) ∧ (a ^^^ b) < 256 := by
  have h : (a ^^^ b) < 2 ^ 8 := Nat.xor_lt_two_pow ha hb
  refine ⟨?_, h⟩
  apply Int32.toBitVec_inj.mp
  rw [Int32.toBitVec_xor]
  apply BitVec.eq_of_toNat_eq
  rw [BitVec.toNat_xor]
  show (BitVec.ofNat 32 a).toNat ^^^ (BitVec.ofNat 32 b).toNat = (BitVec.ofNat 32 (a ^^^ b)).toNat
  rw [BitVec.toNat_ofNat, BitVec.toNat_ofNat, BitVec.toNat_ofNat, Nat.mod_eq_of_lt (by omega), Nat.mod_eq_of_lt (by omega), Nat.mod_eq_of_lt (by omega)]
theorem n_bits {a b : Nat} (ha : a < 256) (hb : b < 256) : f_J6_bitCount_0f7a4 (iI a ^^^ iI b) = some (iI (n_pc (a ^^^ b) : Nat)) := by
  obtain ⟨h1, h2⟩ := n_xor ha hb
  rw [← iI_nat, ← iI_nat, h1, n_bcD _ h2, iI_nat]
def n_wS (e W : Nat) (p : Nat × (Nat → Nat)) : Nat × (Nat → Nat) := if (List.range p.1).all (fun k => decide (e < n_pc (p.2 k ^^^ W))) = true then (p.1 + 1, fun k => if k = p.1 then W else p.2 k) else p
def n_wp (e : Nat) : Nat → Nat × (Nat → Nat)
  | 0 => (0, fun _ => 0)
  | W + 1 => n_wS e W (n_wp e W)
def n_ap (e W : Nat) : Prop := ∀ k, k < (n_wp e W).1 → e < n_pc ((n_wp e W).2 k ^^^ W)
theorem n_wp_t {e W : Nat} (h : n_ap e W) : (n_wp e (W + 1)).1 = (n_wp e W).1 + 1 ∧ ∀ k, (n_wp e (W + 1)).2 k = if k = (n_wp e W).1 then W else (n_wp e W).2 k := by
  have e1 : n_wp e (W + 1) = n_wS e W (n_wp e W) := rfl
  have e2 : (List.range (n_wp e W).1).all (fun k => decide (e < n_pc ((n_wp e W).2 k ^^^ W))) = true := by
    rw [List.all_eq_true]
    intro k hk
    exact decide_eq_true (h k (List.mem_range.mp hk))
  rw [e1]
  unfold n_wS
  rw [if_pos e2]
  exact ⟨rfl, fun k => rfl⟩
theorem n_wp_f {e W : Nat} (h : ¬ n_ap e W) : n_wp e (W + 1) = n_wp e W := by
  have e1 : n_wp e (W + 1) = n_wS e W (n_wp e W) := rfl
  have e2 : ¬ (List.range (n_wp e W).1).all (fun k => decide (e < n_pc ((n_wp e W).2 k ^^^ W))) = true := by
    rw [List.all_eq_true]
    intro q
    exact h (fun k hk => of_decide_eq_true (q k (List.mem_range.mpr hk)))
  rw [e1]
  unfold n_wS
  rw [if_neg e2]
theorem n_wp_r (e : Nat) : ∀ W, (n_wp e W).1 ≤ W ∧ ∀ k, k < (n_wp e W).1 → (n_wp e W).2 k < W
  | 0 => ⟨Nat.le_refl 0, fun k hk => absurd hk (Nat.not_lt_zero k)⟩
  | W + 1 => by
    obtain ⟨h1, h2⟩ := n_wp_r e W
    by_cases c : n_ap e W
    · obtain ⟨q1, q2⟩ := n_wp_t c
      refine ⟨by omega, fun k hk => ?_⟩
      rw [q2]
      by_cases r : k = (n_wp e W).1
      · rw [if_pos r]
        omega
      · rw [if_neg r]
        have := h2 k (by omega)
        omega
    · rw [n_wp_f c]
      exact ⟨by omega, fun k hk => by have := h2 k hk; omega⟩
theorem n_wp_m (e W : Nat) : ∀ u, (n_wp e W).1 ≤ (n_wp e (W + u)).1 ∧ ∀ k, k < (n_wp e W).1 → (n_wp e (W + u)).2 k = (n_wp e W).2 k
  | 0 => ⟨Nat.le_refl _, fun k _ => rfl⟩
  | u + 1 => by
    obtain ⟨h1, h2⟩ := n_wp_m e W u
    show (n_wp e W).1 ≤ (n_wp e (W + u + 1)).1 ∧ ∀ k, k < (n_wp e W).1 → (n_wp e (W + u + 1)).2 k = (n_wp e W).2 k
    by_cases c : n_ap e (W + u)
    · obtain ⟨q1, q2⟩ := n_wp_t c
      refine ⟨by omega, fun k hk => ?_⟩
      rw [q2, if_neg (by omega)]
      exact h2 k hk
    · rw [n_wp_f c]
      exact ⟨h1, h2⟩
theorem n_shlD : ∀ n, n ≤ 8 → o_shl 1 (nI n) = nI (2 ^ n) := by decide +kernel
theorem n_shl {n : Nat} (hn : n ≤ 8) : o_shl (iI 1) (iI n) = iI ((2 ^ n : Nat) : Int) := by
  have := n_shlD n hn
  rw [iI_nat, iI_nat] at this
  exact this
theorem n_p256 {n : Nat} (hn : n ≤ 8) : 1 ≤ 2 ^ n ∧ 2 ^ n ≤ 256 := ⟨Nat.one_le_two_pow, Nat.pow_le_pow_right (by decide) hn⟩
/-- the class: is a word apart from those taken -/
theorem n_isApart {s : k_St} {e W : Nat} (he : e ≤ 3) (hW : W < 256) (h1 : s.1 39 1 = iI (n_wp e W).1) (h16 : (n_wp e W).1 ≤ 16) (h40 : ∀ k, k < (n_wp e W).1 → s.1 40 k = iI ((n_wp e W).2 k : Nat)) : k_OK (f_X9_isApart (iI W) (iI e) s) (fun r => (r = iI 1 ∧ n_ap e W) ∨ (r = iI 0 ∧ ¬ n_ap e W)) := by
  have hr := n_wp_r e W
  unfold f_X9_isApart
  simp only [iI_lit]
  refine ok_for (n_wp e W).1 (fun k (y : Int32) => y = iI k ∧ ∀ u, u < k → e < n_pc ((n_wp e W).2 u ^^^ W)) ?_ (by omega) (j := 0) ⟨rfl, fun u hu => absurd hu (by omega)⟩ (by omega)
  rintro g k _ ⟨rfl, hA⟩ hk hg
  show k_OK (k_if _ _ _) _
  rw [show k_rd s 39 1 = _ from h1, n_ile (by omega) (by omega)]
  by_cases c : ((n_wp e W).1 : Int) ≤ k
  · rw [if_pos c, ok_some]
    exact Or.inl ⟨rfl, fun u hu => hA u (by omega)⟩
  have hkw := hr.2 k (by omega)
  have hp := n_pc_r ((n_wp e W).2 k ^^^ W)
  rw [if_neg c, n_gix (by omega) (by omega), iI_cl (by omega), Int.toNat_natCast, show k_rd s 40 k = _ from h40 k (by omega), n_bits (by omega) (by omega), n_bd, n_ilt (by omega) (by omega)]
  by_cases c2 : (e : Int) < (n_pc ((n_wp e W).2 k ^^^ W) : Nat)
  · rw [if_pos c2, ok_nm, iI_add]
    refine hg _ (by omega) ⟨rfl, fun u hu => ?_⟩
    by_cases q : u = k
    · rw [q]
      omega
    · exact hA u (by omega)
  · rw [if_neg c2, ok_some]
    exact Or.inr ⟨rfl, fun q => by have := q k (by omega); omega⟩
def i_SW (c : Nat) : Prop := c = 39 ∨ c = 40
theorem n_takeW {σ : k_St} {m e n : Nat} (hm : 1 ≤ m ∧ m ≤ 16) (he : e ≤ 3) (hn : n ≤ 8) (h0 : σ.1 39 0 = iI n) : k_OK (f_X9_takeWords (iI m) (iI e) σ) (fun s => n_Fr i_SW σ s ∧ s.1 39 0 = iI n ∧ s.1 39 1 = iI ((min m (n_wp e (2 ^ n)).1 : Nat) : Int) ∧ ∀ k, k < min m (n_wp e (2 ^ n)).1 → s.1 40 k = iI ((n_wp e (2 ^ n)).2 k : Nat)) := by
  have hp := n_p256 hn
  unfold f_X9_takeWords
  simp only [iI_lit]
  rw [ok_nm]
  refine ok_for (2 ^ n) (fun W (y : Int32 × k_St) => y.1 = iI W ∧ n_Fr i_SW σ y.2 ∧ y.2.1 39 0 = iI n ∧ y.2.1 39 1 = iI (n_wp e W).1 ∧ (n_wp e W).1 ≤ m ∧ ∀ k, k < (n_wp e W).1 → y.2.1 40 k = iI ((n_wp e W).2 k : Nat)) ?_ (by omega) (j := 0) ⟨rfl, n_Fr.rf.wr (Or.inl rfl), (wr_k (by decide)).trans h0, wr_s, Nat.zero_le _, fun k hk => absurd hk (Nat.not_lt_zero k)⟩ (by omega)
  rintro g W ⟨v, s⟩ ⟨hv, hF, q0, q1, q2, q3⟩ hW hg
  have hv : v = iI W := hv
  subst hv
  have hF : n_Fr i_SW σ s := hF
  have q0 : s.1 39 0 = iI n := q0
  have q1 : s.1 39 1 = iI (n_wp e W).1 := q1
  have q3 : ∀ k, k < (n_wp e W).1 → s.1 40 k = iI ((n_wp e W).2 k : Nat) := q3
  have hmm := n_wp_m e W (2 ^ n - W)
  rw [show W + (2 ^ n - W) = 2 ^ n by omega] at hmm
  show k_OK (k_if _ _ _) _
  rw [show k_rd s 39 0 = _ from q0, show k_rd s 39 1 = _ from q1, n_shl hn, n_ile (by omega) (by omega)]
  by_cases c0 : ((2 ^ n : Nat) : Int) ≤ W
  · have e2 : W = 2 ^ n := by omega
    rw [e2] at q1 q2 q3
    rw [if_pos c0, ok_some, show min m (n_wp e (2 ^ n)).1 = (n_wp e (2 ^ n)).1 by omega]
    exact ⟨hF, q0, q1, q3⟩
  rw [if_neg c0, n_ile (by omega) (by omega)]
  by_cases c1 : (m : Int) ≤ (n_wp e W).1
  · rw [if_pos c1, ok_some, show min m (n_wp e (2 ^ n)).1 = (n_wp e W).1 by omega]
    exact ⟨hF, q0, q1, fun k hk => by rw [hmm.2 k hk]; exact q3 k hk⟩
  rw [if_neg c1, n_ile (by omega) (by omega), if_neg (by omega)]
  rw [ok_bd]
  refine ok_mono (n_isApart he (by omega) q1 (by omega) q3) (fun r hr => ?_)
  rcases hr with ⟨rfl, ha⟩ | ⟨rfl, ha⟩
  · obtain ⟨w1, w2⟩ := n_wp_t ha
    have e1 : k_rd (k_wr s 40 (n_wp e W).1 (iI (W : Int))) 39 1 = iI (n_wp e W).1 := q1
    rw [n_iff n_10, n_gix (by omega) (by omega), iI_cl (by omega), Int.toNat_natCast, ok_nm, e1, iI_add, ok_nm, ok_nm, iI_add]
    refine hg _ (by omega) ⟨rfl, (hF.wr (Or.inr rfl)).wr (Or.inl rfl), q0, ?_, by omega, fun k hk => ?_⟩
    · show (k_wr (k_wr s 40 (n_wp e W).1 (iI (W : Int))) 39 1 (iI (((n_wp e W).1 : Int) + 1))).1 39 1 = _
      rw [wr_s, w1]
      rfl
    · show (k_wr s 40 (n_wp e W).1 (iI (W : Int))).1 40 k = _
      rw [w2]
      by_cases r : k = (n_wp e W).1
      · rw [r, wr_s, if_pos rfl]
      · rw [wr_k r, if_neg r]
        exact q3 k (by omega)
  · rw [n_ift rfl, ok_nm, iI_add]
    refine hg _ (by omega) ⟨rfl, hF, q0, ?_⟩
    rw [n_wp_f ha]
    exact ⟨q1, q2, q3⟩
/-- the least number of tugs -/
def n_lw (m e n : Nat) : Prop := (1 ≤ n ∧ n ≤ 8) ∧ m ≤ (n_wp e (2 ^ n)).1 ∧ ∀ u, 1 ≤ u → u < n → ¬ m ≤ (n_wp e (2 ^ u)).1
def n_nw (m e : Nat) : Prop := ∀ u, 1 ≤ u → u ≤ 8 → ¬ m ≤ (n_wp e (2 ^ u)).1
theorem n_lw_u {m e n n' : Nat} (h : n_lw m e n) (h' : n_lw m e n') : n = n' := by
  by_cases c : n < n'
  · exact absurd h.2.1 (h'.2.2 n h.1.1 c)
  · by_cases c2 : n' < n
    · exact absurd h'.2.1 (h.2.2 n' h'.1.1 c2)
    · omega
theorem n_lw_n {m e n : Nat} (h : n_lw m e n) (h' : n_nw m e) : False := h' n h.1.1 h.1.2 h.2.1
theorem n_make {σ : k_St} {m e : Nat} (hm : 1 ≤ m ∧ m ≤ 16) (he : e ≤ 3) : k_OK (f_X9_make (iI m) (iI e) σ) (fun r => n_Fr i_SW σ r.2 ∧ ((r.1 = iI 1 ∧ ∃ n, n_lw m e n ∧ r.2.1 39 0 = iI n ∧ r.2.1 39 1 = iI m ∧ ∀ k, k < m → r.2.1 40 k = iI ((n_wp e (2 ^ n)).2 k : Nat)) ∨ (r.1 = iI 0 ∧ n_nw m e))) := by
  unfold f_X9_make
  simp (disch := omega) only [iI_lit, n_within, n_bd, n_ib]
  rw [if_pos (by omega), if_pos (by omega), ok_nm]
  refine ok_for 9 (fun j (y : k_St) => 1 ≤ j ∧ n_Fr i_SW σ y ∧ y.1 39 0 = iI (j : Nat) ∧ ∀ u, 1 ≤ u → u < j → ¬ m ≤ (n_wp e (2 ^ u)).1) ?_ (by omega) (j := 1) ⟨by omega, n_Fr.rf.wr (Or.inl rfl), wr_s, fun u h1 h2 => absurd h2 (by omega)⟩ (by omega)
  rintro g j s ⟨hj1, hF, q0, hA⟩ hj hg
  show k_OK (k_if _ _ _) _
  rw [show k_rd s 39 0 = _ from q0, n_ilt (by omega) (by omega)]
  by_cases c0 : (8 : Int) < j
  · rw [if_pos c0, ok_some]
    exact ⟨hF, Or.inr ⟨rfl, fun u h1 h2 => hA u h1 (by omega)⟩⟩
  rw [if_neg c0, ok_bd]
  refine ok_mono (n_takeW hm he (by omega) q0) (fun s2 hs2 => ?_)
  obtain ⟨hF2, p0, p1, p2⟩ := hs2
  rw [show k_rd s2 39 1 = _ from p1, n_ilt (by omega) (by omega)]
  by_cases c1 : m ≤ (n_wp e (2 ^ j)).1
  · have em : min m (n_wp e (2 ^ j)).1 = m := by omega
    rw [em] at p1 p2 ⊢
    rw [if_neg (by omega), ok_some]
    exact ⟨hF.tr hF2, Or.inl ⟨rfl, j, ⟨by omega, c1, hA⟩, p0, p1, p2⟩⟩
  · rw [if_pos (by omega), show k_rd s2 39 0 = _ from p0, iI_add, ok_nm]
    refine hg _ (by omega) ⟨by omega, (hF.tr hF2).wr (Or.inl rfl), wr_s, fun u h1 h2 => ?_⟩
    by_cases q : u = j
    · rw [q]
      exact c1
    · exact hA u h1 (by omega)
theorem n_makeO {σ : k_St} {a b : Int} (ha : -2147483648 ≤ a ∧ a ≤ 2147483647) (hb : -2147483648 ≤ b ∧ b ≤ 2147483647) (h : ¬ ((1 ≤ a ∧ a ≤ 16) ∧ 0 ≤ b ∧ b ≤ 3)) : f_X9_make (iI a) (iI b) σ = some (iI 0, σ) := by
  unfold f_X9_make
  simp (disch := omega) only [iI_lit, n_within, n_bd, n_ib]
  by_cases c : 1 ≤ a ∧ a ≤ 16
  · rw [if_pos c, if_neg (fun q => h ⟨c, q⟩)]
  · rw [if_neg c]
/-! the reference -/
theorem n_layW {σ : k_St} {e n : Nat} (he : e ≤ 3) (hn : n ≤ 8) : k_OK (f_X12_layWords (iI n) (iI e) σ) (fun r => n_Fr (fun c => c = 21) σ r.2 ∧ r.1 = iI (n_wp e (2 ^ n)).1 ∧ ∀ k, k < (n_wp e (2 ^ n)).1 → r.2.1 21 k = iI ((n_wp e (2 ^ n)).2 k : Nat)) := by
  have hp := n_p256 hn
  unfold f_X12_layWords
  simp only [iI_lit]
  refine ok_for (2 ^ n) (fun W (y : Int32 × Int32 × k_St) => y.1 = iI (n_wp e W).1 ∧ y.2.1 = iI W ∧ n_Fr (fun c => c = 21) σ y.2.2 ∧ ∀ k, k < (n_wp e W).1 → y.2.2.1 21 k = iI ((n_wp e W).2 k : Nat)) ?_ (by omega) (j := 0) ⟨rfl, rfl, n_Fr.rf, fun k hk => absurd hk (Nat.not_lt_zero k)⟩ (by omega)
  rintro g W ⟨v3, v4, s⟩ ⟨q1, q2, hF, q3⟩ hW hg
  have q1 : v3 = iI (n_wp e W).1 := q1
  subst q1
  have q2 : v4 = iI W := q2
  subst q2
  have hF : n_Fr (fun c => c = 21) σ s := hF
  have q3 : ∀ k, k < (n_wp e W).1 → s.1 21 k = iI ((n_wp e W).2 k : Nat) := q3
  have hr := n_wp_r e W
  show k_OK (k_if _ _ _) _
  rw [n_shl hn, n_ile (by omega) (by omega)]
  by_cases c0 : ((2 ^ n : Nat) : Int) ≤ W
  · rw [if_pos c0, ok_some, show 2 ^ n = W by omega]
    exact ⟨hF, rfl, q3⟩
  rw [if_neg c0]
  refine ok_for (n_wp e W).1 (fun k (y : Int32 × Int32) => y.2 = iI k ∧ ((y.1 = iI 1 ∧ ∀ u, u < k → e < n_pc ((n_wp e W).2 u ^^^ W)) ∨ (y.1 = iI 0 ∧ ¬ n_ap e W))) ?_ (by omega) (j := 0) ⟨rfl, Or.inl ⟨rfl, fun u hu => absurd hu (by omega)⟩⟩ (by omega)
  rintro g2 k ⟨v5, v6⟩ ⟨hv6, hv5⟩ hk hg2
  have hv6 : v6 = iI k := hv6
  subst hv6
  have hv5 : (v5 = iI 1 ∧ ∀ u, u < k → e < n_pc ((n_wp e W).2 u ^^^ W)) ∨ (v5 = iI 0 ∧ ¬ n_ap e W) := hv5
  show k_OK (k_if _ _ _) _
  rw [n_ile (by omega) (by omega)]
  by_cases c1 : ((n_wp e W).1 : Int) ≤ k
  · rw [if_pos c1]
    rcases hv5 with ⟨rfl, hA⟩ | ⟨rfl, hA⟩
    · have ha : n_ap e W := fun u hu => hA u (by omega)
      obtain ⟨w1, w2⟩ := n_wp_t ha
      rw [n_iff n_10, n_gix (by omega) (by omega), iI_cl (by omega), Int.toNat_natCast, ok_nm, ok_nm, ok_nm, iI_add, iI_add]
      refine hg _ (by omega) ⟨?_, rfl, hF.wr rfl, fun u hu => ?_⟩
      · show iI (((n_wp e W).1 : Int) + 1) = _
        rw [w1]
        rfl
      · show (k_wr s 21 (n_wp e W).1 (iI (W : Int))).1 21 u = _
        rw [w2]
        by_cases r : u = (n_wp e W).1
        · rw [r, wr_s, if_pos rfl]
        · rw [wr_k r, if_neg r]
          exact q3 u (by omega)
    · rw [n_ift rfl, ok_nm, iI_add]
      refine hg _ (by omega) ⟨?_, rfl, hF, ?_⟩
      · rw [n_wp_f hA]
      · rw [n_wp_f hA]
        exact q3
  rw [if_neg c1]
  rcases hv5 with ⟨rfl, hA⟩ | ⟨rfl, hA⟩
  · have hkw := hr.2 k (by omega)
    have hp := n_pc_r ((n_wp e W).2 k ^^^ W)
    have eb : f_J6_bitCount_0f7a4 (iI (W : Int) ^^^ iI (((n_wp e W).2 k : Nat) : Int)) = some (iI (n_pc ((n_wp e W).2 k ^^^ W) : Nat)) := by
      rw [n_bits (by omega) (by omega), Nat.xor_comm]
    rw [n_iff n_10, n_gix (by omega) (by omega), iI_cl (by omega), Int.toNat_natCast, show k_rd s 21 k = _ from q3 k (by omega), eb, n_bd, n_ile (by omega) (by omega)]
    by_cases c2 : ((n_pc ((n_wp e W).2 k ^^^ W) : Nat) : Int) ≤ e
    · rw [if_pos c2, ok_nm, iI_add]
      exact hg2 _ (by omega) ⟨rfl, Or.inr ⟨rfl, fun q => by have := q k (by omega); omega⟩⟩
    · rw [if_neg c2, ok_nm, iI_add]
      refine hg2 _ (by omega) ⟨rfl, Or.inl ⟨rfl, fun u hu => ?_⟩⟩
      by_cases q : u = k
      · rw [q]
        omega
      · exact hA u (by omega)
  · rw [n_ift rfl, ok_nm, iI_add]
    exact hg2 _ (by omega) ⟨rfl, Or.inr ⟨rfl, hA⟩⟩
/-- the reference's code, asked for i -/
theorem n_codeM {σ : k_St} {m e : Nat} {i : Int} (hm : 1 ≤ m ∧ m ≤ 16) (he : e ≤ 3) (hi : -1 ≤ i ∧ i ≤ (m : Int) - 1) : k_OK (f_X12_code (iI m) (iI e) (iI i) σ) (fun r => n_Fr (fun c => c = 21) σ r.2 ∧ ((∃ n, n_lw m e n ∧ r.1 = iI (if i = -1 then (n : Int) else ((n_wp e (2 ^ n)).2 i.toNat : Nat)) ∧ ∀ k, k < m → r.2.1 21 k = iI ((n_wp e (2 ^ n)).2 k : Nat)) ∨ (r.1 = iI (-1) ∧ n_nw m e))) := by
  unfold f_X12_code
  simp (disch := omega) only [iI_lit, iI_neg, iI_sub, n_in, n_within, n_bd, n_ib]
  rw [if_pos (by omega), if_pos (by omega), if_pos (by omega)]
  refine ok_for 9 (fun j (y : Int32 × k_St) => 1 ≤ j ∧ y.1 = iI (j : Nat) ∧ n_Fr (fun c => c = 21) σ y.2 ∧ ∀ u, 1 ≤ u → u < j → ¬ m ≤ (n_wp e (2 ^ u)).1) ?_ (by omega) (j := 1) ⟨by omega, rfl, n_Fr.rf, fun u h1 h2 => absurd h2 (by omega)⟩ (by omega)
  rintro g j ⟨v, s⟩ ⟨hj1, hv, hF, hA⟩ hj hg
  have hv : v = iI (j : Nat) := hv
  subst hv
  have hF : n_Fr (fun c => c = 21) σ s := hF
  show k_OK (k_if _ _ _) _
  rw [n_ilt (by omega) (by omega)]
  by_cases c0 : (8 : Int) < j
  · rw [if_pos c0, ok_some]
    exact ⟨hF, Or.inr ⟨rfl, fun u h1 h2 => hA u h1 (by omega)⟩⟩
  have hp := n_p256 (show j ≤ 8 by omega)
  have hr := n_wp_r e (2 ^ j)
  rw [if_neg c0]
  obtain ⟨⟨r, s2⟩, e2, hF2, p1, p2⟩ := n_layW (σ := s) (e := e) (n := j) he (by omega)
  have p1 : r = iI (n_wp e (2 ^ j)).1 := p1
  subst p1
  have hF2 : n_Fr (fun c => c = 21) s s2 := hF2
  have p2 : ∀ k, k < (n_wp e (2 ^ j)).1 → s2.1 21 k = iI ((n_wp e (2 ^ j)).2 k : Nat) := p2
  rw [e2, n_b2, n_ilt (by omega) (by omega)]
  by_cases c1 : m ≤ (n_wp e (2 ^ j)).1
  · rw [if_neg (by omega), n_ieq (by omega) (by omega)]
    by_cases c2 : i = -1
    · rw [if_pos c2, ok_some]
      exact ⟨hF.tr hF2, Or.inl ⟨j, ⟨by omega, c1, hA⟩, by rw [if_pos c2], fun k hk => p2 k (by omega)⟩⟩
    · rw [if_neg c2, n_gix (by omega) (by omega), iI_cl (by omega), ok_some]
      refine ⟨hF.tr hF2, Or.inl ⟨j, ⟨by omega, c1, hA⟩, ?_, fun k hk => p2 k (by omega)⟩⟩
      rw [if_neg c2]
      exact p2 i.toNat (by omega)
  · rw [if_pos (by omega), ok_nm, iI_add]
    refine hg _ (by omega) ⟨by omega, rfl, hF.tr hF2, fun u h1 h2 => ?_⟩
    by_cases q : u = j
    · rw [q]
      exact c1
    · exact hA u h1 (by omega)
