/-! crossed: gains -/
theorem n_lgt {β : Type} {a b : Int} {p q : Option β} [Decidable (iI 0 < lg_cmp (iL a) (iL b))] (ha : -9223372036854775808 ≤ a ∧ a ≤ 9223372036854775807) (hb : -9223372036854775808 ≤ b ∧ b ≤ 9223372036854775807) : k_if (iI 0 < lg_cmp (iL a) (iL b)) p q = if b < a then p else q := by
  have e : (iI 0 < lg_cmp (iL a) (iL b)) ↔ b < a := by
    rw [iL_cmp ha hb]
    by_cases h1 : b < a
    · rw [if_pos h1]
      exact ⟨fun _ => h1, fun _ => by decide⟩
    · rw [if_neg h1]
      by_cases h2 : a = b
      · rw [if_pos h2]
        exact ⟨fun z => absurd z (by decide), fun z => absurd z h1⟩
      · rw [if_neg h2]
        exact ⟨fun z => absurd z (by decide), fun z => absurd z h1⟩
  by_cases c : b < a
  · rw [n_ift (e.mpr c), if_pos c]
  · rw [n_iff (fun z => c (e.mp z)), if_neg c]
def n_h100 : Nat → Int
  | 0 => 1
  | k + 1 => n_h100 k * 100
theorem n_belowBy {σ m : k_St} {n k : Nat} {V : Nat → Int} (hm : m_c σ = m) (hk : n_mk m n V) (hk3 : k ≤ 3) : f_X12_belowBy (iI k) σ = some (iL (m_sW m n * n_h100 k)) := by
  have h6 := hk.2.1
  have hs : 0 ≤ m_sW m n ∧ m_sW m n ≤ n * 9 := n_sum_r (f := fun p => vI m 13 (4 * p)) (b := 9) (n := n) (fun p hp => (hk.2.2.2.2 p hp).1.1)
  unfold f_X12_belowBy
  rw [n_below hm hk, n_bd, show (100 : Int32) = iI 100 from rfl, show (100 : Int64) = iL 100 from rfl, iI_div (by omega) (by omega), show (100 * m_sW m n).tdiv 100 = m_sW m n by
    rw [Int.mul_comm, Int.mul_tdiv_cancel _ (by decide)], iI_l (by omega), n_nm]
  simp only [iI_lit]
  refine ok_eq.mp (ok_for k (fun j (y : Int64 × Int32) => y = (iL (m_sW m n * n_h100 j), iI j)) ?_ (by omega) (j := 0) (by
    show _ = (iL (m_sW m n * 1), _)
    rw [Int.mul_one]
    rfl) (by omega))
  rintro g j _ rfl hj hg
  show k_OK (k_if _ _ _) _
  rw [n_ile (by omega) (by omega)]
  by_cases c : (k : Int) ≤ j
  · rw [if_pos c, ok_some, show j = k by omega]
  · rw [if_neg c, iL_mul, ok_nm, ok_nm, iI_add]
    refine hg _ (by omega) ?_
    rw [Int.mul_assoc]
    rfl
/-- what the one of two boats has -/
def n_gp (m : k_St) (V : Nat → Int) (a b c d p : Nat) : Int := n_hv (fun j => m.1 23 (16 * b + j)) (n_sn m (vI m 0 26) p) (n_d4 (vI m 22 a) (n_hd m (vI m 0 27) p).toNat) (vI m 0 23) p * n_hv (fun j => m.1 23 (16 * d + j)) (n_sn m (vI m 0 26) p) (n_d4 (vI m 22 c) (n_hd m (vI m 0 27) p).toNat) (vI m 0 23) p * (V p / 2) + n_hv (fun j => m.1 23 (16 * b + j)) (n_sn m (vI m 0 26) p) (n_d4 (vI m 22 a) (n_hd m (vI m 0 27) p).toNat) (vI m 0 23) p * (100 - n_hv (fun j => m.1 23 (16 * d + j)) (n_sn m (vI m 0 26) p) (n_d4 (vI m 22 c) (n_hd m (vI m 0 27) p).toNat) (vI m 0 23) p) * V p
def n_ga (m : k_St) (V : Nat → Int) (n a b c d : Nat) : Int := n_sum (fun p => n_gp m V a b c d p * vI m 13 (4 * p)) n
theorem n_gp_r {m : k_St} {V : Nat → Int} {n a b c d p : Nat} (hk : n_mk m n V) (hp : p < n) : 0 ≤ n_gp m V a b c d p ∧ n_gp m V a b c d p ≤ 20000000 := by
  have hV := (hk.2.2.2.2 p hp).2.2
  unfold n_gp
  have h1 := n_hvr (R := fun j => m.1 23 (16 * b + j)) (sn := n_sn m (vI m 0 26) p) (y := n_d4 (vI m 22 a) (n_hd m (vI m 0 27) p).toNat) (p := p) hk.2.2.1
  have h2 := n_hvr (R := fun j => m.1 23 (16 * d + j)) (sn := n_sn m (vI m 0 26) p) (y := n_d4 (vI m 22 c) (n_hd m (vI m 0 27) p).toNat) (p := p) hk.2.2.1
  generalize n_hv (fun j => m.1 23 (16 * b + j)) (n_sn m (vI m 0 26) p) (n_d4 (vI m 22 a) (n_hd m (vI m 0 27) p).toNat) (vI m 0 23) p = A at *
  generalize n_hv (fun j => m.1 23 (16 * d + j)) (n_sn m (vI m 0 26) p) (n_d4 (vI m 22 c) (n_hd m (vI m 0 27) p).toNat) (vI m 0 23) p = B at *
  have e1 := n_mulr (n_mulr h1 h2) (show 0 ≤ V p / 2 ∧ V p / 2 ≤ 499 by omega)
  have e2 := n_mulr (n_mulr h1 (show 0 ≤ 100 - B ∧ 100 - B ≤ 100 by omega)) hV
  omega
theorem n_ga_r {m : k_St} {V : Nat → Int} {n a b c d : Nat} (hk : n_mk m n V) : ∀ N, N ≤ n → 0 ≤ n_sum (fun p => n_gp m V a b c d p * vI m 13 (4 * p)) N ∧ n_sum (fun p => n_gp m V a b c d p * vI m 13 (4 * p)) N ≤ 1080000000 := fun N hN => by
  have h := n_sum_r (f := fun p => n_gp m V a b c d p * vI m 13 (4 * p)) (b := 20000000 * 9) (n := N) (fun p hp => n_mulr (n_gp_r hk (by omega)) (hk.2.2.2.2 p (by omega)).1.1)
  have h6 := hk.2.1
  omega
abbrev n_bo (F : Nat → Nat → Int) (z : Int) : Prop := 0 ≤ z ∧ z / 10 ≤ 3 ∧ z % 10 ≤ 3 ∧ 0 ≤ F (z / 10).toNat (z % 10).toNat
theorem n_hasGO {σ : k_St} {b : Int} (hb : -2147483648 ≤ b ∧ b ≤ 2147483647) (h : ¬ (0 ≤ b ∧ b ≤ 3)) : f_X5_hasTugs (iI b) σ = some (iI 0) := by
  unfold f_X5_hasTugs f_X11_isShelf
  simp (disch := omega) only [iI_lit, n_within, n_bd, n_gdt n_isB, n_ib]
  rw [if_neg h]
theorem n_isBoX {σX σM x : k_St} {n : Nat} {z : Int} (hx : x_c σX = x) (hR : r_all x (m_c σM)) (hk : n_mk (m_c σM) n (fun p => vI x 14 p)) (hz : -2147483648 ≤ z ∧ z ≤ 2147483647) : f_X5_isBoat (iI z) σX = some (iB (n_bo (n_Fi (m_c σM) (fun p => vI x 14 p) n) z)) := by
  have hn6 := hk.2.1
  unfold f_X5_isBoat
  generalize hr : iB (n_bo (n_Fi (m_c σM) (fun p => vI x 14 p) n) z) = r
  simp only [iI_lit]
  rw [n_ilt hz (by omega)]
  by_cases c0 : z < 0
  · rw [if_pos c0, ← hr, n_bf (fun q => by have := q.1; omega)]
  rw [if_neg c0, iI_div2 hz (by omega), iI_rem2 hz (by omega), Int.tdiv_eq_ediv_of_nonneg (by omega), Int.tmod_eq_emod_of_nonneg (by omega)]
  by_cases c1 : z / 10 ≤ 3
  rotate_left
  · rw [n_hasGO (by omega) (by omega), n_bd, n_ift rfl, ← hr, n_bf (fun q => c1 q.2.1)]
  obtain ⟨a, ha⟩ := Int.eq_ofNat_of_zero_le (show 0 ≤ z / 10 by omega)
  by_cases c2 : z % 10 ≤ 3
  rotate_left
  · obtain ⟨e1, _, _⟩ := n_shelved (a := a) (b := 0) hx hR hk.1 hn6 (by omega) (by omega)
    rw [ha, e1, n_bd, n_hasTO (by omega) (by omega), ← hr, n_bf (fun q => c2 q.2.2.1)]
    by_cases c3 : vI (m_c σM) 22 a = -1
    · rw [if_pos c3, n_ift rfl]
    · rw [if_neg c3, n_iff n_10, n_bd, n_ift rfl]
  obtain ⟨b, hb⟩ := Int.eq_ofNat_of_zero_le (show 0 ≤ z % 10 by omega)
  obtain ⟨e1, e2, _⟩ := n_shelved (a := a) (b := b) hx hR hk.1 hn6 (by omega) (by omega)
  have h0 := n_Fi_0 hk a b
  rw [ha, hb, e1, n_bd, e2]
  by_cases c3 : vI (m_c σM) 22 a = -1
  · rw [if_pos c3, n_ift rfl, ← hr, n_bf (fun q => by
      have := q.2.2.2
      rw [ha, hb, Int.toNat_natCast, Int.toNat_natCast] at this
      exact (h0.mp this).1 c3)]
  · rw [if_neg c3, n_iff n_10, n_bd]
    by_cases c4 : (m_c σM).1 24 b = 0
    · rw [if_pos c4, n_ift rfl, ← hr, n_bf (fun q => by
        have := q.2.2.2
        rw [ha, hb, Int.toNat_natCast, Int.toNat_natCast] at this
        exact (h0.mp this).2 c4)]
    · rw [if_neg c4, n_iff n_10, ← hr, n_bt ⟨by omega, c1, c2, by
        rw [ha, hb, Int.toNat_natCast, Int.toNat_natCast]
        exact h0.mpr ⟨c3, c4⟩⟩]
theorem n_areO2 {σ : k_St} {a b : Int} (ha : -2147483648 ≤ a ∧ a ≤ 2147483647) (h : ¬ (0 ≤ a ∧ a ≤ 3)) : f_X12_areShelved (iI a) (iI b) σ = some (iI 0) := by
  unfold f_X12_areShelved
  simp (disch := omega) only [iI_lit, n_in, n_within, n_bd, n_ib]
  rw [if_neg h]
theorem n_isBoM {σX s σM x : k_St} {n : Nat} {z : Int} (hx : x_c σX = x) (hs : m_c s = m_c σM) (hR : r_all x (m_c σM)) (hk : n_mk (m_c σM) n (fun p => vI x 14 p)) (hz : -2147483648 ≤ z ∧ z ≤ 2147483647) : f_X12_isBoat (iI z) s = some (iB (n_bo (n_Fi (m_c σM) (fun p => vI x 14 p) n) z)) := by
  unfold f_X12_isBoat
  generalize hr : iB (n_bo (n_Fi (m_c σM) (fun p => vI x 14 p) n) z) = r
  simp only [iI_lit]
  rw [n_ilt hz (by omega)]
  by_cases c0 : z < 0
  · rw [if_pos c0, ← hr, n_bf (fun q => by have := q.1; omega)]
  rw [if_neg c0, iI_div2 hz (by omega), iI_rem2 hz (by omega), Int.tdiv_eq_ediv_of_nonneg (by omega), Int.tmod_eq_emod_of_nonneg (by omega)]
  by_cases c1 : z / 10 ≤ 3
  rotate_left
  · rw [n_areO2 (by omega) (by omega), n_bd, n_ift rfl, ← hr, n_bf (fun q => c1 q.2.1)]
  obtain ⟨a, ha⟩ := Int.eq_ofNat_of_zero_le (show 0 ≤ z / 10 by omega)
  by_cases c2 : z % 10 ≤ 3
  rotate_left
  · rw [ha, n_areO (by omega) (by omega) (by omega), n_bd, n_ift rfl, ← hr, n_bf (fun q => c2 q.2.2.1)]
  obtain ⟨b, hb⟩ := Int.eq_ofNat_of_zero_le (show 0 ≤ z % 10 by omega)
  rw [ha, hb, n_areS hx hs hR hk (by omega) (by omega), n_bd, n_ib]
  by_cases c3 : 0 ≤ n_Fi (m_c σM) (fun p => vI x 14 p) n a b
  · rw [if_pos c3, ← hr, n_bt ⟨by omega, c1, c2, by
      rw [ha, hb, Int.toNat_natCast, Int.toNat_natCast]
      exact c3⟩]
  · rw [if_neg c3, ← hr, n_bf (fun q => by
      have := q.2.2.2
      rw [ha, hb, Int.toNat_natCast, Int.toNat_natCast] at this
      exact c3 this)]
/-- boats' rows -/
theorem n_shT {σX σM x : k_St} {n a b : Nat} (hx : x_c σX = x) (hR : r_all x (m_c σM)) (hk : n_mk (m_c σM) n (fun p => vI x 14 p)) (ha : a < 4) (hb : b < 4) (h : 0 ≤ n_Fi (m_c σM) (fun p => vI x 14 p) n a b) : (σX.1 43 a = iI (n_e4 (n_d4 (vI (m_c σM) 22 a))) ∧ r_4 (n_d4 (vI (m_c σM) 22 a)) ∧ (0 ≤ vI (m_c σM) 22 a ∧ vI (m_c σM) 22 a ≤ 9999)) ∧ r_R n (fun j => (m_c σM).1 23 (16 * b + j)) (σX.2 44 b) := by
  obtain ⟨hTap, hLak, hNow, hImg, hShf, hSee, hLrn, hLaw, hVal⟩ := id hR
  have b2 := hLak.2.1.2
  obtain ⟨c1, c2⟩ := (n_Fi_0 hk a b).mp h
  have k1 := hk.1
  rcases (hShf a ha).1 with ⟨s1, s2⟩ | ⟨s1, s2, s3, s4⟩
  · exact absurd (show vI (m_c σM) 22 a = -1 by unfold vI; rw [s1]; rfl) c1
  rcases (hShf b hb).2 with ⟨t1, t2⟩ | ⟨t1, t2, t3⟩
  · exact absurd t1 c2
  rw [k1] at t3
  refine ⟨⟨(n_core_1 hx rfl).trans s4, s2.r4 b2.2, s3⟩, ?_⟩
  rw [show σX.2 44 b = x.2 44 b from n_core_2 hx rfl]
  exact t3
theorem n_hitBy {σX σM x : k_St} {n p : Nat} {f : Nat → Int} {R : Nat → Int32} {X : Int64} (hx : x_c σX = x) (hR : r_all x (m_c σM)) (hk : n_mk (m_c σM) n (fun p => vI x 14 p)) (hp : p < n) (hf : r_4 f) (hRR : r_R n R X) : f_X0_hitBy (iI p) (iI (n_e4 f)) X σX = some (iI (n_hv R (n_sn (m_c σM) (vI (m_c σM) 0 26) p) (f (n_hd (m_c σM) (vI (m_c σM) 0 27) p).toNat) (vI (m_c σM) 0 23) p)) := by
  obtain ⟨hTap, hLak, hNow, hImg, hShf, hSee, hLrn, hLaw, hVal⟩ := id hR
  obtain ⟨h1, h2, h3, h4, h5, h6, h7, h8⟩ := id hNow
  have hh := hk.hd hp (vI (m_c σM) 0 27)
  have hy := hf (n_hd (m_c σM) (vI (m_c σM) 0 27) p).toNat (by omega)
  have esg := n_sign hf (s := (n_hd (m_c σM) (vI (m_c σM) 0 27) p).toNat) (by omega)
  rw [show (((n_hd (m_c σM) (vI (m_c σM) 0 27) p).toNat : Nat) : Int) = n_hd (m_c σM) (vI (m_c σM) 0 27) p by omega] at esg
  unfold f_X0_hitBy
  rw [n_rX hx rfl h4.1, n_rX hx rfl h5.1, n_heardX hx hk hLak hp (vI_rg _ _ _), n_bd, esg, n_bd, n_hit hx hk hLak h6.1 hRR hp hy (vI_rg _ _ _), n_bd]
def n_gx (m : k_St) (V : Nat → Int) (n a b c d : Nat) : Int := if 0 ≤ n_Fi m V n a b ∧ 0 ≤ n_Fi m V n c d then n_ga m V n a b c d else -1
theorem n_gx_r {m : k_St} {V : Nat → Int} {n : Nat} (hk : n_mk m n V) (a b c d : Nat) : -1 ≤ n_gx m V n a b c d ∧ n_gx m V n a b c d ≤ 1080000000 := by
  have := n_ga_r (a := a) (b := b) (c := c) (d := d) hk n (Nat.le_refl _)
  unfold n_gx n_ga
  split <;> omega
theorem n_gainX {σX σM x : k_St} {n a b c d : Nat} (hx : x_c σX = x) (hR : r_all x (m_c σM)) (hk : n_mk (m_c σM) n (fun p => vI x 14 p)) (ha : a < 4) (hb : b < 4) (hc : c < 4) (hd : d < 4) : f_X5_gainOf (iI (10 * (a : Int) + (b : Int))) (iI (10 * (c : Int) + (d : Int))) σX = some (iL (n_gx (m_c σM) (fun p => vI x 14 p) n a b c d)) := by
  obtain ⟨hTap, hLak, hNow, hImg, hShf, hSee, hLrn, hLaw, hVal⟩ := id hR
  have hn6 := hk.2.1
  have d1 : (10 * (a : Int) + (b : Int)) / 10 = a := by omega
  have d2 : (10 * (a : Int) + (b : Int)) % 10 = b := by omega
  have d3 : (10 * (c : Int) + (d : Int)) / 10 = c := by omega
  have d4 : (10 * (c : Int) + (d : Int)) % 10 = d := by omega
  unfold f_X5_gainOf
  simp only [iI_lit]
  rw [n_isBoX hx hR hk (by omega), n_bd, n_ib]
  by_cases c1 : 0 ≤ n_Fi (m_c σM) (fun p => vI x 14 p) n a b
  rotate_left
  · rw [if_neg (fun q => c1 (by
      have := q.2.2.2
      rw [d1, d2, Int.toNat_natCast, Int.toNat_natCast] at this
      exact this))]
    unfold n_gx
    rw [if_neg (fun q => c1 q.1)]
    rfl
  rw [if_pos (show n_bo (n_Fi (m_c σM) (fun p => vI x 14 p) n) (10 * (a : Int) + (b : Int)) from ⟨by omega, by omega, by omega, by
    rw [d1, d2, Int.toNat_natCast, Int.toNat_natCast]
    exact c1⟩), n_isBoX hx hR hk (by omega), n_bd, n_ib]
  by_cases c2 : 0 ≤ n_Fi (m_c σM) (fun p => vI x 14 p) n c d
  rotate_left
  · rw [if_neg (fun q => c2 (by
      have := q.2.2.2
      rw [d3, d4, Int.toNat_natCast, Int.toNat_natCast] at this
      exact this))]
    unfold n_gx
    rw [if_neg (fun q => c2 q.2)]
    rfl
  rw [if_pos (show n_bo (n_Fi (m_c σM) (fun p => vI x 14 p) n) (10 * (c : Int) + (d : Int)) from ⟨by omega, by omega, by omega, by
    rw [d3, d4, Int.toNat_natCast, Int.toNat_natCast]
    exact c2⟩)]
  obtain ⟨⟨t1, t2, t3⟩, t4⟩ := n_shT hx hR hk ha hb c1
  obtain ⟨⟨u1, u2, u3⟩, u4⟩ := n_shT hx hR hk hc hd c2
  unfold n_gx
  rw [if_pos ⟨c1, c2⟩]
  have e0 : k_rd σX 12 0 = iI (n : Int) := by rw [n_rX hx rfl hLak.1.1, hk.1]
  rw [e0, iI_div2 (by omega) (by omega), iI_rem2 (by omega) (by omega), iI_div2 (by omega) (by omega), iI_rem2 (by omega) (by omega), Int.tdiv_eq_ediv_of_nonneg (by omega), Int.tmod_eq_emod_of_nonneg (by omega), Int.tdiv_eq_ediv_of_nonneg (by omega), Int.tmod_eq_emod_of_nonneg (by omega), d1, d2, d3, d4]
  unfold n_ga
  refine ok_eq.mp (ok_for n (fun p (y : Int64 × Int32) => y = (iL (n_sum (fun p => n_gp (m_c σM) (fun p => vI x 14 p) a b c d p * vI (m_c σM) 13 (4 * p)) p), iI p)) ?_ (by omega) (j := 0) rfl (by omega))
  rintro g p _ rfl hp hg
  show k_OK (k_if _ _ _) _
  rw [n_ile (by omega) (by omega)]
  by_cases c3 : (n : Int) ≤ p
  · rw [if_pos c3, ok_some, show p = n by omega]
  have hpn : p < n := by omega
  have hV := (hk.2.2.2.2 p hpn).2.2
  have hV : 0 ≤ vI x 14 p ∧ vI x 14 p ≤ 999 := hV
  have hw := (hk.2.2.2.2 p hpn).1.1
  have hh1 := n_hvr (R := fun j => (m_c σM).1 23 (16 * b + j)) (sn := n_sn (m_c σM) (vI (m_c σM) 0 26) p) (y := n_d4 (vI (m_c σM) 22 a) (n_hd (m_c σM) (vI (m_c σM) 0 27) p).toNat) (p := p) hk.2.2.1
  have hh2 := n_hvr (R := fun j => (m_c σM).1 23 (16 * d + j)) (sn := n_sn (m_c σM) (vI (m_c σM) 0 26) p) (y := n_d4 (vI (m_c σM) 22 c) (n_hd (m_c σM) (vI (m_c σM) 0 27) p).toNat) (p := p) hk.2.2.1
  have ew : f_X1_worthOf (iI (p : Int)) σX = some (iI (vI x 14 p)) := by
    unfold f_X1_worthOf
    simp (disch := omega) only [iI_lit, n_ilt, n_ile, n_gix, iI_cl, Int.toNat_natCast]
    rw [if_neg (by omega), if_neg (by omega), n_core_I hx rfl]
  have et : f_X1_told (iI (p : Int)) (iI 0) σX = some (iI (vI (m_c σM) 13 (4 * p))) := by
    rw [show iI 0 = iI ((0 : Nat) : Int) from rfl, n_told (by omega) (by omega)]
    have e := (hLak.2.2.2.2.2 p (by rw [hk.1]; omega)).1 0 (by omega)
    rw [← n_core_1 hx (c := 13) (k := 4 * p + 0) rfl] at e
    rw [e]
    exact congrArg some (iI_of ((m_c σM).1 13 (4 * p)))
  have q43a : k_rd σX 43 a = _ := t1
  have q43c : k_rd σX 43 c = _ := u1
  rw [if_neg c3, n_gix (by omega) (by omega), n_gix (by omega) (by omega), iI_cl (by omega), iI_cl (by omega), Int.toNat_natCast, Int.toNat_natCast, q43a, show k_rl σX 44 b = σX.2 44 b from rfl, n_hitBy hx hR hk hpn t2 t4, n_bd, iI_l (by omega), ok_nm, n_gix (by omega) (by omega), n_gix (by omega) (by omega), iI_cl (by omega), iI_cl (by omega), Int.toNat_natCast, Int.toNat_natCast, q43c, show k_rl σX 44 d = σX.2 44 d from rfl, n_hitBy hx hR hk hpn u2 u4, n_bd, iI_l (by omega), ok_nm, ew, n_bd, iI_l (by omega), ok_nm, ok_nm, et, n_bd, iI_l (by omega), show (2 : Int64) = iL 2 from rfl, show (100 : Int64) = iL 100 from rfl, iL_div (by omega) (by omega), Int.tdiv_eq_ediv_of_nonneg (by omega)]
  simp only [iL_mul, iL_sub, iL_add]
  rw [ok_nm, ok_nm, iI_add]
  exact hg _ (by omega) rfl
