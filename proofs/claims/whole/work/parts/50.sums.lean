/-! sums -/
theorem n_sum_c {f g : Nat → Int} : ∀ {n : Nat}, (∀ p, p < n → f p = g p) → n_sum f n = n_sum g n
  | 0, _ => rfl
  | n + 1, h => by
    show n_sum f n + f n = n_sum g n + g n
    rw [n_sum_c (fun p hp => h p (by omega)), h n (by omega)]
theorem n_sum_z : ∀ n : Nat, n_sum (fun _ => 0) n = 0
  | 0 => rfl
  | n + 1 => by
    show n_sum (fun _ => 0) n + 0 = 0
    rw [n_sum_z n]
    rfl
theorem n_sum_add {f g : Nat → Int} : ∀ n : Nat, n_sum (fun p => f p + g p) n = n_sum f n + n_sum g n
  | 0 => rfl
  | n + 1 => by
    show n_sum (fun p => f p + g p) n + (f n + g n) = (n_sum f n + f n) + (n_sum g n + g n)
    rw [n_sum_add n]
    omega
theorem n_sum_swap {F : Nat → Nat → Int} {n : Nat} : ∀ k : Nat, n_sum (fun c => n_sum (fun p => F c p) n) k = n_sum (fun p => n_sum (fun c => F c p) k) n
  | 0 => (n_sum_z n).symm
  | k + 1 => by
    show n_sum (fun c => n_sum (fun p => F c p) n) k + n_sum (fun p => F k p) n = n_sum (fun p => n_sum (fun c => F c p) k + F k p) n
    rw [n_sum_swap k, n_sum_add]
theorem n_sum_one {f : Nat → Int} {q : Nat} : ∀ n : Nat, n_sum (fun p => if p = q then f p else 0) n = if q < n then f q else 0
  | 0 => rfl
  | n + 1 => by
    show n_sum (fun p => if p = q then f p else 0) n + (if n = q then f n else 0) = _
    rw [n_sum_one n]
    by_cases e : n = q
    · subst e
      rw [if_pos rfl, if_neg (by omega), if_pos (by omega)]
      omega
    · by_cases h : q < n
      · rw [if_neg e, if_pos h, if_pos (by omega)]
        omega
      · rw [if_neg e, if_neg h, if_neg (by omega)]
        rfl
theorem n_sum_r {f : Nat → Int} {b : Int} : ∀ {n : Nat}, (∀ p, p < n → 0 ≤ f p ∧ f p ≤ b) → 0 ≤ n_sum f n ∧ n_sum f n ≤ n * b
  | 0, _ => ⟨by show (0 : Int) ≤ 0; omega, by show (0 : Int) ≤ (0 : Nat) * b; simp⟩
  | n + 1, h => by
    have h1 := n_sum_r (f := f) (b := b) (n := n) (fun p hp => h p (by omega))
    have h2 := h n (by omega)
    show 0 ≤ n_sum f n + f n ∧ n_sum f n + f n ≤ ((n + 1 : Nat) : Int) * b
    have e : ((n + 1 : Nat) : Int) * b = n * b + b := by
      rw [Int.natCast_add, Int.add_mul]
      simp
    omega
/-! what is heard and seen at a place -/
def n_hd (m : k_St) (th : Int) (p : Nat) : Int := if th = 0 then vI m 13 (4 * p + 1) else 0
def n_sn (m : k_St) (fg : Int) (p : Nat) : Int := if fg = 0 then vI m 13 (4 * p + 2) else 0
def n_mk (m : k_St) (n : Nat) (V : Nat → Int) : Prop := vI m 0 21 = n ∧ n ≤ 6 ∧ (0 ≤ vI m 0 23 ∧ vI m 0 23 ≤ 99) ∧ (vI m 0 30 = -1 ∨ 0 ≤ vI m 0 30 ∧ vI m 0 30 < 4) ∧ ∀ p, p < n → ((0 ≤ vI m 13 (4 * p) ∧ vI m 13 (4 * p) ≤ 9) ∧ (0 ≤ vI m 13 (4 * p + 1) ∧ vI m 13 (4 * p + 1) ≤ 3) ∧ (0 ≤ vI m 13 (4 * p + 2) ∧ vI m 13 (4 * p + 2) ≤ 3)) ∧ m_V m p = some (V p) ∧ 0 ≤ V p ∧ V p ≤ 999
theorem r_all.mk {x m : k_St} (h : r_all x m) : ∃ n : Nat, n_mk m n (fun p => vI x 14 p) := by
  obtain ⟨hTap, hLak, hNow, hImg, hShf, hSee, hLrn, hLaw, hVal⟩ := h
  obtain ⟨l1, l2, l3, l4, l5, l6⟩ := hLak
  obtain ⟨n, hn⟩ := Int.eq_ofNat_of_zero_le l1.2.1
  have b := l1.2
  have b23 : 0 ≤ vI m 0 23 ∧ vI m 0 23 ≤ 99 := hNow.2.2.2.2.2.1.2
  have h1 := hLaw.1.2
  have h2 := hLaw.2.1.2
  refine ⟨n, hn, by omega, b23, by omega, fun p hp => ?_⟩
  obtain ⟨u1, u2, u3, u4, u5⟩ := l6 p (by omega)
  obtain ⟨v1, v2, v3⟩ := hVal p (by omega)
  exact ⟨⟨u2, u3, u4⟩, v1, v2⟩
theorem n_mk.hd {m : k_St} {n : Nat} {V : Nat → Int} (h : n_mk m n V) {p : Nat} (hp : p < n) (th : Int) : 0 ≤ n_hd m th p ∧ n_hd m th p ≤ 3 := by
  have := (h.2.2.2.2 p hp).1.2.1
  unfold n_hd
  split <;> omega
theorem n_mk.sn {m : k_St} {n : Nat} {V : Nat → Int} (h : n_mk m n V) {p : Nat} (hp : p < n) (fg : Int) : 0 ≤ n_sn m fg p ∧ n_sn m fg p ≤ 3 := by
  have := (h.2.2.2.2 p hp).1.2.2
  unfold n_sn
  split <;> omega
theorem n_heardM {σ : k_St} {p : Nat} (hp : p < 6) : f_X12_heard (iI p) σ = some (iI (n_hd (m_c σ) (vI (m_c σ) 0 27) p)) := by
  unfold f_X12_heard n_hd
  have r := vI_rg (m_c σ) 0 27
  simp (disch := omega) only [iI_lit, n_core_I (s := m_scr) (σ := σ) rfl (c := 0) (k := 27) rfl, n_ieq]
  by_cases c : vI (m_c σ) 0 27 = 0
  · rw [if_pos c, if_pos c, show iI 1 = iI ((1 : Nat) : Int) from rfl, n_of hp (by omega), n_bd]
    exact congrArg some (iI_of (σ.1 13 (4 * p + 1)))
  · rw [if_neg c, if_neg c]
theorem n_seenM {σ : k_St} {p : Nat} (hp : p < 6) : f_X12_seenAt (iI p) σ = some (iI (n_sn (m_c σ) (vI (m_c σ) 0 26) p)) := by
  unfold f_X12_seenAt n_sn
  have r := vI_rg (m_c σ) 0 26
  simp (disch := omega) only [iI_lit, n_core_I (s := m_scr) (σ := σ) rfl (c := 0) (k := 26) rfl, n_ieq]
  by_cases c : vI (m_c σ) 0 26 = 0
  · rw [if_pos c, if_pos c, show iI 2 = iI ((2 : Nat) : Int) from rfl, n_of hp (by omega), n_bd]
    exact congrArg some (iI_of (σ.1 13 (4 * p + 2)))
  · rw [if_neg c, if_neg c]
theorem n_heardX {σ x m : k_St} {p n : Nat} {V : Nat → Int} {th : Int} (hx : x_c σ = x) (hk : n_mk m n V) (hl : r_lak x m) (hp : p < n) (ht : -2147483648 ≤ th ∧ th ≤ 2147483647) : f_X1_heard (iI p) (iI th) σ = some (iI (n_hd m th p)) := by
  have := hk.2.1
  unfold f_X1_heard n_hd
  simp (disch := omega) only [iI_lit, n_ieq]
  by_cases c : th = 0
  · rw [if_pos c, if_pos c, show iI 1 = iI ((1 : Nat) : Int) from rfl, n_told (by omega) (by omega), n_bd]
    have e := (hl.2.2.2.2.2 p (by rw [hk.1]; omega)).1 1 (by omega)
    rw [← n_core_1 hx (c := 13) (k := 4 * p + 1) rfl] at e
    rw [e]
    exact congrArg some (iI_of (m.1 13 (4 * p + 1)))
  · rw [if_neg c, if_neg c]
theorem n_seenX {σ x m : k_St} {p n : Nat} {V : Nat → Int} {fg : Int} (hx : x_c σ = x) (hk : n_mk m n V) (hl : r_lak x m) (hp : p < n) (ht : -2147483648 ≤ fg ∧ fg ≤ 2147483647) : f_X1_seen (iI p) (iI fg) σ = some (iI (n_sn m fg p)) := by
  have := hk.2.1
  unfold f_X1_seen n_sn
  simp (disch := omega) only [iI_lit, n_ieq]
  by_cases c : fg = 0
  · rw [if_pos c, if_pos c, show iI 2 = iI ((2 : Nat) : Int) from rfl, n_told (by omega) (by omega), n_bd]
    have e := (hl.2.2.2.2.2 p (by rw [hk.1]; omega)).1 2 (by omega)
    rw [← n_core_1 hx (c := 13) (k := 4 * p + 2) rfl] at e
    rw [e]
    exact congrArg some (iI_of (m.1 13 (4 * p + 2)))
  · rw [if_neg c, if_neg c]
