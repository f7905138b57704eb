/-! all TUGS, both ways -/
def n_sb (k e : Nat) : Bool := decide (e / 64 % 4 < k) && (decide (e / 16 % 4 < k) && (decide (e / 4 % 4 < k) && decide (e % 4 < k)))
def n_rk (k e : Nat) : Nat := n_cE (n_sb k) e
def n_dk (k j s : Nat) : Nat := j / k ^ (3 - s) % k
/-- the rank, reckoned -/
def n_rq (k e : Nat) : Nat := (((e / 64 % 4) * k + e / 16 % 4) * k + e / 4 % 4) * k + e % 4
def n_rkc (k e : Nat) : Bool := !(n_sb k e) || (decide (n_rk k e = n_rq k e) && (decide (n_dk k (n_rq k e) 0 = e / 64 % 4) && (decide (n_dk k (n_rq k e) 1 = e / 16 % 4) && (decide (n_dk k (n_rq k e) 2 = e / 4 % 4) && decide (n_dk k (n_rq k e) 3 = e % 4)))))
set_option maxRecDepth 100000 in
theorem n_rkD : ∀ k, k < 5 → 1 ≤ k → ∀ e, e < 256 → n_rkc k e = true := by decide +kernel
theorem n_rk4 {k e : Nat} (hk : 1 ≤ k ∧ k ≤ 4) (he : e < 256) (h : n_sb k e = true) : n_dk k (n_rk k e) 0 = e / 64 % 4 ∧ n_dk k (n_rk k e) 1 = e / 16 % 4 ∧ n_dk k (n_rk k e) 2 = e / 4 % 4 ∧ n_dk k (n_rk k e) 3 = e % 4 := by
  have q := n_rkD k (by omega) hk.1 e he
  unfold n_rkc at q
  rw [h] at q
  simp only [Bool.not_true, Bool.false_or, Bool.and_eq_true, decide_eq_true_eq] at q
  rw [q.1]
  exact q.2
set_option maxRecDepth 100000 in
theorem n_rk256 : ∀ k, k < 5 → 1 ≤ k → n_rk k 256 = k * k * k * k := by decide +kernel
theorem n_rk_s {k e : Nat} : n_rk k (e + 1) = n_rk k e + (if n_sb k e = true then 1 else 0) := rfl
theorem n_enum {k : Nat} {E4 Ek : Nat → Bool} {v4 vk : Nat → Int} {z : Int} (h : ∀ e, e < 256 → E4 e = (n_sb k e && Ek (n_rk k e))) (hv : ∀ e, e < 256 → n_sb k e = true → v4 e = vk (n_rk k e)) : ∀ e, e ≤ 256 → n_cE E4 e = n_cE Ek (n_rk k e) ∧ n_pk E4 v4 z e = n_pk Ek vk z (n_rk k e)
  | 0, _ => ⟨rfl, rfl⟩
  | e + 1, he => by
    obtain ⟨h1, h2⟩ := n_enum (z := z) h hv e (by omega)
    have h3 := h e (by omega)
    have e1 : n_cE E4 (e + 1) = n_cE E4 e + (if E4 e = true then 1 else 0) := rfl
    have e2 : n_pk E4 v4 z (e + 1) = if E4 e = true ∧ (n_cE E4 e : Int) = z then v4 e else n_pk E4 v4 z e := rfl
    rw [e1, e2, n_rk_s, h1, h2, h3]
    by_cases c : n_sb k e = true
    · rw [c, Bool.true_and, if_pos rfl, hv e (by omega) c]
      exact ⟨rfl, rfl⟩
    · rw [show n_sb k e = false from Bool.eq_false_iff.mpr c, Bool.false_and]
      simp
theorem n_nth {σ : k_St} {a j k : Nat} (ha : k_nM a = 4) (hk : 1 ≤ k ∧ k ≤ 4) (hj : j < 256) : k_OK (f_X12_nth (iI j) (iI k) a σ) (fun s => n_Fr (fun c => c = a) σ s ∧ ∀ t, t < 4 → s.1 a t = iI (n_dk k j t : Nat)) := by
  unfold f_X12_nth
  rw [ha]
  simp only [iI_lit]
  have hk0 : ¬ iI (k : Int) = 0 := fun q => by
    have := (iI_eq (a := k) (b := 0) (by omega) (by omega)).mp q
    omega
  refine ok_for 4 (fun t (y : Int32 × Int32 × k_St) => y.1 = iI (j / k ^ t : Nat) ∧ y.2.1 = iI (3 - (t : Int)) ∧ n_Fr (fun c => c = a) σ y.2.2 ∧ ∀ u, u < 4 → 4 - t ≤ u → y.2.2.1 a u = iI (n_dk k j u : Nat)) ?_ (by omega) (j := 0) ⟨by show iI (j : Int) = _; rw [Nat.pow_zero, Nat.div_one], rfl, n_Fr.rf, fun u h1 h2 => absurd h2 (by omega)⟩ (by omega)
  rintro g t ⟨v, i, s⟩ ⟨h1, h2, hF, hz⟩ ht hg
  have h1 : v = iI (j / k ^ t : Nat) := h1
  have h2 : i = iI (3 - (t : Int)) := h2
  subst h1
  subst h2
  have hF : n_Fr (fun c => c = a) σ s := hF
  have hz : ∀ u, u < 4 → 4 - t ≤ u → s.1 a u = iI (n_dk k j u : Nat) := hz
  show k_OK (k_if _ _ _) _
  rw [n_ilt (by omega) (by omega)]
  by_cases c : 3 - (t : Int) < 0
  · rw [if_pos c, ok_some]
    exact ⟨hF, fun u hu => hz u hu (by omega)⟩
  have hle : j / k ^ t ≤ j := Nat.div_le_self _ _
  have hdd : j / k ^ t / k = j / k ^ (t + 1) := by
    rw [Nat.div_div_eq_div_mul, ← Nat.pow_succ]
  have hdk : ∀ u, u = 3 - t → n_dk k j u = j / k ^ t % k := fun u hu => by
    unfold n_dk
    rw [show 3 - u = t by omega]
  generalize j / k ^ t = q at *
  rw [if_neg c, n_gdt (show ¬ iI (k : Int) = iI 0 from hk0), n_gix (by omega) (by omega), iI_cl (by omega), iI_rem2 (by omega) (by omega), ok_nm, n_gdt (show ¬ iI (k : Int) = iI 0 from hk0), iI_div2 (by omega) (by omega), ok_nm, ok_nm]
  refine hg _ (by omega) ⟨?_, ?_, hF.wr rfl, fun u hu hu2 => ?_⟩
  · show iI ((q : Int).tdiv k) = _
    rw [show (q : Int).tdiv k = ((q / k : Nat) : Int) from rfl, hdd]
  · show iI (3 - (t : Int)) + -iI 1 = _
    rw [iI_neg, iI_add]
    congr 1
    omega
  · show (k_wr s a (3 - (t : Int)).toNat (iI ((q : Int).tmod k))).1 a u = _
    by_cases e : u = 3 - t
    · rw [show (3 - (t : Int)).toNat = u by omega, wr_s]
      rw [hdk u e]
      rfl
    · rw [wr_k (by omega)]
      exact hz u hu (by omega)
theorem n_below4 {e k : Nat} (he : e < 256) (hk : k ≤ 4) : f_X11_signsBelow (iI e) (iI k) = some (iB (n_sb k e = true)) := by
  have hs : ∀ s : Nat, s < 4 → f_X11_signOf (iI (e : Int)) (iI (s : Int)) = some (iI ((e / 4 ^ (3 - s) % 4 : Nat) : Int)) := fun s hs => by
    rw [← iI_nat, ← iI_nat, n_sgD e he s hs, iI_nat]
  have hb : n_sb k e = true ↔ ∀ s, s < 4 → e / 4 ^ (3 - s) % 4 < k := by
    unfold n_sb
    simp only [Bool.and_eq_true, decide_eq_true_eq]
    constructor
    · rintro ⟨q0, q1, q2, q3⟩ s hs
      rcases (show s = 0 ∨ s = 1 ∨ s = 2 ∨ s = 3 by omega) with rfl | rfl | rfl | rfl
      · exact q0
      · exact q1
      · exact q2
      · simpa using q3
    · intro q
      have q3 := q 3 (by omega)
      exact ⟨q 0 (by omega), q 1 (by omega), q 2 (by omega), by simpa using q3⟩
  unfold f_X11_signsBelow
  simp only [iI_lit]
  refine ok_eq.mp (ok_for 4 (fun j (y : Int32) => y = iI j ∧ ∀ s, s < j → e / 4 ^ (3 - s) % 4 < k) ?_ (by omega) (j := 0) ⟨rfl, fun s h => absurd h (by omega)⟩ (by omega))
  rintro g j _ ⟨rfl, hA⟩ hj hg
  show k_OK (k_if _ _ _) _
  rw [n_ile (by omega) (by omega)]
  by_cases c : (4 : Int) ≤ j
  · rw [if_pos c, ok_some, n_bt (hb.mpr (fun s hs => hA s (by omega)))]
  have hm := Nat.mod_lt (e / 4 ^ (3 - j)) (show 0 < 4 by omega)
  rw [if_neg c, hs j (by omega), n_bd, n_ilt (by omega) (by omega)]
  by_cases c2 : ((e / 4 ^ (3 - j) % 4 : Nat) : Int) < k
  · rw [if_pos c2, ok_nm, iI_add]
    refine hg _ (by omega) ⟨rfl, fun s hs => ?_⟩
    by_cases e : s = j
    · subst e
      omega
    · exact hA s (by omega)
  · rw [if_neg c2, ok_some, n_bf (fun q => by have := hb.mp q j (by omega); omega)]
