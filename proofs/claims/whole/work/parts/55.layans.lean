/-! the best answers, both ways -/
def n_am (F : Nat → Int) : Nat → Nat
  | 0 => 0
  | P + 1 => if F P ≤ F (n_am F P) then n_am F P else P
def n_bv (F : Nat → Int) : Nat → Int
  | 0 => 0
  | P + 1 => if n_bv F P < F P then F P else n_bv F P
theorem n_am_r (F : Nat → Int) : ∀ P, n_am F P = 0 ∨ n_am F P < P
  | 0 => Or.inl rfl
  | P + 1 => by
    show (if F P ≤ F (n_am F P) then n_am F P else P) = 0 ∨ (if F P ≤ F (n_am F P) then n_am F P else P) < P + 1
    have := n_am_r F P
    split <;> omega
theorem n_am_1 {F : Nat → Int} : n_am F 1 = 0 := by
  show (if F 0 ≤ F (n_am F 0) then n_am F 0 else 0) = 0
  split <;> rfl
theorem n_bv_am {F : Nat → Int} {n : Nat} (h : ∀ p, p < n → 0 ≤ F p) : ∀ P, P ≤ n → 0 < P → n_bv F P = F (n_am F P)
  | 0, _, h0 => absurd h0 (by omega)
  | 1, _, _ => by
    rw [n_am_1]
    show (if 0 < F 0 then F 0 else 0) = F 0
    have := h 0 (by omega)
    split <;> omega
  | P + 2, hP, _ => by
    have ih := n_bv_am h (P + 1) (by omega) (by omega)
    show (if n_bv F (P + 1) < F (P + 1) then F (P + 1) else n_bv F (P + 1)) = F (if F (P + 1) ≤ F (n_am F (P + 1)) then n_am F (P + 1) else (P + 1))
    rw [ih]
    by_cases c : F (P + 1) ≤ F (n_am F (P + 1))
    · rw [if_pos c, if_neg (by omega)]
    · rw [if_neg c, if_pos (by omega)]
/-- a place better than all before -/
theorem n_am_s {F : Nat → Int} {n P : Nat} (h : ∀ p, p < n → 0 ≤ F p) (hP : P < n) : n_am F (P + 1) = if n_bv F P < F P then P else n_am F P := by
  show (if F P ≤ F (n_am F P) then n_am F P else P) = _
  cases P with
  | zero =>
    show (if F 0 ≤ F 0 then 0 else 0) = if 0 < F 0 then 0 else 0
    split <;> split <;> rfl
  | succ P =>
    rw [n_bv_am h (P + 1) (by omega) (by omega)]
    by_cases c : F (P + 1) ≤ F (n_am F (P + 1))
    · rw [if_pos c, if_neg (by omega)]
    · rw [if_neg c, if_pos (by omega)]
theorem n_B_r {m : k_St} {n : Nat} {V f : Nat → Int} (hk : n_mk m n V) {c p : Nat} (hp : p < n) : 0 ≤ n_B m V f c p ∧ n_B m V f c p ≤ 1798200 := by
  obtain ⟨⟨a1, _, _⟩, _, a2⟩ := hk.2.2.2.2 p hp
  have ht := n_t0r (y := f (n_hd m (vI m 0 27) p).toNat) hk.2.2.1
  have h1 := n_mulr (n_mulr a1 a2) (show 0 ≤ 100 - n_t0 (vI m 0 23) (f (n_hd m (vI m 0 27) p).toNat) ∧ 100 - n_t0 (vI m 0 23) (f (n_hd m (vI m 0 27) p).toNat) ≤ 100 by omega)
  have h2 := n_mulr (n_mulr a1 a2) (show 0 ≤ n_t0 (vI m 0 23) (f (n_hd m (vI m 0 27) p).toNat) ∧ n_t0 (vI m 0 23) (f (n_hd m (vI m 0 27) p).toNat) ≤ 100 by omega)
  unfold n_B
  split <;> split <;> omega
def i_SA (c : Nat) : Prop := c = 18
theorem n_layAnswers {σ m : k_St} {n : Nat} {V f : Nat → Int} (hm : m_c σ = m) (hk : n_mk m n V) (hn : 1 ≤ n) (hB : ∀ c, c < 16 → ∀ p, p < n → σ.1 17 (6 * c + p) = iI (n_B m V f c p)) : k_OK (f_X12_layAnswers σ) (fun s => n_Fr (fun c => c = 18) σ s ∧ ∀ c, c < 16 → s.1 18 c = iI (n_am (n_B m V f c) n : Nat)) := by
  have h6 := hk.2.1
  unfold f_X12_layAnswers
  simp only [iI_lit]
  refine ok_for 16 (fun j (z : Int32 × k_St) => z.1 = iI j ∧ n_Fr (fun c => c = 18) σ z.2 ∧ ∀ c, c < j → z.2.1 18 c = iI (n_am (n_B m V f c) n : Nat)) ?_ (by omega) (j := 0) ⟨rfl, n_Fr.rf, fun t h => absurd h (by omega)⟩ (Nat.zero_le _)
  rintro g0 j ⟨v, s⟩ ⟨rfl, hF, hz⟩ hj hg0
  have hF : n_Fr (fun c => c = 18) σ s := hF
  have hz : ∀ c, c < j → s.1 18 c = iI (n_am (n_B m V f c) n : Nat) := hz
  show k_OK (k_if _ _ _) _
  rw [n_ile (by omega) (by omega)]
  by_cases c0 : (16 : Int) ≤ j
  · rw [if_pos c0, ok_some]
    exact ⟨hF, fun c hc => hz c (by omega)⟩
  rw [if_neg c0, n_gix (by omega) (by omega), iI_cl (by omega), show ((j : Int)).toNat = j from rfl, ok_nm]
  refine ok_for (n - 1) (fun t (z : Int32 × k_St) => z.1 = iI ((t + 1 : Nat) : Int) ∧ n_Fr (fun c => c = 18) σ z.2 ∧ (∀ c, c < j → z.2.1 18 c = iI (n_am (n_B m V f c) n : Nat)) ∧ z.2.1 18 j = iI (n_am (n_B m V f j) (t + 1) : Nat)) ?_ (by omega) (j := 0) ⟨rfl, hF.wr rfl, fun c hc => by
    show (k_wr s 18 j (iI 0)).1 18 c = _
    rw [wr_k (by omega)]
    exact hz c hc, by
    show (k_wr s 18 j (iI 0)).1 18 j = _
    rw [wr_s, n_am_1]
    rfl⟩ (Nat.zero_le _)
  clear hF hz
  rintro g t ⟨v, s⟩ ⟨rfl, hF, hz, hj18⟩ ht hg
  have hF : n_Fr (fun c => c = 18) σ s := hF
  have hz : ∀ c, c < j → s.1 18 c = iI (n_am (n_B m V f c) n : Nat) := hz
  have hj18 : k_rd s 18 j = iI (n_am (n_B m V f j) (t + 1) : Nat) := hj18
  have hms : m_c s = m := (n_frM hF (fun c hc k => by rw [hc]; rfl)).trans hm
  have h17 : s.1 17 = σ.1 17 := (hF 17 (by decide)).1
  show k_OK (k_if _ _ _) _
  rw [n_core_I hms (c := 0) (k := 21) rfl, hk.1, n_ile (by omega) (by omega)]
  by_cases c1 : (n : Int) ≤ ((t + 1 : Nat) : Int)
  · rw [if_pos c1, ok_nm, iI_add]
    have e : t + 1 = n := by omega
    refine hg0 _ (by omega) ⟨rfl, hF, fun c hc => ?_⟩
    by_cases e2 : c = j
    · rw [e2]
      show k_rd s 18 j = _
      rw [hj18, e]
    · exact hz c (by omega)
  rw [if_neg c1]
  have ham := n_am_r (n_B m V f j) (t + 1)
  have e1 := hB j (by omega) (t + 1) (by omega)
  have e2 := hB j (by omega) (n_am (n_B m V f j) (t + 1)) (by omega)
  have r1 := n_B_r (f := f) hk (c := j) (p := t + 1) (by omega)
  have r2 := n_B_r (f := f) hk (c := j) (p := n_am (n_B m V f j) (t + 1)) (by omega)
  rw [← h17] at e1 e2
  simp (disch := omega) only [iI_mul, iI_add, n_gix, iI_cl, hj18, show ((j : Int)).toNat = j from rfl]
  rw [show (6 * (j : Int) + ((t + 1 : Nat) : Int)).toNat = 6 * j + (t + 1) by omega, show (6 * (j : Int) + ((n_am (n_B m V f j) (t + 1) : Nat) : Int)).toNat = 6 * j + n_am (n_B m V f j) (t + 1) by omega, show k_rd s 17 (6 * j + (t + 1)) = _ from e1, show k_rd s 17 (6 * j + n_am (n_B m V f j) (t + 1)) = _ from e2, n_ile (by omega) (by omega)]
  have ea : n_am (n_B m V f j) (t + 1 + 1) = if n_B m V f j (t + 1) ≤ n_B m V f j (n_am (n_B m V f j) (t + 1)) then n_am (n_B m V f j) (t + 1) else t + 1 := rfl
  have nx : ∀ y : Nat, y = n_am (n_B m V f j) (t + 1 + 1) → k_OK (g (iI (((t + 1 : Nat) : Int) + 1), k_wr s 18 j (iI (y : Nat)))) (fun s => n_Fr (fun c => c = 18) σ s ∧ ∀ c, c < 16 → s.1 18 c = iI (n_am (n_B m V f c) n : Nat)) := fun y hy => hg _ (by omega) ⟨rfl, hF.wr rfl, fun c hc => by
    show (k_wr s 18 j (iI (y : Nat))).1 18 c = _
    rw [wr_k (by omega)]
    exact hz c hc, by
    show (k_wr s 18 j (iI (y : Nat))).1 18 j = _
    rw [wr_s, hy]⟩
  by_cases c2 : n_B m V f j (t + 1) ≤ n_B m V f j (n_am (n_B m V f j) (t + 1))
  · rw [if_pos c2]
    rw [if_pos c2] at ea
    simp only [n_nm]
    exact nx _ ea.symm
  · rw [if_neg c2]
    rw [if_neg c2] at ea
    simp only [n_nm]
    exact nx _ ea.symm
