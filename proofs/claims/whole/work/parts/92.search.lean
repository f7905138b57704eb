/-! search: places are put into the best of each look and word -/
theorem n_sum_up {f g : Nat → Int} {q : Nat} : ∀ {n : Nat}, q < n → (∀ c, c < n → ¬ c = q → g c = f c) → n_sum g n = n_sum f n + (g q - f q)
  | 0, h, _ => absurd h (by omega)
  | n + 1, h, he => by
    show n_sum g n + g n = n_sum f n + f n + (g q - f q)
    by_cases e : q = n
    · rw [e, n_sum_c (f := g) (g := f) (fun c hc => he c (by omega) (by omega))]
      omega
    · rw [n_sum_up (n := n) (by omega) (fun c hc h2 => he c (by omega) h2), he n (by omega) (by omega)]
      omega
/-- max with one place more -/
theorem n_bv_0 (F : Nat → Int) : ∀ P, 0 ≤ n_bv F P
  | 0 => Int.le_refl 0
  | P + 1 => by
    have := n_bv_0 F P
    show 0 ≤ if n_bv F P < F P then F P else n_bv F P
    split <;> omega
theorem n_bv_s (F : Nat → Int) (P : Nat) : n_bv F (P + 1) = max (n_bv F P) (F P) := by
  show (if n_bv F P < F P then F P else n_bv F P) = _
  split <;> omega
theorem n_bv_c {F G : Nat → Int} : ∀ {P : Nat}, (∀ p, p < P → F p = G p) → n_bv F P = n_bv G P
  | 0, _ => rfl
  | P + 1, h => by
    rw [n_bv_s, n_bv_s, n_bv_c (fun p hp => h p (by omega)), h P (by omega)]
theorem n_bv_u {F F' : Nat → Int} {q : Nat} (h0 : F q = 0) (h : ∀ p, ¬ p = q → F' p = F p) : ∀ n, n_bv F' n = if q < n then max (n_bv F n) (F' q) else n_bv F n
  | 0 => rfl
  | n + 1 => by
    have ih := n_bv_u h0 h n
    have hb := n_bv_0 F n
    rw [n_bv_s, n_bv_s, ih]
    by_cases e : n = q
    · subst e
      rw [if_neg (by omega), if_pos (by omega), h0]
      omega
    · rw [h n e]
      by_cases l : q < n
      · rw [if_pos l, if_pos (by omega)]
        omega
      · rw [if_neg l, if_neg (by omega)]
def n_pS (s : k_St) (n sz : Nat) (h l : Nat → Nat) (st : Nat → Int) (ch : Nat → Nat → Int) : Prop := s.1 33 10 = iI n ∧ s.1 33 11 = iI sz ∧ (∀ p, p < n → s.1 36 p = iI (h p) ∧ s.1 37 p = iI (l p) ∧ s.2 38 p = iL (st p)) ∧ ∀ w c, w < sz → c ≤ w → s.2 34 (8 * w + c) = iL (ch w c)
def n_pR (n sz : Nat) (h l : Nat → Nat) (st : Nat → Int) (ch : Nat → Nat → Int) : Prop := n ≤ 6 ∧ (1 ≤ sz ∧ sz ≤ 8) ∧ (∀ p, p < n → h p ≤ 3 ∧ l p ≤ 3 ∧ 0 ≤ st p ∧ st p ≤ 8991) ∧ ∀ w c, w < 8 → c < 8 → (0 ≤ ch w c ∧ ch w c ≤ 1000000) ∧ (w < c → ch w c = 0)
def n_bR (B : Nat → Int) : Prop := ∀ c, c < 32 → 0 ≤ B c ∧ B c ≤ 8991000000
def n_u1 (l : Nat → Nat) (st : Nat → Int) (ch : Nat → Nat → Int) (w p : Nat) (B : Nat → Int) (c : Nat) : Int := if c / 8 = l p then max (B c) (st p * ch w (c % 8)) else B c
def n_ut (l : Nat → Nat) (st : Nat → Int) (ch : Nat → Nat → Int) (w p : Nat) (B : Nat → Int) (t c : Nat) : Int := if c / 8 = l p ∧ c % 8 < t then max (B c) (st p * ch w (c % 8)) else B c
section N92
variable {n sz : Nat} {h l : Nat → Nat} {st : Nat → Int} {ch : Nat → Nat → Int}
theorem n_bR_s {B : Nat → Int} (hB : n_bR B) : 0 ≤ n_sum B 32 ∧ n_sum B 32 ≤ 287712000000 := by
  have := n_sum_r (f := B) (b := 8991000000) (n := 32) hB
  omega
theorem n_stch (hr : n_pR n sz h l st ch) {p w c : Nat} (hp : p < n) (hw : w < 8) (hc : c < 8) : 0 ≤ st p * ch w c ∧ st p * ch w c ≤ 8991000000 := by
  obtain ⟨_, _, r3, r4⟩ := hr
  have a1 := (r3 p hp).2.2
  have a2 := (r4 w c hw hc).1
  have := n_mulr a1 a2
  omega
theorem n_ut_r (hr : n_pR n sz h l st ch) {B : Nat → Int} (hB : n_bR B) {p w t : Nat} (hp : p < n) (hw : w < 8) : n_bR (n_ut l st ch w p B t) := fun c hc => by
  have a1 := hB c hc
  have a2 := n_stch hr hp hw (show c % 8 < 8 by omega)
  unfold n_ut
  split <;> omega
theorem n_u1_r (hr : n_pR n sz h l st ch) {B : Nat → Int} (hB : n_bR B) {p w : Nat} (hp : p < n) (hw : w < 8) : n_bR (n_u1 l st ch w p B) := fun c hc => by
  have a1 := hB c hc
  have a2 := n_stch hr hp hw (show c % 8 < 8 by omega)
  unfold n_u1
  split <;> omega
theorem n_addPlace {s : k_St} {B : Nat → Int} {p w L : Nat} (hs : n_pS s n sz h l st ch) (hr : n_pR n sz h l st ch) (hB : n_bR B) (hp : p < n) (hw : w < sz) (hL : L ≤ 4) (h35 : ∀ c, c < 32 → s.2 35 (32 * L + c) = iL (B c)) : k_OK (f_X4_addPlace (iI p) (iI w) (iI (32 * (L : Int))) s) (fun r => r.1 = iL (n_sum (n_u1 l st ch w p B) 32 - n_sum B 32) ∧ n_Fr (fun c => c = 35) s r.2 ∧ (∀ c, c < 32 → r.2.2 35 (32 * L + c) = iL (n_u1 l st ch w p B c)) ∧ ∀ j, (j < 32 * L ∨ 32 * L + 32 ≤ j) → r.2.2 35 j = s.2 35 j) := by
  obtain ⟨s10, s11, s36, s34⟩ := id hs
  obtain ⟨r1, r2, r3, r4⟩ := id hr
  obtain ⟨q1, q2, q3⟩ := s36 p hp
  have hlp := (r3 p hp).2.1
  unfold f_X4_addPlace
  rw [n_gix (by omega) (by omega), iI_cl (by omega), Int.toNat_natCast, show k_rd s 37 p = _ from q2]
  simp only [iI_lit]
  rw [iI_mul, iI_add, ok_nm, n_within (by omega) (by omega) (by omega), n_bd, n_ib, if_pos (by omega), iI_sub, n_within (by omega) (by omega) (by omega), n_bd, n_ib, if_pos (by omega)]
  refine ok_for (w + 1) (fun t (z : Int64 × Int32 × k_St) => z.1 = iL (n_sum (n_ut l st ch w p B t) 32 - n_sum B 32) ∧ z.2.1 = iI (t : Nat) ∧ n_Fr (fun c => c = 35) s z.2.2 ∧ (∀ c, c < 32 → z.2.2.2 35 (32 * L + c) = iL (n_ut l st ch w p B t c)) ∧ ∀ j, (j < 32 * L ∨ 32 * L + 32 ≤ j) → z.2.2.2 35 j = s.2 35 j) ?_ (by omega) (j := 0) ⟨by
    have : n_sum (n_ut l st ch w p B 0) 32 = n_sum B 32 := n_sum_c (fun c hc => by
      unfold n_ut
      rw [if_neg (by omega)])
    show (0 : Int64) = _
    rw [this, Int.sub_self]
    rfl, rfl, n_Fr.rf, fun c hc => by
    unfold n_ut
    rw [if_neg (by omega)]
    exact h35 c hc, fun j hj => rfl⟩ (by omega)
  rintro g t ⟨v4, v7, s'⟩ ⟨g1, g2, g3, g4, g5⟩ ht hg
  have g1 : v4 = iL (n_sum (n_ut l st ch w p B t) 32 - n_sum B 32) := g1
  subst g1
  have g2 : v7 = iI (t : Nat) := g2
  subst g2
  have g3 : n_Fr (fun c => c = 35) s s' := g3
  have g4 : ∀ c, c < 32 → s'.2 35 (32 * L + c) = iL (n_ut l st ch w p B t c) := g4
  have g5 : ∀ j, (j < 32 * L ∨ 32 * L + 32 ≤ j) → s'.2 35 j = s.2 35 j := g5
  show k_OK (k_if _ _ _) _
  rw [n_ilt (by omega) (by omega)]
  by_cases c0 : (w : Int) < t
  · have et : ∀ c, c < 32 → n_ut l st ch w p B t c = n_u1 l st ch w p B c := fun c hc => by
      have hb := hB c hc
      unfold n_ut n_u1
      by_cases e1 : c / 8 = l p
      · by_cases e2 : c % 8 < t
        · rw [if_pos ⟨e1, e2⟩, if_pos e1]
        · rw [if_neg (fun q => e2 q.2), if_pos e1, (r4 w (c % 8) (by omega) (by omega)).2 (by omega), Int.mul_zero]
          omega
      · rw [if_neg (fun q => e1 q.1), if_neg e1]
    rw [if_pos c0, ok_some]
    refine ⟨?_, g3, fun c hc => by rw [← et c hc]; exact g4 c hc, g5⟩
    show iL _ = iL _
    rw [n_sum_c et]
  have hq : 8 * l p + t < 32 := by omega
  have hv := n_stch hr hp (show w < 8 by omega) (show t < 8 by omega)
  have hBq := hB (8 * l p + t) hq
  have e38 : k_rl s' 38 p = iL (st p) := by
    show s'.2 38 p = _
    rw [(g3 38 (by decide)).2]
    exact q3
  have e34 : k_rl s' 34 (8 * w + t) = iL (ch w t) := by
    show s'.2 34 _ = _
    rw [(g3 34 (by decide)).2]
    exact s34 w t hw (by omega)
  have hut : n_ut l st ch w p B t (8 * l p + t) = B (8 * l p + t) := by
    unfold n_ut
    rw [if_neg (by omega)]
  have e35 : k_rl s' 35 (32 * L + (8 * l p + t)) = iL (B (8 * l p + t)) := by
    show s'.2 35 _ = _
    rw [g4 _ hq, hut]
  have hu1 : ∀ c, c < 32 → ¬ c = 8 * l p + t → n_ut l st ch w p B (t + 1) c = n_ut l st ch w p B t c := fun c hc e => by
    unfold n_ut
    by_cases e1 : c / 8 = l p ∧ c % 8 < t
    · rw [if_pos e1, if_pos ⟨e1.1, by omega⟩]
    · rw [if_neg e1, if_neg (fun q => e1 ⟨q.1, by omega⟩)]
  have hu2 : n_ut l st ch w p B (t + 1) (8 * l p + t) = max (B (8 * l p + t)) (st p * ch w t) := by
    unfold n_ut
    rw [if_pos (by omega), show (8 * l p + t) % 8 = t by omega]
  have hsum := n_sum_up hq hu1
  have hsB := n_bR_s hB
  have hst := n_bR_s (n_ut_r hr hB (t := t) hp (show w < 8 by omega))
  rw [hut, hu2] at hsum
  rw [if_neg c0, n_gix (by omega) (by omega), iI_mul, iI_add, n_gix (by omega) (by omega), iI_cl (by omega), iI_add]
  rw [show ((w : Int) * 8 + (t : Int)).toNat = 8 * w + t by omega, e38, e34, iL_mul, ok_nm, n_gix (by omega) (by omega), iI_cl (by omega), show (32 * (L : Int) + (l p : Int) * 8 + (t : Int)).toNat = 32 * L + (8 * l p + t) by omega, e35, n_lcl (by omega) (by omega)]
  by_cases c1 : st p * ch w t ≤ B (8 * l p + t)
  · rw [if_pos c1, ok_nm, iI_add]
    have em : n_sum (n_ut l st ch w p B (t + 1)) 32 = n_sum (n_ut l st ch w p B t) 32 := by omega
    refine hg _ (by omega) ⟨?_, rfl, g3, fun c hc => ?_, g5⟩
    · show _ = iL (n_sum (n_ut l st ch w p B (t + 1)) 32 - n_sum B 32)
      rw [em]
    · show s'.2 35 (32 * L + c) = _
      by_cases e : c = 8 * l p + t
      · rw [e, hu2, g4 _ hq, hut]
        congr 1
        omega
      · rw [hu1 c hc e]
        exact g4 c hc
  · rw [if_neg c1, n_gix (by omega) (by omega), iL_sub, iL_add, ok_nm, n_gix (by omega) (by omega), ok_nm, ok_nm, iI_add]
    refine hg _ (by omega) ⟨?_, rfl, g3.wl rfl, fun c hc => ?_, fun j hj => ?_⟩
    · show iL _ = iL (n_sum (n_ut l st ch w p B (t + 1)) 32 - n_sum B 32)
      congr 1
      omega
    · show (k_wl s' 35 (32 * L + (8 * l p + t)) (iL (st p * ch w t))).2 35 (32 * L + c) = _
      by_cases e : c = 8 * l p + t
      · rw [e, wl_s, hu2]
        congr 1
        omega
      · rw [wl_k (by omega), hu1 c hc e]
        exact g4 c hc
    · show (k_wl s' 35 (32 * L + (8 * l p + t)) (iL (st p * ch w t))).2 35 j = _
      rw [wl_k (by omega)]
      exact g5 j hj
/-- all places of a sound -/
def n_uB (h l : Nat → Nat) (st : Nat → Int) (ch : Nat → Nat → Int) (sd w : Nat) (B : Nat → Int) : Nat → Nat → Int
  | 0 => B
  | P + 1 => if h P = sd then n_u1 l st ch w P (n_uB h l st ch sd w B P) else n_uB h l st ch sd w B P
theorem n_uB_r (hr : n_pR n sz h l st ch) {B : Nat → Int} (hB : n_bR B) {sd w : Nat} (hw : w < 8) : ∀ P, P ≤ n → n_bR (n_uB h l st ch sd w B P)
  | 0, _ => hB
  | P + 1, hP => by
    have ih := n_uB_r hr hB (sd := sd) hw P (by omega)
    show n_bR (if h P = sd then n_u1 l st ch w P (n_uB h l st ch sd w B P) else n_uB h l st ch sd w B P)
    split
    · exact n_u1_r hr ih (by omega) hw
    · exact ih
theorem n_pS_f {s s' : k_St} (hs : n_pS s n sz h l st ch) (hF : n_Fr (fun c => c = 35) s s') : n_pS s' n sz h l st ch := by
  obtain ⟨q1, q2, q3, q4⟩ := hs
  refine ⟨?_, ?_, fun p hp => ?_, fun w c hw hc => ?_⟩
  · rw [(hF 33 (by decide)).1]
    exact q1
  · rw [(hF 33 (by decide)).1]
    exact q2
  · rw [(hF 36 (by decide)).1, (hF 37 (by decide)).1, (hF 38 (by decide)).2]
    exact q3 p hp
  · rw [(hF 34 (by decide)).2]
    exact q4 w c hw hc
theorem n_addSound {s : k_St} {B : Nat → Int} {sd w : Nat} {S : Int} (hs : n_pS s n sz h l st ch) (hr : n_pR n sz h l st ch) (hB : n_bR B) (hsd : sd < 4) (hw : w < sz) (h35 : ∀ c, c < 32 → s.2 35 (32 * sd + c) = iL (B c)) : k_OK (f_X4_addSound (iI sd) (iI w) (iL S) s) (fun r => r.1 = iL (S + (n_sum (n_uB h l st ch sd w B n) 32 - n_sum B 32)) ∧ n_Fr (fun c => c = 35) s r.2 ∧ (∀ c, c < 32 → r.2.2 35 (32 * (sd + 1) + c) = iL (n_uB h l st ch sd w B n c)) ∧ ∀ j, j < 32 * (sd + 1) → r.2.2 35 j = s.2 35 j) := by
  obtain ⟨r1, r2, r3, r4⟩ := id hr
  unfold f_X4_addSound
  simp only [iI_lit]
  have e6 : ((sd : Int) + 1) * 32 = 32 * ((sd + 1 : Nat) : Int) := by omega
  have hcp : o_cp (iI (32 * ((sd + 1 : Nat) : Int) - 32)) (iI (32 * ((sd + 1 : Nat) : Int))) (iI 32) 160 160 = true := by
    unfold o_cp
    simp only [Bool.and_eq_true, decide_eq_true_eq]
    rw [iI_cl (by omega), iI_cl (by omega), iI_cl (by omega), show (0 : Int32) = iI 0 from rfl, iI_le (by omega) (by omega), iI_le (by omega) (by omega), iI_le (by omega) (by omega)]
    omega
  rw [iI_add, iI_mul, e6, ok_nm, iI_sub, n_within (by omega) (by omega) (by omega), n_bd, n_ib, if_pos (by omega), iI_sub, n_gdt hcp, ok_nm]
  have hc35 : ∀ j, (k_cpL s 35 35 (iI (32 * ((sd + 1 : Nat) : Int) - 32)) (iI (32 * ((sd + 1 : Nat) : Int))) (iI 32)).2 35 j = if 32 * (sd + 1) ≤ j ∧ j < 32 * (sd + 1) + 32 then s.2 35 (32 * sd + (j - 32 * (sd + 1))) else s.2 35 j := fun j => by
    show va_cpy (s.2 35) (s.2 35) (iI (32 * ((sd + 1 : Nat) : Int) - 32)).toNatClampNeg (iI (32 * ((sd + 1 : Nat) : Int))).toNatClampNeg (iI 32).toNatClampNeg j = _
    rw [iI_cl (by omega), iI_cl (by omega), iI_cl (by omega)]
    unfold va_cpy
    rw [show (32 * ((sd + 1 : Nat) : Int) - 32).toNat = 32 * sd by omega, show (32 * ((sd + 1 : Nat) : Int)).toNat = 32 * (sd + 1) by omega, show (32 : Int).toNat = 32 from rfl]
  have hFc : n_Fr (fun c => c = 35) s (k_cpL s 35 35 (iI (32 * ((sd + 1 : Nat) : Int) - 32)) (iI (32 * ((sd + 1 : Nat) : Int))) (iI 32)) := fun c hc => by
    refine ⟨rfl, ?_⟩
    show (if c = 35 then _ else s.2 c) = s.2 c
    rw [if_neg hc]
  generalize k_cpL s 35 35 (iI (32 * ((sd + 1 : Nat) : Int) - 32)) (iI (32 * ((sd + 1 : Nat) : Int))) (iI 32) = s1 at *
  refine ok_for n (fun P (z : Int64 × Int32 × k_St) => z.1 = iL (S + (n_sum (n_uB h l st ch sd w B P) 32 - n_sum B 32)) ∧ z.2.1 = iI (P : Nat) ∧ n_Fr (fun c => c = 35) s z.2.2 ∧ (∀ c, c < 32 → z.2.2.2 35 (32 * (sd + 1) + c) = iL (n_uB h l st ch sd w B P c)) ∧ ∀ j, j < 32 * (sd + 1) → z.2.2.2 35 j = s.2 35 j) ?_ (by omega) (j := 0) ⟨by
    show iL S = iL (S + (n_sum B 32 - n_sum B 32))
    congr 1
    omega, rfl, hFc, fun c hc => by
    show s1.2 35 (32 * (sd + 1) + c) = iL (B c)
    rw [hc35, if_pos (by omega), show 32 * sd + (32 * (sd + 1) + c - 32 * (sd + 1)) = 32 * sd + c by omega]
    exact h35 c hc, fun j hj => by
    show s1.2 35 j = _
    rw [hc35, if_neg (by omega)]⟩ (by omega)
  clear hFc hc35
  rintro g P ⟨v6, v8, s'⟩ ⟨g1, g2, g3, g4, g5⟩ hP hg
  have g1 : v6 = iL (S + (n_sum (n_uB h l st ch sd w B P) 32 - n_sum B 32)) := g1
  subst g1
  have g2 : v8 = iI (P : Nat) := g2
  subst g2
  have g3 : n_Fr (fun c => c = 35) s s' := g3
  have g4 : ∀ c, c < 32 → s'.2 35 (32 * (sd + 1) + c) = iL (n_uB h l st ch sd w B P c) := g4
  have g5 : ∀ j, j < 32 * (sd + 1) → s'.2 35 j = s.2 35 j := g5
  have hs' := n_pS_f hs g3
  show k_OK (k_if _ _ _) _
  rw [show k_rd s' 33 10 = _ from hs'.1, n_ile (by omega) (by omega)]
  by_cases c0 : (n : Int) ≤ P
  · have eP : P = n := by omega
    subst eP
    rw [if_pos c0, ok_some]
    exact ⟨rfl, g3, g4, g5⟩
  have hPn : P < n := by omega
  have hhP := (r3 P hPn).1
  have eu : n_uB h l st ch sd w B (P + 1) = if h P = sd then n_u1 l st ch w P (n_uB h l st ch sd w B P) else n_uB h l st ch sd w B P := rfl
  rw [if_neg c0, n_gix (by omega) (by omega), iI_cl (by omega), Int.toNat_natCast, show k_rd s' 36 P = _ from (hs'.2.2.1 P hPn).1, n_ieq (by omega) (by omega)]
  by_cases c1 : h P = sd
  · rw [if_pos c1] at eu
    rw [if_pos (by omega), ok_b2]
    refine ok_mono (n_addPlace (L := sd + 1) hs' hr (n_uB_r hr hB (by omega) P (by omega)) hPn hw (by omega) g4) (fun r hr2 => ?_)
    obtain ⟨t1, t2, t3, t4⟩ := hr2
    rw [t1, iL_add, ok_nm, ok_nm, iI_add]
    refine hg _ (by omega) ⟨?_, rfl, g3.tr t2, fun c hc => ?_, fun j hj => ?_⟩
    · show iL _ = iL _
      rw [eu]
      congr 1
      omega
    · show r.2.2 35 _ = _
      rw [eu]
      exact t3 c hc
    · show r.2.2 35 j = _
      rw [t4 j (Or.inl hj)]
      exact g5 j hj
  · rw [if_neg c1] at eu
    rw [if_neg (by omega), ok_nm, iI_add]
    exact hg _ (by omega) ⟨by
      show _ = iL (S + (n_sum (n_uB h l st ch sd w B (P + 1)) 32 - n_sum B 32))
      rw [eu], rfl, g3, fun c hc => by
      rw [eu]
      exact g4 c hc, g5⟩
end N92
