/-! search: all rows of words -/
def n_cv (h l : Nat → Nat) (st : Nat → Int) (ch : Nat → Nat → Int) (f : Nat → Nat) (L c p : Nat) : Int := if h p < L ∧ l p = c / 8 then st p * ch (f (h p)) (c % 8) else 0
def n_cwp (h l : Nat → Nat) (st : Nat → Int) (ch : Nat → Nat → Int) (f : Nat → Nat) (sd P c p : Nat) : Int := if (h p < sd ∨ h p = sd ∧ p < P) ∧ l p = c / 8 then st p * ch (f (h p)) (c % 8) else 0
def n_cB (n : Nat) (h l : Nat → Nat) (st : Nat → Int) (ch : Nat → Nat → Int) (f : Nat → Nat) (L c : Nat) : Int := n_bv (n_cv h l st ch f L c) n
def n_SM (n : Nat) (h l : Nat → Nat) (st : Nat → Int) (ch : Nat → Nat → Int) (f : Nat → Nat) (L : Nat) : Int := n_sum (n_cB n h l st ch f L) 32
def n_up2 (f : Nat → Nat) (s w : Nat) : Nat → Nat := fun t => if t = s then w else f t
def n_q (sz : Nat) (f : Nat → Nat) : Nat → Nat
  | 0 => 0
  | s + 1 => n_q sz f s * sz + f s
def n_dc (f : Nat → Nat) : Nat → Int
  | 0 => 0
  | s + 1 => 10 * n_dc f s + f s
def n_cd (sz : Nat) (i : Int) : Int := if i = -1 then 0 else n_p4 (fun t => (n_dk sz i.toNat t : Int))
def n_fS (s s' : k_St) (b : Nat) : Prop := n_Fr (fun c => c = 33 ∨ c = 35) s s' ∧ s'.1 33 10 = s.1 33 10 ∧ s'.1 33 11 = s.1 33 11 ∧ s'.2 33 2 = s.2 33 2 ∧ ∀ j, j < b → s'.2 35 j = s.2 35 j
theorem n_fS.rf {s : k_St} {b : Nat} : n_fS s s b := ⟨n_Fr.rf, rfl, rfl, rfl, fun _ _ => rfl⟩
theorem n_fS.tr {s s1 s2 : k_St} {b : Nat} (h : n_fS s s1 b) (h2 : n_fS s1 s2 b) : n_fS s s2 b := ⟨h.1.tr h2.1, h2.2.1.trans h.2.1, h2.2.2.1.trans h.2.2.1, h2.2.2.2.1.trans h.2.2.2.1, fun j hj => (h2.2.2.2.2 j hj).trans (h.2.2.2.2 j hj)⟩
theorem n_fS.mono {s s1 : k_St} {b b' : Nat} (h : n_fS s s1 b) (hb : b' ≤ b) : n_fS s s1 b' := ⟨h.1, h.2.1, h.2.2.1, h.2.2.2.1, fun j hj => h.2.2.2.2 j (by omega)⟩
theorem n_fS.of35 {s s1 : k_St} {b : Nat} (h : n_Fr (fun c => c = 35) s s1) (hb : ∀ j, j < b → s1.2 35 j = s.2 35 j) : n_fS s s1 b := ⟨h.mono (fun c hc => Or.inr hc), by rw [(h 33 (by decide)).1], by rw [(h 33 (by decide)).1], by rw [(h 33 (by decide)).2], hb⟩
section N93
variable {n sz : Nat} {h l : Nat → Nat} {st : Nat → Int} {ch : Nat → Nat → Int}
theorem n_pS_fS {s s' : k_St} {b : Nat} (hs : n_pS s n sz h l st ch) (hF : n_fS s s' b) : n_pS s' n sz h l st ch := by
  obtain ⟨q1, q2, q3, q4⟩ := hs
  obtain ⟨f1, f2, f3, f4, f5⟩ := hF
  refine ⟨f2.trans q1, f3.trans q2, fun p hp => ?_, fun w c hw hc => ?_⟩
  · rw [(f1 36 (by decide)).1, (f1 37 (by decide)).1, (f1 38 (by decide)).2]
    exact q3 p hp
  · rw [(f1 34 (by decide)).2]
    exact q4 w c hw hc
theorem n_cB_c {f g : Nat → Nat} {L : Nat} (hfg : ∀ s, s < L → f s = g s) (c : Nat) : n_cB n h l st ch f L c = n_cB n h l st ch g L c := n_bv_c (fun p _ => by
  unfold n_cv
  by_cases e : h p < L ∧ l p = c / 8
  · rw [if_pos e, if_pos e, hfg _ e.1]
  · rw [if_neg e, if_neg e])
theorem n_SM_c {f g : Nat → Nat} {L : Nat} (hfg : ∀ s, s < L → f s = g s) : n_SM n h l st ch f L = n_SM n h l st ch g L := n_sum_c (fun c _ => n_cB_c hfg c)
theorem n_cB_r (hr : n_pR n sz h l st ch) {f : Nat → Nat} {L : Nat} (hf : ∀ s, s < L → f s < 8) : n_bR (n_cB n h l st ch f L) := fun c hc => n_bv_r (n := n) (b := 8991000000) (fun p hp => by
  unfold n_cv
  by_cases e : h p < L ∧ l p = c / 8
  · rw [if_pos e]
    exact n_stch hr hp (hf _ e.1) (by omega)
  · rw [if_neg e]
    omega) (by omega) n (Nat.le_refl _)
theorem n_uB_cw {f : Nat → Nat} {sd : Nat} (c : Nat) : ∀ P, P ≤ n → n_uB h l st ch sd (f sd) (n_cB n h l st ch f sd) P c = n_bv (n_cwp h l st ch f sd P c) n
  | 0, _ => n_bv_c (fun p _ => by
    unfold n_cv n_cwp
    by_cases e : h p < sd ∧ l p = c / 8
    · rw [if_pos e, if_pos ⟨Or.inl e.1, e.2⟩]
    · rw [if_neg e, if_neg (fun q => e ⟨q.1.elim id (fun z => absurd z.2 (by omega)), q.2⟩)])
  | P + 1, hP => by
    have ih := n_uB_cw (f := f) (sd := sd) c P (by omega)
    have eu : n_uB h l st ch sd (f sd) (n_cB n h l st ch f sd) (P + 1) = if h P = sd then n_u1 l st ch (f sd) P (n_uB h l st ch sd (f sd) (n_cB n h l st ch f sd) P) else n_uB h l st ch sd (f sd) (n_cB n h l st ch f sd) P := rfl
    rw [eu]
    by_cases e : h P = sd
    · have hF0 : n_cwp h l st ch f sd P c P = 0 := by
        unfold n_cwp
        rw [if_neg (by omega)]
      have hF1 : n_cwp h l st ch f sd (P + 1) c P = if l P = c / 8 then st P * ch (f sd) (c % 8) else 0 := by
        unfold n_cwp
        by_cases q : l P = c / 8
        · rw [if_pos ⟨Or.inr ⟨e, by omega⟩, q⟩, if_pos q, e]
        · rw [if_neg (fun z => q z.2), if_neg q]
      have hb := n_bv_u (F := n_cwp h l st ch f sd P c) (F' := n_cwp h l st ch f sd (P + 1) c) (q := P) hF0 (fun p hp => by
        unfold n_cwp
        by_cases q : (h p < sd ∨ h p = sd ∧ p < P) ∧ l p = c / 8
        · rw [if_pos q, if_pos ⟨q.1.imp id (fun z => ⟨z.1, by omega⟩), q.2⟩]
        · rw [if_neg q, if_neg (fun z => q ⟨z.1.imp id (fun y => ⟨y.1, by omega⟩), z.2⟩)]) n
      rw [if_pos (show P < n by omega), hF1] at hb
      have h0 := n_bv_0 (n_cwp h l st ch f sd P c) n
      rw [if_pos e, hb]
      unfold n_u1
      rw [ih]
      by_cases q : c / 8 = l P
      · rw [if_pos q, if_pos q.symm]
      · rw [if_neg q, if_neg (fun z => q z.symm)]
        omega
    · rw [if_neg e, ih]
      refine n_bv_c (fun p _ => ?_)
      unfold n_cwp
      by_cases q : (h p < sd ∨ h p = sd ∧ p < P) ∧ l p = c / 8
      · rw [if_pos q, if_pos ⟨q.1.imp id (fun z => ⟨z.1, by omega⟩), q.2⟩]
      · rw [if_neg q, if_neg (fun z => q ⟨z.1.imp id (fun y => ⟨y.1, by
          have := y.2
          by_cases r : p = P
          · rw [r] at y
            exact absurd y.1 e
          · omega⟩), z.2⟩)]
theorem n_uB_cB {f : Nat → Nat} {sd : Nat} (c : Nat) : n_uB h l st ch sd (f sd) (n_cB n h l st ch f sd) n c = n_cB n h l st ch f (sd + 1) c := by
  rw [n_uB_cw c n (Nat.le_refl _)]
  refine n_bv_c (fun p hp => ?_)
  unfold n_cwp n_cv
  by_cases q : h p < sd + 1 ∧ l p = c / 8
  · rw [if_pos q, if_pos ⟨by omega, q.2⟩]
  · rw [if_neg q, if_neg (fun z => q ⟨by omega, z.2⟩)]
theorem n_isWH {s : k_St} {sd : Nat} (hs : n_pS s n sz h l st ch) (hr : n_pR n sz h l st ch) (hsd : sd < 4) : k_OK (f_X4_isWorthHearing (iI sd) s) (fun r => (r = iI 1 ∧ ∃ p, p < n ∧ h p = sd ∧ 0 < st p) ∨ (r = iI 0 ∧ ∀ p, p < n → h p = sd → st p = 0)) := by
  obtain ⟨r1, r2, r3, r4⟩ := id hr
  unfold f_X4_isWorthHearing
  simp only [iI_lit]
  refine ok_for n (fun P (y : Int32) => y = iI P ∧ ∀ p, p < P → h p = sd → st p = 0) ?_ (by omega) (j := 0) ⟨rfl, fun p hp => absurd hp (by omega)⟩ (by omega)
  rintro g P _ ⟨rfl, hA⟩ hP hg
  show k_OK (k_if _ _ _) _
  rw [show k_rd s 33 10 = _ from hs.1, n_ile (by omega) (by omega)]
  by_cases c0 : (n : Int) ≤ P
  · rw [if_pos c0, ok_some]
    exact Or.inr ⟨rfl, fun p hp => hA p (by omega)⟩
  obtain ⟨q1, q2, q3⟩ := hs.2.2.1 P (by omega)
  obtain ⟨t1, t2, t3⟩ := r3 P (by omega)
  rw [if_neg c0, n_gix (by omega) (by omega), iI_cl (by omega), Int.toNat_natCast, show k_rd s 36 P = _ from q1, n_ieq (by omega) (by omega)]
  by_cases c1 : (h P : Int) = sd
  · rw [if_pos c1, n_gix (by omega) (by omega), show k_rl s 38 P = _ from q3, show (0 : Int64) = iL 0 from rfl, n_lcl (by omega) (by omega)]
    by_cases c2 : st P ≤ 0
    · rw [if_pos c2, ok_nm, iI_add]
      refine hg _ (by omega) ⟨rfl, fun p hp hh => ?_⟩
      by_cases e : p = P
      · rw [e]
        omega
      · exact hA p (by omega) hh
    · rw [if_neg c2, ok_some]
      exact Or.inl ⟨rfl, P, by omega, by omega, by omega⟩
  · rw [if_neg c1, ok_nm, iI_add]
    refine hg _ (by omega) ⟨rfl, fun p hp hh => ?_⟩
    by_cases e : p = P
    · rw [e] at hh
      omega
    · exact hA p (by omega) hh
def n_Wj (n sz : Nat) (h l : Nat → Nat) (st : Nat → Int) (ch : Nat → Nat → Int) (j : Nat) : Int := n_SM n h l st ch (n_dk sz j) 4
theorem n_dk_lt (hz : 1 ≤ sz) (j s : Nat) : n_dk sz j s < sz := Nat.mod_lt _ (by omega)
theorem n_SM_r (hr : n_pR n sz h l st ch) {f : Nat → Nat} {L : Nat} (hf : ∀ s, s < L → f s < 8) : 0 ≤ n_SM n h l st ch f L ∧ n_SM n h l st ch f L ≤ 287712000000 := n_bR_s (n_cB_r hr hf)
theorem n_Wj_r (hr : n_pR n sz h l st ch) (j : Nat) : 0 ≤ n_Wj n sz h l st ch j ∧ n_Wj n sz h l st ch j ≤ 287712000000 := n_SM_r hr (fun s _ => by
  have := n_dk_lt hr.2.1.1 j s
  have := hr.2.1.2
  omega)
theorem n_bm_ge {W : Nat → Int} : ∀ J i, i < J → W i ≤ n_bm W J
  | 0, i, hi => absurd hi (by omega)
  | J + 1, i, hi => by
    have e : n_bm W (J + 1) = if W J ≤ n_bm W J then n_bm W J else W J := rfl
    rw [e]
    by_cases q : i = J
    · rw [q]
      split <;> omega
    · have := n_bm_ge (W := W) J i (by omega)
      split <;> omega
theorem n_bm_b {W : Nat → Int} {b : Int} (hb : 0 ≤ b) (hW : ∀ j, 0 ≤ W j ∧ W j ≤ b) : ∀ J, -1 ≤ n_bm W J ∧ n_bm W J ≤ b
  | 0 => by
    show -1 ≤ (-1 : Int) ∧ (-1 : Int) ≤ b
    omega
  | J + 1 => by
    have ih := n_bm_b hb hW J
    have := hW J
    have e : n_bm W (J + 1) = if W J ≤ n_bm W J then n_bm W J else W J := rfl
    rw [e]
    split <;> omega
theorem n_bm_sk {W : Nat → Int} {J : Nat} : ∀ u, (∀ j, J ≤ j → j < J + u → ∃ i, i < j ∧ W j ≤ W i) → n_bm W (J + u) = n_bm W J ∧ n_bs W (J + u) = n_bs W J
  | 0, _ => ⟨rfl, rfl⟩
  | u + 1, hu => by
    obtain ⟨i1, i2⟩ := n_bm_sk u (fun j h1 h2 => hu j h1 (by omega))
    obtain ⟨i, hi, hW⟩ := hu (J + u) (by omega) (by omega)
    have hge := n_bm_ge (W := W) (J + u) i hi
    have e1 : n_bm W (J + u + 1) = if W (J + u) ≤ n_bm W (J + u) then n_bm W (J + u) else W (J + u) := rfl
    have e2 : n_bs W (J + u + 1) = if W (J + u) ≤ n_bm W (J + u) then n_bs W (J + u) else ((J + u : Nat) : Int) := rfl
    rw [if_pos (by omega)] at e1 e2
    exact ⟨e1.trans i1, e2.trans i2⟩
set_option maxHeartbeats 4000000 in
theorem n_zd (hz : 1 ≤ sz ∧ sz ≤ 8) {j sd s : Nat} (hsd : sd < 4) (hs : s < 4) (hne : ¬ s = sd) : n_dk sz (j - n_dk sz j sd * sz ^ (3 - sd)) s = n_dk sz j s := by
  unfold n_dk
  rcases (show sz = 1 ∨ sz = 2 ∨ sz = 3 ∨ sz = 4 ∨ sz = 5 ∨ sz = 6 ∨ sz = 7 ∨ sz = 8 by omega) with rfl | rfl | rfl | rfl | rfl | rfl | rfl | rfl <;>
  rcases (show sd = 0 ∨ sd = 1 ∨ sd = 2 ∨ sd = 3 by omega) with rfl | rfl | rfl | rfl <;>
  rcases (show s = 0 ∨ s = 1 ∨ s = 2 ∨ s = 3 by omega) with rfl | rfl | rfl | rfl <;>
  first | exact absurd rfl hne | (simp only [Nat.reduceSub, Nat.reducePow]; omega)
theorem n_dkq (hz : 1 ≤ sz ∧ sz ≤ 8) {f : Nat → Nat} (hf : ∀ t, t < 4 → f t < sz) {s : Nat} (hs : s < 4) : n_dk sz (n_q sz f 4) s = f s := by
  have e : n_q sz f 4 = (((0 * sz + f 0) * sz + f 1) * sz + f 2) * sz + f 3 := rfl
  have h0 := hf 0 (by omega)
  have h1 := hf 1 (by omega)
  have h2 := hf 2 (by omega)
  have h3 := hf 3 (by omega)
  rw [e]
  unfold n_dk
  rcases (show sz = 1 ∨ sz = 2 ∨ sz = 3 ∨ sz = 4 ∨ sz = 5 ∨ sz = 6 ∨ sz = 7 ∨ sz = 8 by omega) with rfl | rfl | rfl | rfl | rfl | rfl | rfl | rfl <;>
  rcases (show s = 0 ∨ s = 1 ∨ s = 2 ∨ s = 3 by omega) with rfl | rfl | rfl | rfl <;>
  (simp only [Nat.reduceSub, Nat.reducePow]; omega)
theorem n_Wz (hr : n_pR n sz h l st ch) {sd : Nat} (hsd : sd < 4) (hu : ∀ p, p < n → h p = sd → st p = 0) (j : Nat) : n_Wj n sz h l st ch (j - n_dk sz j sd * sz ^ (3 - sd)) = n_Wj n sz h l st ch j := by
  unfold n_Wj n_SM n_cB
  refine n_sum_c (fun c _ => n_bv_c (fun p hp => ?_))
  have hh := (hr.2.2.1 p hp).1
  unfold n_cv
  by_cases e : h p < 4 ∧ l p = c / 8
  · rw [if_pos e, if_pos e]
    by_cases q : h p = sd
    · rw [hu p hp q, Int.zero_mul, Int.zero_mul]
    · rw [n_zd hr.2.1 hsd e.1 q]
  · rw [if_neg e, if_neg e]
def n_tp (n sz : Nat) (h l : Nat → Nat) (st : Nat → Int) (ch : Nat → Nat → Int) (s : k_St) (J : Nat) : Prop := s.2 33 0 = iL (n_bm (n_Wj n sz h l st ch) J) ∧ s.1 33 1 = iI (n_cd sz (n_bs (n_Wj n sz h l st ch) J))
theorem n_q_c {f g : Nat → Nat} : ∀ {L : Nat}, (∀ s, s < L → f s = g s) → n_q sz f L = n_q sz g L ∧ n_dc f L = n_dc g L
  | 0, _ => ⟨rfl, rfl⟩
  | L + 1, hfg => by
    obtain ⟨h1, h2⟩ := n_q_c (f := f) (g := g) (L := L) (fun s hs => hfg s (by omega))
    have e := hfg L (by omega)
    refine ⟨?_, ?_⟩
    · show n_q sz f L * sz + f L = n_q sz g L * sz + g L
      rw [h1, e]
    · show 10 * n_dc f L + (f L : Int) = 10 * n_dc g L + (g L : Int)
      rw [h2, e]
theorem n_tryW (hr : n_pR n sz h l st ch) : ∀ (k : Nat) {m sd : Nat}, sd + k = 4 → k < m → ∀ {f : Nat → Nat} {s : k_St}, (∀ t, t < sd → f t < sz) → n_pS s n sz h l st ch → (∀ c, c < 32 → s.2 35 (32 * sd + c) = iL (n_cB n h l st ch f sd c)) → n_tp n sz h l st ch s (n_q sz f sd * sz ^ k) → k_OK (f_X4_tryWords m (iI sd) (iL (n_SM n h l st ch f sd)) (iI (n_dc f sd)) s) (fun s' => n_fS s s' (32 * (sd + 1)) ∧ n_tp n sz h l st ch s' (n_q sz f sd * sz ^ k + sz ^ k))
  | 0, m, sd, hk, hm, f, s, hf, hs, hB, ht => by
    obtain ⟨r1, r2, r3, r4⟩ := id hr
    have esd : sd = 4 := by omega
    subst esd
    obtain ⟨m', rfl⟩ : ∃ m', m = m' + 1 := ⟨m - 1, by omega⟩
    show k_OK (b_X4_tryWords (f_X4_tryWords m') _ _ _ _) _
    unfold b_X4_tryWords
    rw [Nat.pow_zero, Nat.mul_one] at ht ⊢
    obtain ⟨t1, t2⟩ := ht
    have hS := n_SM_r hr (f := f) (L := 4) (fun t ht => by have := hf t ht; omega)
    have hbb := n_bm_b (b := 287712000000) (by omega) (n_Wj_r hr) (n_q sz f 4)
    have eW : n_Wj n sz h l st ch (n_q sz f 4) = n_SM n h l st ch f 4 := n_SM_c (fun t ht => n_dkq r2 hf ht)
    have ecd : n_cd sz ((n_q sz f 4 : Nat) : Int) = n_dc f 4 := by
      unfold n_cd
      rw [if_neg (by omega), Int.toNat_natCast]
      unfold n_p4
      dsimp only
      rw [n_dkq r2 hf (show 0 < 4 by omega), n_dkq r2 hf (show 1 < 4 by omega), n_dkq r2 hf (show 2 < 4 by omega), n_dkq r2 hf (show 3 < 4 by omega)]
      show _ = 10 * (10 * (10 * (10 * (0 : Int) + (f 0 : Int)) + (f 1 : Int)) + (f 2 : Int)) + (f 3 : Int)
      omega
    have e1 : n_bm (n_Wj n sz h l st ch) (n_q sz f 4 + 1) = if n_Wj n sz h l st ch (n_q sz f 4) ≤ n_bm (n_Wj n sz h l st ch) (n_q sz f 4) then n_bm (n_Wj n sz h l st ch) (n_q sz f 4) else n_Wj n sz h l st ch (n_q sz f 4) := rfl
    have e2 : n_bs (n_Wj n sz h l st ch) (n_q sz f 4 + 1) = if n_Wj n sz h l st ch (n_q sz f 4) ≤ n_bm (n_Wj n sz h l st ch) (n_q sz f 4) then n_bs (n_Wj n sz h l st ch) (n_q sz f 4) else ((n_q sz f 4 : Nat) : Int) := rfl
    rw [eW] at e1 e2
    simp only [iI_lit]
    rw [n_ilt (by omega) (by omega), if_neg (by omega), show k_rl s 33 0 = _ from t1, n_lcl (by omega) (by omega)]
    unfold n_tp
    by_cases c : n_SM n h l st ch f 4 ≤ n_bm (n_Wj n sz h l st ch) (n_q sz f 4)
    · rw [if_pos c] at e1 e2
      rw [if_pos c, ok_some, e1, e2]
      exact ⟨n_fS.rf, t1, t2⟩
    · rw [if_neg c] at e1 e2
      rw [if_neg c, ok_nm, ok_nm, ok_some, e1, e2, ecd]
      have w1 : (k_wl s 33 0 (iL (n_SM n h l st ch f 4))).2 33 2 = s.2 33 2 := wl_k (by decide)
      have w2 : (k_wl s 33 0 (iL (n_SM n h l st ch f 4))).2 33 0 = iL (n_SM n h l st ch f 4) := wl_s
      exact ⟨⟨(n_Fr.rf.wl (Or.inl rfl)).wr (Or.inl rfl), wr_k (by decide), wr_k (by decide), w1, fun j _ => rfl⟩, w2, wr_s⟩
  | k + 1, m, sd, hk, hm, f, s, hf, hs, hB, ht => by
    obtain ⟨r1, r2, r3, r4⟩ := id hr
    obtain ⟨m', rfl⟩ : ∃ m', m = m' + 1 := ⟨m - 1, by omega⟩
    have hsd : sd < 4 := by omega
    have ek : k = 3 - sd := by omega
    have hBr := n_cB_r hr (f := f) (L := sd) (fun t ht => by have := hf t ht; omega)
    show k_OK (b_X4_tryWords (f_X4_tryWords m') _ _ _ _) _
    unfold b_X4_tryWords
    simp only [iI_lit]
    rw [n_ilt (by omega) (by omega), if_pos (by omega), ok_bd]
    have epw : sz ^ (k + 1) = sz * sz ^ k := by rw [Nat.pow_succ, Nat.mul_comm]
    refine ok_mono (n_isWH hs hr hsd) (fun v hv => ?_)
    refine ok_jnI (fun j => ∀ T, 1 ≤ T → T ≤ sz → k_OK (j (iI ((T : Nat) : Int))) (fun s' => n_fS s s' (32 * (sd + 1)) ∧ n_tp n sz h l st ch s' (n_q sz f sd * sz ^ (k + 1) + T * sz ^ k))) ?_ ?_
    · intro T hT1 hT
      show k_OK (k_loop _ _ _) _
      refine ok_for T (fun w (z : Int32 × k_St) => z.1 = iI w ∧ n_fS s z.2 (32 * (sd + 1)) ∧ n_tp n sz h l st ch z.2 (n_q sz f sd * sz ^ (k + 1) + w * sz ^ k)) ?_ (by omega) (j := 0) ⟨rfl, n_fS.rf, by rw [Nat.zero_mul, Nat.add_zero]; exact ht⟩ (by omega)
      rintro g w ⟨u, s1⟩ ⟨g1, g2, g3⟩ hw hg
      have g1 : u = iI w := g1
      subst g1
      have g2 : n_fS s s1 (32 * (sd + 1)) := g2
      have g3 : n_tp n sz h l st ch s1 (n_q sz f sd * sz ^ (k + 1) + w * sz ^ k) := g3
      show k_OK (k_if _ _ _) _
      rw [n_ile (by omega) (by omega)]
      by_cases c0 : (T : Int) ≤ w
      · have e : w = T := by omega
        subst e
        rw [if_pos c0, ok_some]
        exact ⟨g2, g3⟩
      have hs1 := n_pS_fS hs g2
      have hB1 : ∀ c, c < 32 → s1.2 35 (32 * sd + c) = iL (n_cB n h l st ch f sd c) := fun c hc => by
        rw [g2.2.2.2.2 _ (by omega)]
        exact hB c hc
      have hfg : ∀ t, t < sd → f t = n_up2 f sd w t := fun t ht => by
        unfold n_up2
        rw [if_neg (by omega)]
      have efs : n_up2 f sd w sd = w := by
        unfold n_up2
        rw [if_pos rfl]
      rw [if_neg c0, ok_b2]
      refine ok_mono (n_addSound (S := n_SM n h l st ch f sd) hs1 hr hBr hsd (by omega) hB1) (fun r hr2 => ?_)
      obtain ⟨a1, a2, a3, a4⟩ := hr2
      have eBB : ∀ c, n_uB h l st ch sd w (n_cB n h l st ch f sd) n c = n_cB n h l st ch (n_up2 f sd w) (sd + 1) c := fun c => by
        have e0 : n_cB n h l st ch f sd = n_cB n h l st ch (n_up2 f sd w) sd := funext fun c => n_cB_c hfg c
        rw [e0]
        have := n_uB_cB (n := n) (h := h) (l := l) (st := st) (ch := ch) (f := n_up2 f sd w) (sd := sd) c
        rw [efs] at this
        exact this
      have eS : n_SM n h l st ch f sd + (n_sum (n_uB h l st ch sd w (n_cB n h l st ch f sd) n) 32 - n_sum (n_cB n h l st ch f sd) 32) = n_SM n h l st ch (n_up2 f sd w) (sd + 1) := by
        rw [n_sum_c (fun c _ => eBB c)]
        unfold n_SM
        omega
      rw [eS] at a1
      have hfs : n_fS s1 r.2 (32 * (sd + 1)) := n_fS.of35 a2 a4
      obtain ⟨eq1, eq2⟩ := n_q_c (sz := sz) hfg
      have eq3 : n_q sz (n_up2 f sd w) (sd + 1) = n_q sz f sd * sz + w := by
        show n_q sz (n_up2 f sd w) sd * sz + n_up2 f sd w sd = _
        rw [efs, ← eq1]
      have eq4 : n_dc (n_up2 f sd w) (sd + 1) = 10 * n_dc f sd + w := by
        show 10 * n_dc (n_up2 f sd w) sd + ((n_up2 f sd w sd : Nat) : Int) = _
        rw [efs, ← eq2]
      have eJ : n_q sz (n_up2 f sd w) (sd + 1) * sz ^ k = n_q sz f sd * sz ^ (k + 1) + w * sz ^ k := by
        rw [eq3, epw, Nat.add_mul, Nat.mul_assoc]
      have hIH := n_tryW hr k (m := m') (sd := sd + 1) (by omega) (by omega) (f := n_up2 f sd w) (s := r.2) (fun t ht => by
        unfold n_up2
        by_cases e : t = sd
        · rw [if_pos e]
          omega
        · rw [if_neg e]
          exact hf t (by omega)) (n_pS_fS hs1 hfs) (fun c hc => by rw [a3 c hc, eBB]) (by
        rw [eJ]
        unfold n_tp
        rw [(a2 33 (by decide)).1, (a2 33 (by decide)).2]
        exact g3)
      rw [eJ, eq4] at hIH
      rw [a1, iI_add, iI_mul, iI_add, ok_bd]
      refine ok_mono hIH (fun s2 hs2 => ?_)
      rw [ok_nm]
      refine hg _ (by omega) ⟨by
        show iI (w : Int) + iI 1 = _
        rw [iI_add]
        rfl, (g2.tr hfs).tr (hs2.1.mono (by omega)), ?_⟩
      have e : n_q sz f sd * sz ^ (k + 1) + (w + 1) * sz ^ k = n_q sz f sd * sz ^ (k + 1) + w * sz ^ k + sz ^ k := by
        rw [Nat.add_mul, Nat.one_mul, Nat.add_assoc]
      rw [e]
      exact hs2.2
    · intro j hj
      rcases hv with ⟨rfl, hw⟩ | ⟨rfl, hw⟩
      · rw [n_iff n_10, show k_rd s 33 11 = _ from hs.2.1]
        have := hj sz r2.1 (Nat.le_refl _)
        rw [epw]
        rw [epw] at this
        exact this
      · rw [n_ift rfl]
        refine ok_mono (hj 1 (Nat.le_refl _) r2.1) (fun s' hs' => ⟨hs'.1, ?_⟩)
        obtain ⟨hF', ht1, ht2⟩ := hs'
        have hP : 1 ≤ sz ^ k := Nat.one_le_pow _ _ (by omega)
        have hsk := n_bm_sk (W := n_Wj n sz h l st ch) (J := n_q sz f sd * sz ^ (k + 1) + 1 * sz ^ k) (sz ^ (k + 1) - sz ^ k) (fun j h1 h2 => by
          have hle : sz ^ k ≤ sz ^ (k + 1) := Nat.pow_le_pow_right (by omega) (by omega)
          refine ⟨j - n_dk sz j sd * sz ^ (3 - sd), ?_, by rw [n_Wz hr hsd hw]; exact Int.le_refl _⟩
          rw [← ek]
          obtain ⟨r, hrr⟩ : ∃ r, j = r + (n_q sz f sd * sz) * sz ^ k := ⟨j - n_q sz f sd * sz * sz ^ k, by
            rw [epw, ← Nat.mul_assoc] at h1
            omega⟩
          rw [epw, ← Nat.mul_assoc] at h1 h2
          have hr1 : sz ^ k ≤ r := by omega
          have hr2 : r < sz ^ k * sz := by
            rw [Nat.mul_comm (sz ^ k) sz]
            omega
          have hd : n_dk sz j sd = r / sz ^ k := by
            unfold n_dk
            rw [← ek, hrr, Nat.add_mul_div_right _ _ (by omega), Nat.add_mul_mod_self_right, Nat.mod_eq_of_lt (Nat.div_lt_of_lt_mul hr2)]
          have hd1 : 1 ≤ n_dk sz j sd := by
            rw [hd]
            exact Nat.div_pos hr1 (by omega)
          have : 1 * sz ^ k ≤ n_dk sz j sd * sz ^ k := Nat.mul_le_mul_right _ hd1
          omega)
        have hle : sz ^ k ≤ sz ^ (k + 1) := Nat.pow_le_pow_right (by omega) (by omega)
        rw [show n_q sz f sd * sz ^ (k + 1) + 1 * sz ^ k + (sz ^ (k + 1) - sz ^ k) = n_q sz f sd * sz ^ (k + 1) + sz ^ (k + 1) by omega] at hsk
        unfold n_tp
        rw [hsk.1, hsk.2]
        exact ⟨ht1, ht2⟩
/-- the whole of it -/
theorem n_findTop {s : k_St} (hs : n_pS s n sz h l st ch) (hr : n_pR n sz h l st ch) (h35 : ∀ c, c < 32 → s.2 35 c = iL 0) : k_OK (f_X4_findTop s) (fun s' => n_Fr (fun c => c = 33 ∨ c = 35) s s' ∧ s'.2 33 2 = s.2 33 2 ∧ n_tp n sz h l st ch s' (sz ^ 4)) := by
  unfold f_X4_findTop
  simp only [iI_lit]
  rw [ok_nm, ok_nm, ok_bd]
  have hF : n_Fr (fun c => c = 33 ∨ c = 35) s (k_wr (k_wl s 33 0 (-1)) 33 1 (iI 0)) := (n_Fr.rf.wl (Or.inl rfl)).wr (Or.inl rfl)
  have hp : n_pS (k_wr (k_wl s 33 0 (-1)) 33 1 (iI 0)) n sz h l st ch := ⟨(wr_k (by decide)).trans hs.1, (wr_k (by decide)).trans hs.2.1, hs.2.2.1, hs.2.2.2⟩
  have e0 : n_SM n h l st ch (fun _ => 0) 0 = 0 := by
    unfold n_SM n_cB
    rw [n_sum_c (g := fun _ => 0) (fun c _ => by
      rw [n_bv_c (G := fun _ => 0) (fun p _ => by
        unfold n_cv
        rw [if_neg (by omega)])]
      have : ∀ P, n_bv (fun _ => 0) P = 0 := fun P => by
        induction P with
        | zero => rfl
        | succ P ih =>
          rw [n_bv_s, ih]
          rfl
      exact this n), n_sum_z]
  have hT := n_tryW hr 4 (m := 10) (sd := 0) rfl (by omega) (f := fun _ => 0) (s := k_wr (k_wl s 33 0 (-1)) 33 1 (iI 0)) (fun t ht => absurd ht (by omega)) hp (fun c hc => by
    show s.2 35 (32 * 0 + c) = _
    rw [show 32 * 0 + c = c by omega, h35 c hc]
    congr 1
    have : n_cB n h l st ch (fun _ => 0) 0 c = n_bv (fun _ => 0) n := n_bv_c (fun p _ => by
      unfold n_cv
      rw [if_neg (by omega)])
    rw [this]
    have : ∀ P, n_bv (fun _ => 0) P = 0 := fun P => by
      induction P with
      | zero => rfl
      | succ P ih =>
        rw [n_bv_s, ih]
        rfl
    exact (this n).symm) (by
    show n_tp n sz h l st ch _ (0 * sz ^ 4)
    rw [Nat.zero_mul]
    have w2 : (k_wl s 33 0 (-1)).2 33 0 = (-1 : Int64) := wl_s
    exact ⟨w2, wr_s⟩)
  rw [e0] at hT
  have hT : k_OK (f_X4_tryWords 10 (iI 0) (0 : Int64) (iI 0) (k_wr (k_wl s 33 0 (-1)) 33 1 (iI 0))) (fun s' => n_fS (k_wr (k_wl s 33 0 (-1)) 33 1 (iI 0)) s' (32 * (0 + 1)) ∧ n_tp n sz h l st ch s' (0 * sz ^ 4 + sz ^ 4)) := hT
  refine ok_mono hT (fun s' hs' => ok_some.mpr ?_)
  obtain ⟨⟨f1, f2, f3, f4, f5⟩, f6⟩ := hs'
  rw [Nat.zero_mul, Nat.zero_add] at f6
  exact ⟨hF.tr f1, f4, f6⟩
end N93
