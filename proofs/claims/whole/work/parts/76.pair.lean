/-! pair -/
theorem n_bm_r {G : Nat → Int} (h : ∀ c, -1 ≤ G c ∧ G c ≤ 5394600) (c : Nat) : -1 ≤ n_bm G c ∧ n_bm G c ≤ 5394600 := by
  rcases n_bs_r (fun c => (h c).1) c with ⟨h1, h2, h3⟩ | ⟨h1, h2, h3, h4⟩
  · omega
  · have := h (n_bs G c).toNat
    omega
theorem n_bestFit {s : k_St} {G : Nat → Int} (hG : ∀ c, c < 16 → s.2 45 c = iL (G c)) (h : ∀ c, -1 ≤ G c ∧ G c ≤ 5394600) : f_X5_bestFit s = some (iI (n_bs G 16)) := by
  unfold f_X5_bestFit
  simp only [iI_lit, iI_neg]
  refine ok_eq.mp (ok_for 16 (fun c (y : Int32 × Int64 × Int32) => y = (iI (n_bs G c), iL (n_bm G c), iI c)) ?_ (by omega) (j := 0) rfl (by omega))
  rintro g c _ rfl hc hg
  show k_OK (k_if _ _ _) _
  rw [n_ile (by omega) (by omega)]
  by_cases c0 : (16 : Int) ≤ c
  · rw [if_pos c0, ok_some, show c = 16 by omega]
  have hm := n_bm_r h c
  have hc1 := h c
  have es : n_bs G (c + 1) = if G c ≤ n_bm G c then n_bs G c else c := rfl
  have em : n_bm G (c + 1) = if G c ≤ n_bm G c then n_bm G c else G c := rfl
  rw [if_neg c0, n_gix (by omega) (by omega), iI_cl (by omega), Int.toNat_natCast, show k_rl s 45 c = iL (G c) from hG c (by omega), n_lcl (by omega) (by omega)]
  by_cases q : G c ≤ n_bm G c
  · rw [if_pos q] at es em ⊢
    rw [ok_nm, iI_add]
    exact hg _ (by omega) (by rw [es, em]; rfl)
  · rw [if_neg q] at es em ⊢
    rw [n_gix (by omega) (by omega), ok_nm, ok_nm, iI_add]
    exact hg _ (by omega) (by rw [es, em]; rfl)
theorem n_strike {s : k_St} {G : Nat → Int} {A B : Nat} (hG : ∀ c, c < 16 → s.2 45 c = iL (G c)) (hA : A < 4) (hB : B < 4) : k_OK (f_X5_strikeOut (iI A) (iI B) s) (fun s' => n_Fr (fun c => c = 45) s s' ∧ ∀ c, c < 16 → s'.2 45 c = iL (if c / 4 = A ∨ c % 4 = B then -1 else G c)) := by
  unfold f_X5_strikeOut
  simp only [iI_lit]
  refine ok_for 4 (fun j (z : Int32 × k_St) => z.1 = iI j ∧ n_Fr (fun c => c = 45) s z.2 ∧ ∀ c, c < 16 → z.2.2 45 c = iL (if (c / 4 = A ∧ c % 4 < j) ∨ (c % 4 = B ∧ c / 4 < j) then -1 else G c)) ?_ (by omega) (j := 0) ⟨rfl, n_Fr.rf, fun c hc => by rw [if_neg (by omega)]; exact hG c hc⟩ (by omega)
  rintro g j ⟨v, w⟩ ⟨hv, hF, hz⟩ hj hg
  have hv : v = iI j := hv
  subst hv
  have hF : n_Fr (fun c => c = 45) s w := hF
  have hz : ∀ c, c < 16 → w.2 45 c = iL (if (c / 4 = A ∧ c % 4 < j) ∨ (c % 4 = B ∧ c / 4 < j) then -1 else G c) := hz
  show k_OK (k_if _ _ _) _
  rw [n_ile (by omega) (by omega)]
  by_cases c0 : (4 : Int) ≤ j
  · rw [if_pos c0, ok_some]
    refine ⟨hF, fun c hc => ?_⟩
    rw [hz c hc]
    congr 1
    by_cases q : c / 4 = A ∨ c % 4 = B
    · rw [if_pos q, if_pos (by omega)]
    · rw [if_neg q, if_neg (by omega)]
  rw [if_neg c0]
  simp (disch := omega) only [iI_mul, iI_add, n_gix, iI_cl, n_nm]
  refine hg _ (by omega) ⟨rfl, (hF.wl rfl).wl rfl, fun c hc => ?_⟩
  show (k_wl (k_wl w 45 ((A : Int) * 4 + (j : Int)).toNat (-1)) 45 ((j : Int) * 4 + (B : Int)).toNat (-1)).2 45 c = _
  rw [show ((A : Int) * 4 + (j : Int)).toNat = 4 * A + j by omega, show ((j : Int) * 4 + (B : Int)).toNat = 4 * j + B by omega]
  by_cases e1 : c = 4 * j + B
  · rw [e1, wl_s, if_pos (by omega)]
    rfl
  · rw [wl_k e1]
    by_cases e2 : c = 4 * A + j
    · rw [e2, wl_s, if_pos (by omega)]
      rfl
    · rw [wl_k e2, hz c hc]
      congr 1
      by_cases q : (c / 4 = A ∧ c % 4 < j) ∨ (c % 4 = B ∧ c / 4 < j)
      · rw [if_pos q, if_pos (by omega)]
      · rw [if_neg q, if_neg (by omega)]
theorem n_rD_b {F : Nat → Int} (h : ∀ c, -1 ≤ F c ∧ F c ≤ 5394600) : ∀ t c, -1 ≤ n_rD F t c ∧ n_rD F t c ≤ 5394600
  | 0, c => h c
  | t + 1, c => by
    have ih := n_rD_b h t c
    show -1 ≤ (if n_bs (n_rD F t) 16 = -1 then n_rD F t else n_sk (n_rD F t) (n_bs (n_rD F t) 16)) c ∧ (if n_bs (n_rD F t) 16 = -1 then n_rD F t else n_sk (n_rD F t) (n_bs (n_rD F t) 16)) c ≤ 5394600
    split
    · exact ih
    · unfold n_sk
      split <;> omega
theorem n_rD_s {F : Nat → Int} {t : Nat} (c : ¬ n_bs (n_rD F t) 16 = -1) : n_rD F (t + 1) = n_sk (n_rD F t) (n_bs (n_rD F t) 16) ∧ ∀ a, n_rP F (t + 1) a = if a = (n_bs (n_rD F t) 16 / 4).toNat then n_bs (n_rD F t) 16 % 4 else n_rP F t a := by
  refine ⟨if_neg c, fun a => ?_⟩
  have e : n_rP F (t + 1) = fun a => if a = (n_bs (n_rD F t) 16 / 4).toNat then n_bs (n_rD F t) 16 % 4 else n_rP F t a := if_neg c
  rw [e]
theorem n_pairOf {s : k_St} {F : Nat → Int} {a : Nat} (hG : ∀ c, c < 16 → s.2 45 c = iL (F c)) (h : ∀ c, -1 ≤ F c ∧ F c ≤ 5394600) (ha : a < 4) : k_OK (f_X5_pairOf (iI a) s) (fun r => r.1 = iI (n_rP F 4 a) ∧ n_Fr (fun c => c = 45) s r.2) := by
  unfold f_X5_pairOf
  simp only [iI_lit, iI_neg]
  refine ok_for 4 (fun t (z : Int32 × k_St) => z.1 = iI t ∧ n_Fr (fun c => c = 45) s z.2 ∧ (∀ c, c < 16 → z.2.2 45 c = iL (n_rD F t c)) ∧ n_rP F t a = -1) ?_ (by omega) (j := 0) ⟨rfl, n_Fr.rf, hG, rfl⟩ (by omega)
  rintro g t ⟨v, w⟩ ⟨hv, hF, hz, hp⟩ ht hg
  have hv : v = iI t := hv
  subst hv
  have hF : n_Fr (fun c => c = 45) s w := hF
  have hz : ∀ c, c < 16 → w.2 45 c = iL (n_rD F t c) := hz
  have h0 : ∀ c, -1 ≤ F c := fun c => (h c).1
  show k_OK (k_if _ _ _) _
  rw [n_ile (by omega) (by omega)]
  by_cases c0 : (4 : Int) ≤ t
  · rw [if_pos c0, ok_some, show (4 : Nat) = t by omega]
    exact ⟨by rw [hp], hF⟩
  rw [if_neg c0, n_bestFit hz (n_rD_b h t), n_bd]
  have hbr := n_bs_r (n_rD_r h0 t) 16
  rw [n_ieq (by omega) (by omega)]
  by_cases c1 : n_bs (n_rD F t) 16 = -1
  · rw [if_pos c1, ok_some]
    have := (n_rst c1 (4 - t)).2
    rw [show t + (4 - t) = 4 by omega] at this
    exact ⟨by rw [this, hp], hF⟩
  obtain ⟨r1, r2⟩ := n_rnx h0 c1
  obtain ⟨d1, d2⟩ := n_rD_s c1
  rw [if_neg c1, iI_div2 (by omega) (by omega), iI_rem2 (by omega) (by omega), Int.tdiv_eq_ediv_of_nonneg r1.1, Int.tmod_eq_emod_of_nonneg r1.1, n_ieq (by omega) (by omega)]
  by_cases c2 : n_bs (n_rD F t) 16 / 4 = (a : Int)
  · rw [if_pos c2, ok_some]
    have e := d2 a
    rw [if_pos (by omega)] at e
    have := n_rPs h0 (t := t + 1) (a := a) (by omega) (4 - (t + 1))
    rw [show t + 1 + (4 - (t + 1)) = 4 by omega, e] at this
    exact ⟨by rw [this], hF⟩
  rw [if_neg c2, show n_bs (n_rD F t) 16 / 4 = (((n_bs (n_rD F t) 16 / 4).toNat : Nat) : Int) by omega, show n_bs (n_rD F t) 16 % 4 = (((n_bs (n_rD F t) 16 % 4).toNat : Nat) : Int) by omega, ok_bd]
  refine ok_mono (n_strike hz (by omega) (by omega)) (fun w' hw => ?_)
  rw [ok_nm, iI_add]
  refine hg _ (by omega) ⟨rfl, hF.tr hw.1, fun c hc => ?_, ?_⟩
  · rw [d1]
    exact hw.2 c hc
  · rw [d2, if_neg (by omega)]
    exact hp
/-! the reference -/
set_option maxRecDepth 100000 in
theorem n_hasD : ∀ h, h < 16 → ∀ b, b < 4 → f_X12_has (nI h) (nI b) = some (nI (h / 2 ^ b % 2)) := by decide +kernel
set_option maxRecDepth 100000 in
theorem n_orD : ∀ h, h < 16 → ∀ b, b < 4 → (nI h ||| o_shl 1 (nI b)) = nI (h ||| 2 ^ b) ∧ (h ||| 2 ^ b) < 16 ∧ ∀ c, c < 4 → (h ||| 2 ^ b) / 2 ^ c % 2 = if c = b then 1 else h / 2 ^ c % 2 := by decide +kernel
theorem n_hasM {h b : Nat} (hh : h < 16) (hb : b < 4) : f_X12_has (nI h) (iI b) = some (iI ((h / 2 ^ b % 2 : Nat) : Int)) := by
  rw [← iI_nat, ← iI_nat]
  exact n_hasD h hh b hb
theorem n_areS {σX s σM x : k_St} {n a b : Nat} (hx : x_c σX = x) (hs : m_c s = m_c σM) (hR : r_all x (m_c σM)) (hk : n_mk (m_c σM) n (fun p => vI x 14 p)) (ha : a < 4) (hb : b < 4) : f_X12_areShelved (iI a) (iI b) s = some (iB (0 ≤ n_Fi (m_c σM) (fun p => vI x 14 p) n a b)) := by
  have hRs : r_all x (m_c s) := by rw [hs]; exact hR
  obtain ⟨_, _, e⟩ := n_shelved (σM := s) (a := a) (b := b) hx hRs (by rw [hs]; exact hk.1) hk.2.1 ha hb
  rw [e, hs]
  have h0 := n_Fi_0 hk a b
  by_cases c1 : vI (m_c σM) 22 a = -1
  · rw [if_pos c1, n_bf (fun q => (h0.mp q).1 c1)]
  · rw [if_neg c1]
    by_cases c2 : (m_c σM).1 24 b = 0
    · rw [if_pos c2, n_bf (fun q => (h0.mp q).2 c2)]
    · rw [if_neg c2, n_bt (h0.mpr ⟨c1, c2⟩)]
def n_ct4 (P : Nat → Int) : Int := (if P 0 = -1 then 0 else 1) + (if P 1 = -1 then 0 else 1) + (if P 2 = -1 then 0 else 1) + (if P 3 = -1 then 0 else 1)
theorem n_ct4r (P : Nat → Int) : 0 ≤ n_ct4 P ∧ n_ct4 P ≤ 4 := by
  unfold n_ct4
  repeat' split
  all_goals omega
theorem n_ct4s {P P' : Nat → Int} {A : Nat} {B : Int} (hA : A < 4) (hB : 0 ≤ B) (h : ∀ a, P' a = if a = A then B else P a) (h0 : P A = -1) : n_ct4 P' = n_ct4 P + 1 := by
  unfold n_ct4
  rw [h 0, h 1, h 2, h 3]
  rcases (show A = 0 ∨ A = 1 ∨ A = 2 ∨ A = 3 by omega) with rfl | rfl | rfl | rfl
  · rw [if_pos (show (0 : Nat) = 0 from rfl), if_neg (show ¬ (1 : Nat) = 0 by decide), if_neg (show ¬ (2 : Nat) = 0 by decide), if_neg (show ¬ (3 : Nat) = 0 by decide), if_pos h0, if_neg (show ¬ B = -1 by omega)]
    omega
  · rw [if_pos (show (1 : Nat) = 1 from rfl), if_neg (show ¬ (0 : Nat) = 1 by decide), if_neg (show ¬ (2 : Nat) = 1 by decide), if_neg (show ¬ (3 : Nat) = 1 by decide), if_pos h0, if_neg (show ¬ B = -1 by omega)]
    omega
  · rw [if_pos (show (2 : Nat) = 2 from rfl), if_neg (show ¬ (0 : Nat) = 2 by decide), if_neg (show ¬ (1 : Nat) = 2 by decide), if_neg (show ¬ (3 : Nat) = 2 by decide), if_pos h0, if_neg (show ¬ B = -1 by omega)]
    omega
  · rw [if_pos (show (3 : Nat) = 3 from rfl), if_neg (show ¬ (0 : Nat) = 3 by decide), if_neg (show ¬ (1 : Nat) = 3 by decide), if_neg (show ¬ (2 : Nat) = 3 by decide), if_pos h0, if_neg (show ¬ B = -1 by omega)]
    omega
/-- the reference's rows after t rounds -/
def n_lpI (F : Nat → Int) (m : k_St) (t : Nat) (v : Int32) (s : k_St) : Prop := m_c s = m ∧ (∀ a, a < 4 → s.1 25 a = iI (n_rP F t a)) ∧ n_ct4 (n_rP F t) = t ∧ ∃ h : Nat, h < 16 ∧ v = nI h ∧ ∀ a b, a < 4 → b < 4 → n_rD F t (4 * a + b) = if n_rP F t a = -1 ∧ h / 2 ^ b % 2 = 0 then F (4 * a + b) else -1
theorem n_layPairs {σX σM x : k_St} {n : Nat} (hx : x_c σX = x) (hR : r_all x (m_c σM)) (hk : n_mk (m_c σM) n (fun p => vI x 14 p)) : k_OK (f_X12_layPairs σM) (fun s => m_c s = m_c σM ∧ ∀ a, a < 4 → s.1 25 a = iI (n_rP (fun c => n_Fi (m_c σM) (fun p => vI x 14 p) n (c / 4) (c % 4)) 4 a)) := by
  have hn6 := hk.2.1
  obtain ⟨F, hFd⟩ : ∃ F : Nat → Int, F = fun c => n_Fi (m_c σM) (fun p => vI x 14 p) n (c / 4) (c % 4) := ⟨_, rfl⟩
  have hFe : ∀ a b, b < 4 → n_Fi (m_c σM) (fun p => vI x 14 p) n a b = F (4 * a + b) := fun a b hb => by
    rw [hFd]
    show _ = n_Fi (m_c σM) (fun p => vI x 14 p) n ((4 * a + b) / 4) ((4 * a + b) % 4)
    rw [show (4 * a + b) / 4 = a by omega, show (4 * a + b) % 4 = b by omega]
  have hFr : ∀ c, -1 ≤ F c ∧ F c ≤ 5394600 := fun c => by
    rw [hFd]
    exact n_Fi_r hk _ _
  have h0 : ∀ c, -1 ≤ F c := fun c => (hFr c).1
  rw [← hFd]
  unfold f_X12_layPairs
  simp only [iI_lit, iI_neg]
  refine ok_for 4 (fun j (z : Int32 × k_St) => z.1 = iI j ∧ m_c z.2 = m_c σM ∧ ∀ a, a < j → z.2.1 25 a = iI (-1)) ?_ (by omega) (j := 0) ⟨rfl, rfl, fun t h => absurd h (by omega)⟩ (by omega)
  rintro g0 j ⟨v, s⟩ ⟨hv, hm0, hz⟩ hj hg0
  have hv : v = iI j := hv
  subst hv
  have hm0 : m_c s = m_c σM := hm0
  have hz : ∀ a, a < j → s.1 25 a = iI (-1) := hz
  show k_OK (k_if _ _ _) _
  rw [n_ile (by omega) (by omega)]
  by_cases c0 : (4 : Int) ≤ j
  rotate_left
  · rw [if_neg c0, n_gix (by omega) (by omega), iI_cl (by omega), Int.toNat_natCast, ok_nm, ok_nm]
    refine hg0 _ (by omega) ⟨by rw [iI_add]; rfl, (n_core_w1 rfl).trans hm0, fun a ha => ?_⟩
    show (k_wr s 25 j (iI (-1))).1 25 a = _
    by_cases e : a = j
    · rw [e, wr_s]
    · rw [wr_k e]
      exact hz a (by omega)
  rw [if_pos c0]
  clear hg0
  refine ok_for 5 (fun t (z : Int32 × Int32 × k_St) => (z.2.1 = iI 1 ∧ n_lpI F (m_c σM) t z.1 z.2.2) ∨ (z.2.1 = iI 0 ∧ m_c z.2.2 = m_c σM ∧ ∀ a, a < 4 → z.2.2.1 25 a = iI (n_rP F 4 a))) ?_ (by omega) (j := 0) (Or.inl ⟨rfl, hm0, fun a ha => hz a (by omega), rfl, 0, by omega, rfl, fun a b ha hb => by
    rw [if_pos ⟨rfl, by simp⟩]
    rfl⟩) (by omega)
  clear hz hm0
  rintro g t ⟨v, u, s0⟩ (⟨hu, hs0, hp, hct, h, hh, hv, hD⟩ | ⟨hu, hs0, hp⟩) ht hg
  rotate_left
  · have hu : u = iI 0 := hu
    subst hu
    show k_OK (k_if _ _ _) _
    rw [n_ift rfl, ok_some]
    exact ⟨hs0, hp⟩
  have hu : u = iI 1 := hu
  subst hu
  have hv : v = nI h := hv
  subst hv
  have hs0 : m_c s0 = m_c σM := hs0
  have hp : ∀ a, a < 4 → s0.1 25 a = iI (n_rP F t a) := hp
  have hc4 := n_ct4r (n_rP F t)
  show k_OK (k_if _ _ _) _
  rw [n_iff (show ¬ iI 1 = iI 0 by decide)]
  have hGb := n_rD_b hFr t
  have hGr := n_bs_r (n_rD_r h0 t)
  refine ok_for 4 (fun a (z : Int32 × Int32 × Int32 × k_St) => z.1 = iI (n_bs (n_rD F t) (4 * a)) ∧ z.2.1 = iI (if n_bs (n_rD F t) (4 * a) = -1 then 0 else n_bm (n_rD F t) (4 * a)) ∧ z.2.2.1 = iI a ∧ m_c z.2.2.2 = m_c σM ∧ ∀ a, a < 4 → z.2.2.2.1 25 a = iI (n_rP F t a)) ?_ (by omega) (j := 0) ⟨rfl, rfl, rfl, hs0, hp⟩ (by omega)
  clear hs0 hp
  rintro g1 a ⟨v3, v4, v5, s⟩ ⟨q3, q4, q5, hms, hp⟩ ha hg1
  have q3 : v3 = iI (n_bs (n_rD F t) (4 * a)) := q3
  have q4 : v4 = iI (if n_bs (n_rD F t) (4 * a) = -1 then 0 else n_bm (n_rD F t) (4 * a)) := q4
  have q5 : v5 = iI a := q5
  subst q3
  subst q4
  subst q5
  have hms : m_c s = m_c σM := hms
  have hp : ∀ a, a < 4 → s.1 25 a = iI (n_rP F t a) := hp
  have hbr := hGr (4 * a)
  show k_OK (k_if _ _ _) _
  rw [n_ile (by omega) (by omega)]
  by_cases c1 : (4 : Int) ≤ a
  · have ea : 4 * a = 16 := by omega
    rw [ea] at hbr ⊢
    rw [if_pos c1, n_jn]
    dsimp only
    rw [n_ieq (by omega) (by omega)]
    by_cases c2 : n_bs (n_rD F t) 16 = -1
    · rw [if_pos c2, n_ift rfl]
      refine hg _ (by omega) (Or.inr ⟨rfl, hms, fun a ha => ?_⟩)
      have e := (n_rst c2 (4 - t)).2
      rw [show t + (4 - t) = 4 by omega] at e
      rw [e]
      exact hp a ha
    · obtain ⟨r1, r2⟩ := n_rnx h0 c2
      obtain ⟨d1, d2⟩ := n_rD_s c2
      rw [if_neg c2, n_iff (show ¬ iI 1 = iI 0 by decide), iI_div2 (by omega) (by omega), iI_rem2 (by omega) (by omega), Int.tdiv_eq_ediv_of_nonneg r1.1, Int.tmod_eq_emod_of_nonneg r1.1, n_gix (by omega) (by omega), iI_cl (by omega), ok_nm, ok_nm]
      have hct' := n_ct4s (A := (n_bs (n_rD F t) 16 / 4).toNat) (by omega) (show 0 ≤ n_bs (n_rD F t) 16 % 4 by omega) d2 r2
      obtain ⟨b1, b2, b3⟩ := n_orD h hh (n_bs (n_rD F t) 16 % 4).toNat (by omega)
      refine hg _ (by omega) (Or.inl ⟨rfl, (n_core_w1 rfl).trans hms, fun a' ha' => ?_, by rw [hct', hct]; rfl, h ||| 2 ^ (n_bs (n_rD F t) 16 % 4).toNat, b2, ?_, fun a' b' ha' hb' => ?_⟩)
      · show (k_wr s 25 (n_bs (n_rD F t) 16 / 4).toNat (iI (n_bs (n_rD F t) 16 % 4))).1 25 a' = _
        rw [d2]
        by_cases e : a' = (n_bs (n_rD F t) 16 / 4).toNat
        · rw [if_pos e, e, wr_s]
        · rw [if_neg e, wr_k e]
          exact hp a' ha'
      · show nI h ||| o_shl (iI 1) (iI (n_bs (n_rD F t) 16 % 4)) = _
        rw [← b1, iI_nat (n_bs (n_rD F t) 16 % 4).toNat, show (((n_bs (n_rD F t) 16 % 4).toNat : Nat) : Int) = n_bs (n_rD F t) 16 % 4 by omega]
        rfl
      · rw [d1, d2, b3 b' hb']
        unfold n_sk
        rw [show (4 * a' + b') / 4 = a' by omega, show (4 * a' + b') % 4 = b' by omega, hD a' b' ha' hb']
        by_cases e1 : a' = (n_bs (n_rD F t) 16 / 4).toNat
        · rw [if_pos (Or.inl e1), if_pos e1, if_neg (show ¬ (n_bs (n_rD F t) 16 % 4 = -1 ∧ (if b' = (n_bs (n_rD F t) 16 % 4).toNat then 1 else h / 2 ^ b' % 2) = 0) from fun q => by have := q.1; omega)]
        · rw [if_neg e1]
          by_cases e2 : b' = (n_bs (n_rD F t) 16 % 4).toNat
          · rw [if_pos (Or.inr e2), if_pos e2, if_neg (fun q => absurd q.2 (by decide))]
          · rw [if_neg (fun q => q.elim e1 e2), if_neg e2]
  rw [if_neg c1]
  refine ok_for 4 (fun b (z : Int32 × Int32 × Int32 × k_St) => z.1 = iI (n_bs (n_rD F t) (4 * a + b)) ∧ z.2.1 = iI (if n_bs (n_rD F t) (4 * a + b) = -1 then 0 else n_bm (n_rD F t) (4 * a + b)) ∧ z.2.2.1 = iI b ∧ m_c z.2.2.2 = m_c σM ∧ ∀ a, a < 4 → z.2.2.2.1 25 a = iI (n_rP F t a)) ?_ (by omega) (j := 0) ⟨rfl, rfl, rfl, hms, hp⟩ (by omega)
  clear hms hp hbr
  rintro g2 b ⟨v3, v4, v5, s⟩ ⟨q3, q4, q5, hms, hp⟩ hb hg2
  have q3 : v3 = iI (n_bs (n_rD F t) (4 * a + b)) := q3
  have q4 : v4 = iI (if n_bs (n_rD F t) (4 * a + b) = -1 then 0 else n_bm (n_rD F t) (4 * a + b)) := q4
  have q5 : v5 = iI b := q5
  subst q3
  subst q4
  subst q5
  have hms : m_c s = m_c σM := hms
  have hp : ∀ a, a < 4 → s.1 25 a = iI (n_rP F t a) := hp
  have hbr := hGr (4 * a + b)
  have hbm := n_bm_r hGb (4 * a + b)
  show k_OK (k_if _ _ _) _
  rw [n_ile (by omega) (by omega)]
  by_cases c2 : (4 : Int) ≤ b
  · rw [if_pos c2, ok_nm, iI_add]
    have e4 : 4 * (a + 1) = 4 * a + b := by omega
    refine hg1 _ (by omega) ⟨?_, ?_, rfl, hms, hp⟩
    · rw [e4]
    · rw [e4]
  have es : n_bs (n_rD F t) (4 * a + b + 1) = if n_rD F t (4 * a + b) ≤ n_bm (n_rD F t) (4 * a + b) then n_bs (n_rD F t) (4 * a + b) else ((4 * a + b : Nat) : Int) := rfl
  have em : n_bm (n_rD F t) (4 * a + b + 1) = if n_rD F t (4 * a + b) ≤ n_bm (n_rD F t) (4 * a + b) then n_bm (n_rD F t) (4 * a + b) else n_rD F t (4 * a + b) := rfl
  have hDab := hD a b (by omega) (by omega)
  have hFab := hFr (4 * a + b)
  -- this one isn't to be had, or no better
  have no : ∀ s' : k_St, n_rD F t (4 * a + b) ≤ n_bm (n_rD F t) (4 * a + b) → m_c s' = m_c σM → (∀ a, a < 4 → s'.1 25 a = iI (n_rP F t a)) → k_OK (g2 (iI (n_bs (n_rD F t) (4 * a + b)), iI (if n_bs (n_rD F t) (4 * a + b) = -1 then 0 else n_bm (n_rD F t) (4 * a + b)), iI ((b : Int) + 1), s')) (fun s => m_c s = m_c σM ∧ ∀ a, a < 4 → s.1 25 a = iI (n_rP F 4 a)) := fun s' q h1 h2 => hg2 _ (by omega) ⟨by
    show iI _ = iI (n_bs (n_rD F t) (4 * a + b + 1))
    rw [es, if_pos q], by
    show iI _ = iI (if n_bs (n_rD F t) (4 * a + b + 1) = -1 then 0 else n_bm (n_rD F t) (4 * a + b + 1))
    rw [es, em, if_pos q, if_pos q], rfl, h1, h2⟩
  have e0 : n_Fi (m_c σM) (fun p => vI x 14 p) n a b = F (4 * a + b) := hFe a b (by omega)
  have eS := n_areS (a := a) (b := b) hx hms hR hk (by omega) (by omega)
  rw [e0] at eS
  rw [if_neg c2, eS, n_bd, n_ib]
  by_cases c3 : 0 ≤ F (4 * a + b)
  rotate_left
  · rw [if_neg c3, ok_nm, iI_add]
    refine no s ?_ hms hp
    rw [hDab]
    split <;> omega
  have h01 : ¬ vI (m_c σM) 22 a = -1 ∧ ¬ (m_c σM).1 24 b = 0 := (n_Fi_0 hk a b).mp (by rw [e0]; exact c3)
  have hPr : n_rP F t a = -1 ∨ ¬ n_rP F t a = -1 := by omega
  have e25 : k_rd s 25 a = iI (n_rP F t a) := hp a (by omega)
  rw [if_pos c3, n_gix (by omega) (by omega), iI_cl (by omega), Int.toNat_natCast, ok_if]
  refine ⟨fun c4 => ?_, fun c4 => ?_⟩
  rotate_left
  · rw [ok_nm, iI_add]
    refine no s ?_ hms hp
    rw [hDab, if_neg (fun q => c4 (by rw [e25, q.1]))]
    omega
  rw [n_hasM hh (by omega), n_bd, n_ieq (by omega) (by omega)]
  by_cases c5 : ((h / 2 ^ b % 2 : Nat) : Int) = 0
  rotate_left
  · rw [if_neg c5, ok_nm, iI_add]
    refine no s ?_ hms hp
    rw [hDab, if_neg (fun q => c5 (by rw [q.2]; rfl))]
    omega
  have hPb : ∀ u, -1 ≤ n_rP F u a ∧ n_rP F u a ≤ 3 := fun u => by
    induction u with
    | zero =>
      show (-1 : Int) ≤ -1 ∧ (-1 : Int) ≤ 3
      omega
    | succ u ih =>
      by_cases c : n_bs (n_rD F u) 16 = -1
      · rw [show n_rP F (u + 1) = n_rP F u from if_pos c]
        exact ih
      · rw [(n_rD_s c).2]
        split <;> omega
  have hP1 : n_rP F t a = -1 := by
    have q := e25.symm.trans c4
    have := hPb t
    exact (iI_eq (by omega) (by omega)).mp q
  rw [if_pos ⟨hP1, by omega⟩] at hDab
  rw [if_pos c5]
  -- this one is better
  have yes : ∀ s' : k_St, ¬ n_rD F t (4 * a + b) ≤ n_bm (n_rD F t) (4 * a + b) → m_c s' = m_c σM → (∀ a, a < 4 → s'.1 25 a = iI (n_rP F t a)) → k_OK (k_nm (iI 4 * iI (a : Int) + iI (b : Int)) fun y107 => k_b2 (f_X12_fitOf (iI (a : Int)) (iI (b : Int)) s') fun v113 s113 => k_nm (iI (b : Int) + iI 1) fun y118 => g2 (y107, v113, y118, s113)) (fun s => m_c s = m_c σM ∧ ∀ a, a < 4 → s.1 25 a = iI (n_rP F 4 a)) := fun s' q h1 h2 => by
    obtain ⟨s2, e1, e2, hG⟩ := n_fitF (a := a) (b := b) h1 hR hk (by omega) (by omega) h01.1 h01.2
    rw [ok_nm, e1, n_b2, ok_nm, iI_add, iI_mul, iI_add, e0]
    refine hg2 _ (by omega) ⟨?_, ?_, rfl, e2, fun a' ha' => ?_⟩
    · show _ = iI (n_bs (n_rD F t) (4 * a + b + 1))
      rw [es, if_neg q]
      rfl
    · show _ = iI (if n_bs (n_rD F t) (4 * a + b + 1) = -1 then 0 else n_bm (n_rD F t) (4 * a + b + 1))
      rw [es, em, if_neg q, if_neg q, if_neg (by omega), hDab]
    · rw [(hG 25 (by unfold i_SF; omega)).1]
      exact h2 a' ha'
  rw [n_jn, n_ieq (by omega) (by omega)]
  by_cases c6 : n_bs (n_rD F t) (4 * a + b) = -1
  · rw [if_pos c6]
    exact yes s (by omega) hms hp
  · obtain ⟨s2, e1, e2, hG⟩ := n_fitF (a := a) (b := b) hms hR hk (by omega) (by omega) h01.1 h01.2
    have hp2 : ∀ a, a < 4 → s2.1 25 a = iI (n_rP F t a) := fun a' ha' => by
      rw [(hG 25 (by unfold i_SF; omega)).1]
      exact hp a' ha'
    rw [if_neg c6, e1, n_b2, e0, if_neg c6, n_ile (by omega) (by omega)]
    rw [if_neg c6] at no
    by_cases c7 : F (4 * a + b) ≤ n_bm (n_rD F t) (4 * a + b)
    · rw [if_pos c7, ok_nm, iI_add]
      exact no s2 (by omega) e2 hp2
    · rw [if_neg c7]
      exact yes s2 (by omega) e2 hp2
theorem n_rPz {F : Nat → Int} {a : Nat} (h0 : ∀ c, -1 ≤ F c) (ha : a < 4) (hz : ∀ b, b < 4 → F (4 * a + b) = -1) : ∀ t, n_rP F t a = -1
  | 0 => rfl
  | t + 1 => by
    have ih := n_rPz h0 ha hz t
    by_cases c : n_bs (n_rD F t) 16 = -1
    · rw [show n_rP F (t + 1) = n_rP F t from if_pos c]
      exact ih
    · rw [(n_rD_s c).2]
      by_cases q : a = (n_bs (n_rD F t) 16 / 4).toNat
      · exfalso
        have hDF : ∀ u d, n_rD F u d = F d ∨ n_rD F u d = -1 := fun u d => by
          induction u with
          | zero => exact Or.inl rfl
          | succ u ih =>
            by_cases c : n_bs (n_rD F u) 16 = -1
            · rw [show n_rD F (u + 1) = n_rD F u from if_pos c]
              exact ih
            · rw [(n_rD_s c).1]
              unfold n_sk
              split
              · exact Or.inr rfl
              · exact ih
        rcases n_bs_r (n_rD_r h0 t) 16 with ⟨h1, _⟩ | ⟨h1, h2, h3, h4⟩
        · exact c h1
        · have hFz := hz ((n_bs (n_rD F t) 16).toNat % 4) (by omega)
          rw [show 4 * a + (n_bs (n_rD F t) 16).toNat % 4 = (n_bs (n_rD F t) 16).toNat by omega] at hFz
          have := hDF t (n_bs (n_rD F t) 16).toNat
          omega
      · rw [if_neg q]
        exact ih
set_option maxRecDepth 20000 in
theorem q_s20 : g_s20 z_Inv := by
  intro σX σM hI a0
  obtain ⟨a, ha, rfl⟩ := iI_ex a0
  obtain ⟨x, hx, hR⟩ := z_openX hI
  obtain ⟨hTap, hLak, hNow, hImg, hShf, hSee, hLrn, hLaw, hVal⟩ := id hR
  obtain ⟨l1, l2, l3, l4, l5, l6⟩ := id hLak
  obtain ⟨n, hk⟩ := hR.mk
  have b1 := l1.2
  have k1 := hk.1
  have hn6 := hk.2.1
  have f2 : k_rd σM 0 21 = iI (vI (m_c σM) 0 21) := n_core_I rfl rfl
  unfold f_X11_pair f_X12_pair
  simp (disch := omega) only [iI_lit, f2, n_in, n_within, n_ieq, iI_neg, n_bd, n_ib]
  by_cases ca : 0 ≤ a ∧ a ≤ 3
  rotate_left
  · have eX : f_X5_hasTugs (iI a) σX = some (iI 0) := by
      unfold f_X5_hasTugs f_X11_isShelf
      simp (disch := omega) only [iI_lit, n_within, n_bd, n_gdt n_isB, n_ib]
      rw [if_neg ca]
    rw [eX, n_bd, n_ift rfl, if_neg ca]
    refine ⟨_, _, _, rfl, ?_, hI⟩
    split <;> rfl
  obtain ⟨a, rfl⟩ := Int.eq_ofNat_of_zero_le ca.1
  obtain ⟨e1, _, _⟩ := n_shelved (a := a) (b := 0) hx hR k1 hn6 (by omega) (by omega)
  rw [e1, n_bd, if_pos ca]
  by_cases c0 : vI (m_c σM) 0 21 = 0
  · have hv : vI (m_c σM) 22 a = -1 := by
      rcases (hShf a (by omega)).1 with ⟨s1, s2⟩ | ⟨s1, s2, s3, s4⟩
      · unfold vI
        rw [s1]
        rfl
      · omega
    rw [if_pos c0, if_pos hv, n_ift rfl]
    exact ⟨_, _, _, rfl, rfl, hI⟩
  rw [if_neg c0]
  obtain ⟨F, hFd⟩ : ∃ F : Nat → Int, F = fun c => n_Fi (m_c σM) (fun p => vI x 14 p) n (c / 4) (c % 4) := ⟨_, rfl⟩
  have hFr : ∀ c, -1 ≤ F c ∧ F c ≤ 5394600 := fun c => by
    rw [hFd]
    exact n_Fi_r hk _ _
  obtain ⟨sM, e2, hm, hP⟩ := n_layPairs hx hR hk
  have hP := hP a (by omega)
  rw [← hFd] at hP
  rw [e2, n_bd, n_gix (by omega) (by omega), iI_cl (by omega), Int.toNat_natCast, show k_rd sM 25 a = iI (n_rP F 4 a) from hP]
  by_cases c1 : vI (m_c σM) 22 a = -1
  · -- an empty shelf is never paired
    have hz := n_rPz (F := F) (a := a) (fun c => (hFr c).1) (by omega) (fun b hb => by
      rw [hFd]
      show n_Fi (m_c σM) (fun p => vI x 14 p) n ((4 * a + b) / 4) ((4 * a + b) % 4) = -1
      rw [show (4 * a + b) / 4 = a by omega]
      unfold n_Fi
      rw [if_pos c1])
    rw [if_pos c1, n_ift rfl, hz 4]
    exact ⟨_, _, _, rfl, rfl, z_close hx hm hR⟩
  rw [if_neg c1, n_iff (show ¬ iI 1 = iI 0 by decide)]
  obtain ⟨s1, e3, hF1, hG⟩ := n_reckon hx hR hk
  obtain ⟨⟨r, s2⟩, e4, hr, hF2⟩ := n_pairOf (s := s1) (F := F) (a := a) (fun c hc => by rw [hFd]; exact hG c hc) hFr (by omega)
  have hr : r = iI (n_rP F 4 a) := hr
  have hF2 : n_Fr (fun c => c = 45) s1 s2 := hF2
  rw [e3, n_bd, e4, n_b2, hr]
  exact ⟨_, _, _, rfl, rfl, z_close ((n_frX (hF1.tr hF2) (fun c hc k => by rw [hc]; rfl)).trans hx) hm hR⟩
