/-! leavers: who is with whom -/
def n_cp (Fi : Nat → Nat → Int) (z : Int) (t : Nat) : Prop := ∀ s, s < t → n_d4 z s = 9 ∨ n_d4 z s < 4 ∧ 0 ≤ Fi s (n_d4 z s).toNat ∧ ∀ u, u < s → ¬ n_d4 z u = n_d4 z s
theorem n_cp_s {Fi : Nat → Nat → Int} {z : Int} {t : Nat} (h : n_cp Fi z t) (h2 : n_d4 z t = 9 ∨ n_d4 z t < 4 ∧ 0 ≤ Fi t (n_d4 z t).toNat ∧ ∀ u, u < t → ¬ n_d4 z u = n_d4 z t) : n_cp Fi z (t + 1) := fun s hs => by
  by_cases e : s = t
  · rw [e]
    exact h2
  · exact h s (by omega)
theorem n_hasTO {σ : k_St} {b : Int} (hb : -2147483648 ≤ b ∧ b ≤ 2147483647) (h : ¬ (0 ≤ b ∧ b ≤ 3)) : f_X5_hasThrows (iI b) σ = some (iI 0) := by
  unfold f_X5_hasThrows f_X11_isShelf
  simp (disch := omega) only [iI_lit, n_within, n_bd, n_gdt n_isB, n_ib]
  rw [if_neg h]
theorem n_areO {σ : k_St} {a : Nat} {b : Int} (ha : a < 4) (hb : -2147483648 ≤ b ∧ b ≤ 2147483647) (h : ¬ (0 ≤ b ∧ b ≤ 3)) : f_X12_areShelved (iI a) (iI b) σ = some (iI 0) := by
  unfold f_X12_areShelved
  simp (disch := omega) only [iI_lit, n_in, n_within, n_bd, n_ib]
  rw [if_pos (by omega), if_neg h]
set_option maxRecDepth 100000 in
theorem n_anD : ∀ h, h < 16 → ∀ b, b < 4 → decide ((nI h &&& o_shl 1 (nI b)) = 0) = decide (h / 2 ^ b % 2 = 0) := by decide +kernel
theorem n_anI {h b : Nat} (hh : h < 16) (hb : b < 4) : (nI h &&& o_shl (iI 1) (iI b)) = iI 0 ↔ h / 2 ^ b % 2 = 0 := by
  have e := n_anD h hh b hb
  rw [iI_nat b] at e
  exact decide_eq_decide.mp e
theorem n_isRow {σX σM x : k_St} {n : Nat} {z : Int} (hx : x_c σX = x) (hR : r_all x (m_c σM)) (hk : n_mk (m_c σM) n (fun p => vI x 14 p)) (hz : 0 ≤ z ∧ z ≤ 9999) : k_OK (f_X5_isRow (iI z) σX) (fun r => (r = iI 1 ∧ n_cp (n_Fi (m_c σM) (fun p => vI x 14 p) n) z 4) ∨ (r = iI 0 ∧ ¬ n_cp (n_Fi (m_c σM) (fun p => vI x 14 p) n) z 4)) := by
  have hn6 := hk.2.1
  have hF0 := fun a b => n_Fi_0 hk a b
  generalize hFi : n_Fi (m_c σM) (fun p => vI x 14 p) n = Fi at *
  unfold f_X5_isRow
  simp (disch := omega) only [iI_lit, n_within, n_bd, n_ib]
  rw [if_pos hz]
  refine ok_for 4 (fun s (y : Int32 × Int32) => y.2 = iI s ∧ n_cp Fi z s ∧ ∃ h : Nat, h < 16 ∧ y.1 = nI h ∧ ∀ c, c < 4 → (h / 2 ^ c % 2 = 0 ↔ ∀ u, u < s → ¬ n_d4 z u = (c : Nat))) ?_ (by omega) (j := 0) ⟨rfl, fun s hs => absurd hs (by omega), 0, by omega, rfl, fun c hc => ⟨fun _ u hu => absurd hu (by omega), fun _ => by simp⟩⟩ (by omega)
  rintro g s ⟨v, w⟩ ⟨hw, hc, h, hh, hv, hb⟩ hs hg
  have hw : w = iI s := hw
  subst hw
  have hv : v = nI h := hv
  subst hv
  show k_OK (k_if _ _ _) _
  rw [n_ile (by omega) (by omega)]
  by_cases c0 : (4 : Int) ≤ s
  · rw [if_pos c0, ok_some]
    exact Or.inl ⟨rfl, fun u hu => hc u (by omega)⟩
  have hd := n_d4r hz s
  rw [if_neg c0, n_digitOf hz (by omega), n_bd, n_ieq (by omega) (by omega)]
  by_cases c1 : n_d4 z s = 9
  · rw [if_pos c1, ok_nm, iI_add]
    refine hg _ (by omega) ⟨rfl, n_cp_s hc (Or.inl c1), h, hh, rfl, fun c hc4 => ?_⟩
    rw [hb c hc4]
    constructor
    · intro q u hu
      by_cases e : u = s
      · rw [e]
        omega
      · exact q u (by omega)
    · intro q u hu
      exact q u (by omega)
  rw [if_neg c1]
  have no : ¬ (n_d4 z s = 9 ∨ n_d4 z s < 4 ∧ 0 ≤ Fi s (n_d4 z s).toNat ∧ ∀ u, u < s → ¬ n_d4 z u = n_d4 z s) → ¬ n_cp Fi z 4 := fun q r => q (r s (by omega))
  by_cases c2 : n_d4 z s < 4
  rotate_left
  · have e2 : f_X5_hasThrows (iI (n_d4 z s)) σX = some (iI 0) := n_hasTO (by omega) (by omega)
    obtain ⟨e1, _, _⟩ := n_shelved (a := s) (b := 0) hx hR hk.1 hn6 (by omega) (by omega)
    rw [e1, n_bd]
    by_cases c3 : vI (m_c σM) 22 s = -1
    · rw [if_pos c3, n_ift rfl, ok_some]
      exact Or.inr ⟨rfl, no (by omega)⟩
    · rw [if_neg c3, n_iff (show ¬ iI 1 = iI 0 by decide), e2, n_bd, n_ift rfl, ok_some]
      exact Or.inr ⟨rfl, no (by omega)⟩
  obtain ⟨D, hD⟩ := Int.eq_ofNat_of_zero_le hd.1
  rw [hD] at c1 c2 no ⊢
  rw [Int.toNat_natCast] at no
  obtain ⟨e1, e2, _⟩ := n_shelved (a := s) (b := D) hx hR hk.1 hn6 (by omega) (by omega)
  have hF := hF0 s D
  rw [e1, n_bd, e2]
  by_cases c3 : vI (m_c σM) 22 s = -1
  · rw [if_pos c3, n_ift rfl, ok_some]
    exact Or.inr ⟨rfl, no (fun q => by
      rcases q with q | q
      · omega
      · exact (hF.mp q.2.1).1 c3)⟩
  rw [if_neg c3, n_iff (show ¬ iI 1 = iI 0 by decide), n_bd]
  by_cases c4 : (m_c σM).1 24 D = 0
  · rw [if_pos c4, n_ift rfl, ok_some]
    exact Or.inr ⟨rfl, no (fun q => by
      rcases q with q | q
      · omega
      · exact (hF.mp q.2.1).2 c4)⟩
  rw [if_neg c4, n_iff (show ¬ iI 1 = iI 0 by decide)]
  have hbD := hb D (by omega)
  have hF := hF.mpr ⟨c3, c4⟩
  rw [ok_if]
  refine ⟨fun q => ?_, fun q => ?_⟩
  · have q := hbD.mp ((n_anI hh (by omega)).mp q)
    rw [ok_nm, ok_nm, iI_add]
    obtain ⟨b1, b2, b3⟩ := n_orD h hh D (by omega)
    refine hg _ (by omega) ⟨rfl, n_cp_s hc (Or.inr ⟨by omega, by rw [hD]; exact hF, fun u hu => by rw [hD]; exact q u hu⟩), h ||| 2 ^ D, b2, ?_, fun c hc4 => ?_⟩
    · show nI h ||| o_shl (iI 1) (iI (D : Int)) = _
      rw [← b1, iI_nat]
      rfl
    · rw [b3 c hc4]
      by_cases e : c = D
      · rw [if_pos e]
        exact ⟨fun q => absurd q (by decide), fun q => absurd (by rw [hD, e]) (q s (by omega))⟩
      · rw [if_neg e, hb c hc4]
        constructor
        · intro q u hu
          by_cases e2 : u = s
          · rw [e2, hD]
            omega
          · exact q u (by omega)
        · intro q u hu
          exact q u (by omega)
  · rw [ok_some]
    refine Or.inr ⟨rfl, no (fun r => ?_)⟩
    rcases r with r | r
    · omega
    · exact q ((n_anI hh (by omega)).mpr (hbD.mpr r.2.2))
/-- with whom is b -/
def n_wt (z : Int) (b : Nat) : Nat → Int
  | 0 => -1
  | t + 1 => if n_d4 z t = b then t else n_wt z b t
theorem n_wt_r (z : Int) (b : Nat) : ∀ t, (n_wt z b t = -1 ∧ ∀ u, u < t → ¬ n_d4 z u = b) ∨ (0 ≤ n_wt z b t ∧ n_wt z b t < t ∧ n_d4 z (n_wt z b t).toNat = b)
  | 0 => Or.inl ⟨rfl, fun u hu => absurd hu (by omega)⟩
  | t + 1 => by
    have e : n_wt z b (t + 1) = if n_d4 z t = b then (t : Int) else n_wt z b t := rfl
    rw [e]
    by_cases c : n_d4 z t = b
    · rw [if_pos c]
      exact Or.inr ⟨by omega, by omega, by rw [Int.toNat_natCast]; exact c⟩
    · rw [if_neg c]
      rcases n_wt_r z b t with ⟨h1, h2⟩ | ⟨h1, h2, h3⟩
      · refine Or.inl ⟨h1, fun u hu => ?_⟩
        by_cases e : u = t
        · rw [e]
          exact c
        · exact h2 u (by omega)
      · exact Or.inr ⟨h1, by omega, h3⟩
theorem n_wt_u {Fi : Nat → Nat → Int} {z : Int} {b u : Nat} (hc : n_cp Fi z 4) (hb : b < 4) (hu : u < 4) (h : n_d4 z u = b) : n_wt z b 4 = u := by
  rcases n_wt_r z b 4 with ⟨h1, h2⟩ | ⟨h1, h2, h3⟩
  · exact absurd h (h2 u hu)
  · by_cases e : (n_wt z b 4).toNat = u
    · omega
    · exfalso
      by_cases l : u < (n_wt z b 4).toNat
      · rcases hc (n_wt z b 4).toNat (by omega) with q | q
        · omega
        · exact q.2.2 u l (by rw [h, h3])
      · rcases hc u hu with q | q
        · omega
        · exact q.2.2 (n_wt z b 4).toNat (by omega) (by rw [h, h3])
theorem n_layCou {σX σM x : k_St} {n : Nat} {z : Int} (hx : x_c σX = x) (hR : r_all x (m_c σM)) (hk : n_mk (m_c σM) n (fun p => vI x 14 p)) (hn : 0 < n) (hz : 0 ≤ z ∧ z ≤ 9999) : k_OK (f_X12_layCouples (iI z) σM) (fun r => m_c r.2 = m_c σM ∧ ((r.1 = iI 1 ∧ n_cp (n_Fi (m_c σM) (fun p => vI x 14 p) n) z 4 ∧ ∀ s, s < 4 → r.2.1 31 s = iI (if n_d4 z s = 9 then -1 else n_d4 z s) ∧ r.2.1 32 s = iI (n_wt z s 4)) ∨ (r.1 = iI 0 ∧ ¬ n_cp (n_Fi (m_c σM) (fun p => vI x 14 p) n) z 4))) := by
  have hn6 := hk.2.1
  have f2 : k_rd σM 0 21 = iI (vI (m_c σM) 0 21) := n_core_I rfl rfl
  have hF0 := fun a b => n_Fi_0 hk a b
  have hSh : ∀ (s : k_St) (a b : Nat), m_c s = m_c σM → a < 4 → b < 4 → f_X12_areShelved (iI a) (iI b) s = some (iB (0 ≤ n_Fi (m_c σM) (fun p => vI x 14 p) n a b)) := fun s a b h1 h2 h3 => n_areS hx h1 hR hk h2 h3
  generalize hFi : n_Fi (m_c σM) (fun p => vI x 14 p) n = Fi at *
  unfold f_X12_layCouples
  rw [f2, hk.1]
  simp (disch := omega) only [iI_lit, n_ieq, iI_neg]
  rw [if_neg (by omega)]
  obtain ⟨⟨u, s1⟩, e1, hu, hF1, hA1⟩ := n_spread (σ := σM) (a := 31) rfl (z := z) (k := 10) (by omega) (by omega)
  have hu : u = iB (n_okd z 10 4) := hu
  have hok : n_okd z 10 4 := n_okd4.mpr ⟨hz.1, hz.2, fun s hs => by have := n_d4r hz s; omega⟩
  rw [n_bt hok] at hu
  subst hu
  have hA1 : ∀ s, s < 4 → s1.1 31 s = iI (n_d4 z s) := hA1 hz
  have hm1 : m_c s1 = m_c σM := n_frM hF1 (fun c hc k => by rw [hc]; rfl)
  rw [e1, n_b2, n_iff (show ¬ iI 1 = iI 0 by decide)]
  clear e1 hF1 f2
  refine ok_for 4 (fun j (y : Int32 × k_St) => y.1 = iI j ∧ m_c y.2 = m_c σM ∧ (∀ s, s < 4 → y.2.1 31 s = iI (n_d4 z s)) ∧ ∀ b, b < j → y.2.1 32 b = iI (-1)) ?_ (by omega) (j := 0) ⟨rfl, hm1, hA1, fun b hb => absurd hb (by omega)⟩ (by omega)
  clear hm1 hA1
  rintro g0 j ⟨v, s⟩ ⟨hv, hm, h31, h32⟩ hj hg0
  have hv : v = iI j := hv
  subst hv
  have hm : m_c s = m_c σM := hm
  have h31 : ∀ t, t < 4 → s.1 31 t = iI (n_d4 z t) := h31
  have h32 : ∀ b, b < j → s.1 32 b = iI (-1) := h32
  show k_OK (k_if _ _ _) _
  rw [n_ile (by omega) (by omega)]
  by_cases c0 : (4 : Int) ≤ j
  rotate_left
  · rw [if_neg c0, n_gix (by omega) (by omega), iI_cl (by omega), Int.toNat_natCast, ok_nm, ok_nm, iI_add]
    refine hg0 _ (by omega) ⟨rfl, (n_core_w1 rfl).trans hm, h31, fun b hb => ?_⟩
    show (k_wr s 32 j (iI (-1))).1 32 b = _
    by_cases e : b = j
    · rw [e, wr_s]
    · rw [wr_k e]
      exact h32 b (by omega)
  rw [if_pos c0]
  clear hg0
  refine ok_for 4 (fun t (y : Int32 × k_St) => y.1 = iI t ∧ m_c y.2 = m_c σM ∧ n_cp Fi z t ∧ (∀ s, s < 4 → y.2.1 31 s = iI (if s < t ∧ n_d4 z s = 9 then -1 else n_d4 z s)) ∧ ∀ b, b < 4 → y.2.1 32 b = iI (n_wt z b t)) ?_ (by omega) (j := 0) ⟨rfl, hm, fun s hs => absurd hs (by omega), fun s hs => by rw [if_neg (by omega)]; exact h31 s hs, fun b hb => h32 b (by omega)⟩ (by omega)
  clear hm h31 h32
  rintro g t ⟨v, s⟩ ⟨hv, hm, hc, h31, h32⟩ ht hg
  have hv : v = iI t := hv
  subst hv
  have hm : m_c s = m_c σM := hm
  have h31 : ∀ u, u < 4 → s.1 31 u = iI (if u < t ∧ n_d4 z u = 9 then -1 else n_d4 z u) := h31
  have h32 : ∀ b, b < 4 → s.1 32 b = iI (n_wt z b t) := h32
  show k_OK (k_if _ _ _) _
  rw [n_ile (by omega) (by omega)]
  by_cases c1 : (4 : Int) ≤ t
  · rw [if_pos c1, ok_some]
    have e4 : t = 4 := by omega
    subst e4
    refine ⟨hm, Or.inl ⟨rfl, hc, fun u hu => ⟨?_, h32 u hu⟩⟩⟩
    show s.1 31 u = _
    rw [h31 u hu]
    congr 1
    by_cases e : n_d4 z u = 9
    · rw [if_pos ⟨hu, e⟩, if_pos e]
    · rw [if_neg (fun q => e q.2), if_neg e]
  have hd := n_d4r hz t
  have e31 : k_rd s 31 t = iI (n_d4 z t) := by
    show s.1 31 t = _
    rw [h31 t (by omega), if_neg (by omega)]
  have ew : ∀ b, n_wt z b (t + 1) = if n_d4 z t = b then (t : Int) else n_wt z b t := fun b => rfl
  have no : ¬ (n_d4 z t = 9 ∨ n_d4 z t < 4 ∧ 0 ≤ Fi t (n_d4 z t).toNat ∧ ∀ u, u < t → ¬ n_d4 z u = n_d4 z t) → ¬ n_cp Fi z 4 := fun q r => q (r t (by omega))
  rw [if_neg c1, n_gix (by omega) (by omega), iI_cl (by omega), Int.toNat_natCast, e31, ok_nm, n_ieq (by omega) (by omega)]
  by_cases c2 : n_d4 z t = 9
  · rw [if_pos c2, n_gix (by omega) (by omega), ok_nm, ok_nm, iI_add]
    refine hg _ (by omega) ⟨rfl, (n_core_w1 rfl).trans hm, n_cp_s hc (Or.inl c2), fun u hu => ?_, fun b hb => ?_⟩
    · show (k_wr s 31 t (iI (-1))).1 31 u = _
      by_cases e : u = t
      · subst e
        rw [wr_s, if_pos ⟨by omega, c2⟩]
      · rw [wr_k e, h31 u hu]
        congr 1
        by_cases q : u < t ∧ n_d4 z u = 9
        · rw [if_pos q, if_pos ⟨by omega, q.2⟩]
        · rw [if_neg q, if_neg (fun r => q ⟨by omega, r.2⟩)]
    · show s.1 32 b = _
      rw [h32 b hb, ew, if_neg (by omega)]
  rw [if_neg c2]
  by_cases c3 : n_d4 z t < 4
  rotate_left
  · rw [n_areO (by omega) (by omega) (by omega), n_bd, n_ift rfl, ok_some]
    exact ⟨hm, Or.inr ⟨rfl, no (by omega)⟩⟩
  obtain ⟨D, hD⟩ := Int.eq_ofNat_of_zero_le hd.1
  rw [hD] at c2 c3 no ⊢
  rw [Int.toNat_natCast] at no
  rw [hSh s t D hm (by omega) (by omega), n_bd, n_ib]
  by_cases c4 : 0 ≤ Fi t D
  rotate_left
  · rw [if_neg c4, ok_some]
    refine ⟨hm, Or.inr ⟨rfl, no (fun q => ?_)⟩⟩
    rcases q with q | q
    · omega
    · exact c4 q.2.1
  have hw := n_wt_r z D t
  rw [if_pos c4, n_gix (by omega) (by omega), iI_cl (by omega), Int.toNat_natCast, show k_rd s 32 D = iI (n_wt z D t) from h32 D (by omega), n_ieq (by omega) (by omega)]
  by_cases c5 : n_wt z D t = -1
  · have hw : ∀ u, u < t → ¬ n_d4 z u = D := by
      rcases hw with q | q
      · exact q.2
      · omega
    rw [if_pos c5, n_gix (by omega) (by omega), ok_nm, ok_nm, iI_add]
    refine hg _ (by omega) ⟨rfl, (n_core_w1 rfl).trans hm, n_cp_s hc (Or.inr ⟨by omega, by rw [hD]; exact c4, fun u hu => by rw [hD]; exact hw u hu⟩), fun u hu => ?_, fun b hb => ?_⟩
    · show s.1 31 u = _
      rw [h31 u hu]
      congr 1
      by_cases q : u < t ∧ n_d4 z u = 9
      · rw [if_pos q, if_pos ⟨by omega, q.2⟩]
      · rw [if_neg q, if_neg (fun r => q ⟨by
          have h1 := r.1
          have h2 := r.2
          by_cases e : u = t
          · rw [e, hD] at h2
            omega
          · omega, r.2⟩)]
    · show (k_wr s 32 D (iI (t : Int))).1 32 b = _
      rw [ew, hD]
      by_cases e : b = D
      · rw [e, wr_s, if_pos rfl]
      · rw [wr_k e, if_neg (by omega)]
        exact h32 b hb
  · rw [if_neg c5, ok_some]
    refine ⟨hm, Or.inr ⟨rfl, no (fun q => ?_)⟩⟩
    rcases q with q | q
    · omega
    · rcases hw with w | w
      · exact c5 w.1
      · exact q.2.2 (n_wt z D t).toNat (by omega) w.2.2
