/-! laws that were kept stay as they were -/
theorem rp_run_eq {cd vl cd' vl' L : Nat → Int} {lim : Nat} (h : ∀ k, k < lim → cd k = cd' k ∧ vl k = vl' k) : ∀ (n a : Nat) (st : List Int), a + n ≤ lim → rp_run cd vl L a n st = rp_run cd' vl' L a n st
  | 0, a, st, ha => rfl
  | n + 1, a, st, ha => by
    obtain ⟨h1, h2⟩ := h a (by omega)
    show (match rp_st (cd a) (vl a) L st with
      | none => none
      | some st' => rp_run cd vl L (a + 1) n st') = (match rp_st (cd' a) (vl' a) L st with
      | none => none
      | some st' => rp_run cd' vl' L (a + 1) n st')
    rw [h1, h2]
    cases rp_st (cd' a) (vl' a) L st with
    | none => rfl
    | some s1 => exact rp_run_eq h n (a + 1) s1 (by omega)
theorem rp_val_eq {cd vl cd' vl' L : Nat → Int} {lim : Nat} (h : ∀ k, k < lim → cd k = cd' k ∧ vl k = vl' k) {a b : Nat} (hb : b ≤ lim) : rp_val cd vl L a b = rp_val cd' vl' L a b := by
  unfold rp_val
  by_cases q : a ≤ b
  · rw [rp_run_eq h (b - a) a [] (by omega)]
  · rw [show b - a = 0 by omega]
    rfl
theorem rp_cls_eq {cd vl tf sf st cd' vl' tf' sf' st' L : Nat → Int} {lim lim2 i : Nat} (h : ∀ k, k < lim → cd k = cd' k ∧ vl k = vl' k) (h2 : ∀ k, k < lim2 → tf k = tf' k ∧ sf k = sf' k ∧ st k = st' k) (hi : 340 * i + 340 ≤ lim) : ∀ (n c : Nat), c + n ≤ lim2 → rp_cls cd vl tf sf st i L c n = rp_cls cd' vl' tf' sf' st' i L c n
  | 0, c, hc => rfl
  | n + 1, c, hc => by
    obtain ⟨g1, g2, g3⟩ := h2 c (by omega)
    have ih := rp_cls_eq (L := L) h h2 hi n (c + 1) (by omega)
    show (if 0 ≤ tf c ∧ 0 ≤ sf c ∧ sf c ≤ 340 ∧ st c ≤ 340 then
      (if tf c = sf c then rp_val cd vl L (340 * i + (sf c).toNat) (340 * i + (st c).toNat)
      else match rp_val cd vl L (340 * i + (tf c).toNat) (340 * i + (sf c).toNat) with
        | none => none
        | some t => if t ≠ 0 then rp_val cd vl L (340 * i + (sf c).toNat) (340 * i + (st c).toNat) else rp_cls cd vl tf sf st i L (c + 1) n)
    else none) = (if 0 ≤ tf' c ∧ 0 ≤ sf' c ∧ sf' c ≤ 340 ∧ st' c ≤ 340 then
      (if tf' c = sf' c then rp_val cd' vl' L (340 * i + (sf' c).toNat) (340 * i + (st' c).toNat)
      else match rp_val cd' vl' L (340 * i + (tf' c).toNat) (340 * i + (sf' c).toNat) with
        | none => none
        | some t => if t ≠ 0 then rp_val cd' vl' L (340 * i + (sf' c).toNat) (340 * i + (st' c).toNat) else rp_cls cd' vl' tf' sf' st' i L (c + 1) n)
    else none)
    rw [g1, g2, g3, ih]
    by_cases q : 0 ≤ tf' c ∧ 0 ≤ sf' c ∧ sf' c ≤ 340 ∧ st' c ≤ 340
    · rw [if_pos q, if_pos q, rp_val_eq h (a := 340 * i + (sf' c).toNat) (b := 340 * i + (st' c).toNat) (by omega), rp_val_eq h (a := 340 * i + (tf' c).toNat) (b := 340 * i + (sf' c).toNat) (by omega)]
    · rw [if_neg q, if_neg q]
theorem rp_E_eq {m m' : k_St} {i w : Nat} {L : Nat → Int} (hiw : i < w) (h5 : m'.1 5 i = m.1 5 i) (h23 : ∀ k, k < 340 * w → m'.1 2 k = m.1 2 k ∧ m'.1 3 k = m.1 3 k) (h678 : ∀ k, k < 90 * w → m'.1 6 k = m.1 6 k ∧ m'.1 7 k = m.1 7 k ∧ m'.1 8 k = m.1 8 k) : rp_E m' i L = rp_E m i L := by
  have e5 : vI m' 5 i = vI m 5 i := congrArg Int32.toInt h5
  unfold rp_E
  rw [e5]
  by_cases q : vI m 5 i ≤ 90
  · rw [if_pos q, if_pos q]
    exact rp_cls_eq (lim := 340 * w) (lim2 := 90 * w) (fun k hk => ⟨congrArg Int32.toInt (h23 k hk).1, congrArg Int32.toInt (h23 k hk).2⟩) (fun k hk => ⟨congrArg Int32.toInt (h678 k hk).1, congrArg Int32.toInt (h678 k hk).2.1, congrArg Int32.toInt (h678 k hk).2.2⟩) (by omega) _ _ (by omega)
  · rw [if_neg q, if_neg q]
/-- the reference's state after reading into slot w -/
theorem n_wm {σM s : k_St} {w : Nat} (hF : v_FL w σM s) : m_c s = (fun c k => if 2 ≤ c ∧ c ≤ 8 then s.1 c k else (m_c σM).1 c k, (m_c σM).2) := by
  refine Prod.ext (funext fun c => funext fun k => ?_) (funext fun c => funext fun k => ?_)
  · show (if m_scr c k = true then 0 else s.1 c k) = if 2 ≤ c ∧ c ≤ 8 then s.1 c k else (if m_scr c k = true then 0 else σM.1 c k)
    by_cases n1 : 2 ≤ c ∧ c ≤ 8
    · rw [if_pos n1]
      rcases (show c = 2 ∨ c = 3 ∨ c = 4 ∨ c = 5 ∨ c = 6 ∨ c = 7 ∨ c = 8 by omega) with rfl | rfl | rfl | rfl | rfl | rfl | rfl <;> rfl
    · rw [if_neg n1]
      by_cases q : m_scr c k = true
      · rw [if_pos q, if_pos q]
      · rw [if_neg q, if_neg q]
        exact hF.2 c k (fun e => q (by
          obtain ⟨rfl, rfl | rfl | rfl | rfl⟩ := e <;> rfl)) (by omega) (by omega) (by omega)
  · show (if m_scr c k = true then 0 else s.2 c k) = if m_scr c k = true then 0 else σM.2 c k
    rw [hF.1]
theorem r_all.slot {x : k_St} {σM s : k_St} {w : Nat} (h : r_all x (m_c σM)) (hF : v_FL w σM s) (hw : vI (m_c σM) 0 13 ≤ w) : r_all x (m_c s) := by
  obtain ⟨hTap, hLak, hNow, hImg, hShf, hSee, hLrn, hLaw, hVal⟩ := h
  have hE : ∀ i : Nat, (i : Int) < vI (m_c σM) 0 13 → ∀ L, rp_E (m_c s) i L = rp_E (m_c σM) i L := fun i hi L => rp_E_eq (w := w) (by omega) (hF.2 5 i (by omega) (by omega) (by omega) (by omega)) (fun k hk => ⟨hF.2 2 k (by omega) (by omega) (by omega) (by omega), hF.2 3 k (by omega) (by omega) (by omega) (by omega)⟩) (fun k hk => ⟨hF.2 6 k (by omega) (by omega) (by omega) (by omega), hF.2 7 k (by omega) (by omega) (by omega) (by omega), hF.2 8 k (by omega) (by omega) (by omega) (by omega)⟩)
  have em := n_wm hF
  generalize m_c s = m' at em hE ⊢
  subst em
  refine ⟨hTap, hLak, hNow, hImg, hShf, hSee, hLrn, ⟨hLaw.1, hLaw.2.1, fun i hi => ⟨(hLaw.2.2 i hi).1, fun L hL => ?_⟩⟩, fun p hp => ?_⟩
  · rw [hE i hi L]
    exact (hLaw.2.2 i hi).2 L hL
  · obtain ⟨v1, v2⟩ := hVal p hp
    refine ⟨?_, v2⟩
    rw [← v1]
    show (if vI (m_c σM) 0 30 = -1 then _ else _) = m_V (m_c σM) p
    unfold m_V
    by_cases q : vI (m_c σM) 0 30 = -1
    · rw [if_pos q, if_pos q]
      rfl
    · have h30 := hLaw.2.1.2
      rw [if_neg q, if_neg q]
      show (match rp_E _ (vI (m_c σM) 0 30).toNat _ with
        | none => none
        | some v => some (max 0 (min 999 v))) = _
      rw [hE _ (by omega)]
      rfl
