/-! rests -/
def n_rsB (G1 G2 : Nat → Nat → Int) (a b : Nat) : Bool := (List.range 4).all fun o => decide (G1 o b ≤ G1 a b) && decide (G2 a o ≤ G2 a b)
theorem n_rsB_i {G1 G2 : Nat → Nat → Int} {a b : Nat} : n_rsB G1 G2 a b = true ↔ ∀ o, o < 4 → G1 o b ≤ G1 a b ∧ G2 a o ≤ G2 a b := by
  unfold n_rsB
  simp only [List.all_eq_true, List.mem_range, Bool.and_eq_true, decide_eq_true_eq]
theorem n_put4 {σX s : k_St} {C : Nat} {S : Nat → Prop} {F : Nat → Int} {a b : Nat} {v : Int64} (hS : S C) (hF : n_Fr S σX s) (hz : ∀ c, c < 4 * a + b → s.2 C c = iL (F c)) (hv : v = iL (F (4 * a + b))) : n_Fr S σX (k_wl s C ((a : Int) * 4 + (b : Int)).toNat v) ∧ ∀ c, c < 4 * a + (b + 1) → (k_wl s C ((a : Int) * 4 + (b : Int)).toNat v).2 C c = iL (F c) := by
  refine ⟨hF.wl hS, fun c hc => ?_⟩
  rw [show ((a : Int) * 4 + (b : Int)).toNat = 4 * a + b by omega]
  by_cases e : c = 4 * a + b
  · subst e
    rw [wl_s, hv]
  · rw [wl_k e]
    exact hz c (by omega)
def i_SG (c : Nat) : Prop := c = 46 ∨ c = 47
theorem i_SG_s : ∀ c, i_SG c → ∀ k, x_scr c k = true := fun c hc k => by
  rcases hc with rfl | rfl <;> rfl
theorem n_reckGX {σX σM x : k_St} {n one two : Nat} (hx : x_c σX = x) (hR : r_all x (m_c σM)) (hk : n_mk (m_c σM) n (fun p => vI x 14 p)) (h1 : one < 4) (h2 : two < 4) {G1 G2 : Nat → Nat → Int} (hG1 : ∀ a b, n_gx (m_c σM) (fun p => vI x 14 p) n one a two b = G1 a b) (hG2 : ∀ a b, n_gx (m_c σM) (fun p => vI x 14 p) n two b one a = G2 a b) : k_OK (f_X5_reckonGains (iI one) (iI two) σX) (fun s => n_Fr i_SG σX s ∧ ∀ c, c < 16 → s.2 46 c = iL (G1 (c / 4) (c % 4)) ∧ s.2 47 c = iL (G2 (c / 4) (c % 4))) := by
  unfold f_X5_reckonGains
  simp only [iI_lit]
  refine ok_for 4 (fun a (z : Int32 × k_St) => z.1 = iI a ∧ n_Fr i_SG σX z.2 ∧ (∀ c, c < 4 * a → z.2.2 46 c = iL (G1 (c / 4) (c % 4))) ∧ ∀ c, c < 4 * a → z.2.2 47 c = iL (G2 (c / 4) (c % 4))) ?_ (by omega) (j := 0) ⟨rfl, n_Fr.rf, fun t h => absurd h (by omega), fun t h => absurd h (by omega)⟩ (Nat.zero_le _)
  rintro g0 a ⟨v, s⟩ ⟨hv, hF, hz, hz2⟩ ha hg0
  have hv : v = iI a := hv
  subst hv
  have hF : n_Fr i_SG σX s := hF
  have hz : ∀ c, c < 4 * a → s.2 46 c = iL (G1 (c / 4) (c % 4)) := hz
  have hz2 : ∀ c, c < 4 * a → s.2 47 c = iL (G2 (c / 4) (c % 4)) := hz2
  show k_OK (k_if _ _ _) _
  rw [n_ile (by omega) (by omega)]
  by_cases c0 : (4 : Int) ≤ a
  · rw [if_pos c0, ok_some]
    exact ⟨hF, fun c hc => ⟨hz c (by omega), hz2 c (by omega)⟩⟩
  rw [if_neg c0]
  refine ok_for 4 (fun b (z : Int32 × k_St) => z.1 = iI b ∧ n_Fr i_SG σX z.2 ∧ (∀ c, c < 4 * a + b → z.2.2 46 c = iL (G1 (c / 4) (c % 4))) ∧ ∀ c, c < 4 * a + b → z.2.2 47 c = iL (G2 (c / 4) (c % 4))) ?_ (by omega) (j := 0) ⟨rfl, hF, hz, hz2⟩ (Nat.zero_le _)
  clear hF hz hz2
  rintro g b ⟨v, s⟩ ⟨hv, hF, hz, hz2⟩ hb hg
  have hv : v = iI b := hv
  subst hv
  have hF : n_Fr i_SG σX s := hF
  have hz : ∀ c, c < 4 * a + b → s.2 46 c = iL (G1 (c / 4) (c % 4)) := hz
  have hz2 : ∀ c, c < 4 * a + b → s.2 47 c = iL (G2 (c / 4) (c % 4)) := hz2
  show k_OK (k_if _ _ _) _
  rw [n_ile (by omega) (by omega)]
  by_cases c1 : (4 : Int) ≤ b
  · rw [if_pos c1, ok_nm, iI_add]
    exact hg0 _ (by omega) ⟨rfl, hF, fun c hc => hz c (by omega), fun c hc => hz2 c (by omega)⟩
  have hxs : x_c s = x := (n_frX hF i_SG_s).trans hx
  have e1 := n_gainX (a := one) (b := a) (c := two) (d := b) hxs hR hk h1 (by omega) h2 (by omega)
  rw [hG1] at e1
  have p1 := n_put4 (C := 46) (F := fun c => G1 (c / 4) (c % 4)) (a := a) (b := b) (v := iL (G1 a b)) (Or.inl rfl) hF hz (by
    show iL (G1 a b) = iL (G1 ((4 * a + b) / 4) ((4 * a + b) % 4))
    rw [show (4 * a + b) / 4 = a by omega, show (4 * a + b) % 4 = b by omega])
  rw [if_neg c1, iI_mul, iI_add, iI_mul, iI_add, e1, n_bd, iI_mul, iI_add, n_gix (by omega) (by omega), iI_cl (by omega), ok_nm]
  obtain ⟨p1F, p1z⟩ := p1
  have p1z2 : ∀ c, c < 4 * a + b → (k_wl s 46 ((a : Int) * 4 + (b : Int)).toNat (iL (G1 a b))).2 47 c = iL (G2 (c / 4) (c % 4)) := hz2
  generalize k_wl s 46 ((a : Int) * 4 + (b : Int)).toNat (iL (G1 a b)) = s2 at *
  have hx2 : x_c s2 = x := (n_frX p1F i_SG_s).trans hx
  have e2 := n_gainX (a := two) (b := b) (c := one) (d := a) hx2 hR hk h2 (by omega) h1 (by omega)
  rw [hG2] at e2
  have p2 := n_put4 (C := 47) (F := fun c => G2 (c / 4) (c % 4)) (a := a) (b := b) (v := iL (G2 a b)) (Or.inr rfl) p1F p1z2 (by
    show iL (G2 a b) = iL (G2 ((4 * a + b) / 4) ((4 * a + b) % 4))
    rw [show (4 * a + b) / 4 = a by omega, show (4 * a + b) % 4 = b by omega])
  rw [e2, n_bd, n_gix (by omega) (by omega), ok_nm, ok_nm, iI_add]
  exact hg _ (by omega) ⟨rfl, p2.1, p1z, p2.2⟩
theorem n_isRX {s : k_St} {G1 G2 : Nat → Nat → Int} {a b : Nat} (h : ∀ c, c < 16 → s.2 46 c = iL (G1 (c / 4) (c % 4)) ∧ s.2 47 c = iL (G2 (c / 4) (c % 4))) (hG1 : ∀ a b, -1 ≤ G1 a b ∧ G1 a b ≤ 1080000000) (hG2 : ∀ a b, -1 ≤ G2 a b ∧ G2 a b ≤ 1080000000) (ha : a < 4) (hb : b < 4) : f_X5_isRest (iI a) (iI b) s = some (iB (n_rsB G1 G2 a b = true)) := by
  have e46 : ∀ u v, u < 4 → v < 4 → k_rl s 46 (4 * u + v) = iL (G1 u v) := fun u v hu hv => by
    show s.2 46 _ = _
    rw [(h _ (by omega)).1, show (4 * u + v) / 4 = u by omega, show (4 * u + v) % 4 = v by omega]
  have e47 : ∀ u v, u < 4 → v < 4 → k_rl s 47 (4 * u + v) = iL (G2 u v) := fun u v hu hv => by
    show s.2 47 _ = _
    rw [(h _ (by omega)).2, show (4 * u + v) / 4 = u by omega, show (4 * u + v) % 4 = v by omega]
  have hab1 := hG1 a b
  have hab2 := hG2 a b
  unfold f_X5_isRest
  simp only [iI_lit]
  rw [iI_mul, iI_add, n_gix (by omega) (by omega), iI_cl (by omega), show ((a : Int) * 4 + (b : Int)).toNat = 4 * a + b by omega, e46 a b ha hb, e47 a b ha hb, n_nm, n_gix (by omega) (by omega), n_nm]
  refine ok_eq.mp (ok_for 4 (fun o (y : Int32) => y = iI o ∧ ∀ u, u < o → G1 u b ≤ G1 a b ∧ G2 a u ≤ G2 a b) ?_ (by omega) (j := 0) ⟨rfl, fun u hu => absurd hu (by omega)⟩ (by omega))
  rintro g o _ ⟨rfl, hA⟩ ho hg
  show k_OK (k_if _ _ _) _
  rw [n_ile (by omega) (by omega)]
  by_cases c0 : (4 : Int) ≤ o
  · rw [if_pos c0, ok_some, n_bt (n_rsB_i.mpr (fun u hu => hA u (by omega)))]
  have h1 := hG1 o b
  have h2 := hG2 a o
  rw [if_neg c0, iI_mul, iI_add, n_gix (by omega) (by omega), iI_cl (by omega), show ((o : Int) * 4 + (b : Int)).toNat = 4 * o + b by omega, e46 o b (by omega) hb, n_lgt (by omega) (by omega)]
  by_cases c1 : G1 a b < G1 o b
  · rw [if_pos c1, ok_some, n_bf (fun q => by have := (n_rsB_i.mp q o (by omega)).1; omega)]
  rw [if_neg c1, iI_add, n_gix (by omega) (by omega), iI_cl (by omega), show ((a : Int) * 4 + (o : Int)).toNat = 4 * a + o by omega, e47 a o ha (by omega), n_lcl (by omega) (by omega)]
  by_cases c2 : G2 a o ≤ G2 a b
  · rw [if_pos c2, ok_nm, iI_add]
    refine hg _ (by omega) ⟨rfl, fun u hu => ?_⟩
    by_cases e : u = o
    · rw [e]
      exact ⟨by omega, c2⟩
    · exact hA u (by omega)
  · rw [if_neg c2, ok_some, n_bf (fun q => by have := (n_rsB_i.mp q o (by omega)).2; omega)]
theorem n_isRM {σX s σM x : k_St} {n one two a b : Nat} (hx : x_c σX = x) (hs : m_c s = m_c σM) (hR : r_all x (m_c σM)) (hk : n_mk (m_c σM) n (fun p => vI x 14 p)) (h1 : one < 4) (h2 : two < 4) (ha : a < 4) (hb : b < 4) (t1 : ¬ vI (m_c σM) 22 one = -1) (t2 : ¬ vI (m_c σM) 22 two = -1) (ta : ¬ (m_c σM).1 24 a = 0) (tb : ¬ (m_c σM).1 24 b = 0) {G1 G2 : Nat → Nat → Int} (hG1 : ∀ a b, n_gx (m_c σM) (fun p => vI x 14 p) n one a two b = G1 a b) (hG2 : ∀ a b, n_gx (m_c σM) (fun p => vI x 14 p) n two b one a = G2 a b) : k_OK (f_X12_isRest (iI one) (iI two) (iI a) (iI b) s) (fun r => r.1 = iB (n_rsB G1 G2 a b = true) ∧ m_c r.2 = m_c σM) := by
  have hF : ∀ u v, ¬ vI (m_c σM) 22 u = -1 → ¬ (m_c σM).1 24 v = 0 → 0 ≤ n_Fi (m_c σM) (fun p => vI x 14 p) n u v := fun u v h1 h2 => (n_Fi_0 hk u v).mpr ⟨h1, h2⟩
  have hr1 : ∀ u v, -1 ≤ G1 u v ∧ G1 u v ≤ 1080000000 := fun u v => by
    rw [← hG1]
    exact n_gx_r hk _ _ _ _
  have hr2 : ∀ u v, -1 ≤ G2 u v ∧ G2 u v ≤ 1080000000 := fun u v => by
    rw [← hG2]
    exact n_gx_r hk _ _ _ _
  have hab1 := hr1 a b
  have hab2 := hr2 a b
  -- an empty shelf gains nothing
  have z1 : ∀ o, (m_c σM).1 24 o = 0 → G1 o b = -1 ∧ G2 a o = -1 := fun o ho => by
    rw [← hG1, ← hG2]
    unfold n_gx
    rw [if_neg (fun q => ((n_Fi_0 hk one o).mp q.1).2 ho), if_neg (fun q => ((n_Fi_0 hk two o).mp q.1).2 ho)]
    exact ⟨rfl, rfl⟩
  unfold f_X12_isRest
  simp only [iI_lit]
  refine ok_for 4 (fun o (y : Int32 × k_St) => y.1 = iI o ∧ m_c y.2 = m_c σM ∧ ∀ u, u < o → G1 u b ≤ G1 a b ∧ G2 a u ≤ G2 a b) ?_ (by omega) (j := 0) ⟨rfl, hs, fun u hu => absurd hu (by omega)⟩ (by omega)
  rintro g o ⟨v, w⟩ ⟨hv, hw, hA⟩ ho hg
  have hv : v = iI o := hv
  subst hv
  have hw : m_c w = m_c σM := hw
  show k_OK (k_if _ _ _) _
  rw [n_ile (by omega) (by omega)]
  by_cases c0 : (4 : Int) ≤ o
  · rw [if_pos c0, ok_some, n_bt (n_rsB_i.mpr (fun u hu => hA u (by omega)))]
    exact ⟨rfl, hw⟩
  have g1 := hr1 o b
  have g2 := hr2 a o
  have nx : ∀ w', m_c w' = m_c σM → G1 o b ≤ G1 a b → G2 a o ≤ G2 a b → k_OK (g (iI ((o : Int) + 1), w')) (fun r => r.1 = iB (n_rsB G1 G2 a b = true) ∧ m_c r.2 = m_c σM) := fun w' h1 h2 h3 => hg _ (by omega) ⟨rfl, h1, fun u hu => by
    by_cases e : u = o
    · rw [e]
      exact ⟨h2, h3⟩
    · exact hA u (by omega)⟩
  rw [if_neg c0, n_gix (by omega) (by omega), iI_cl (by omega), Int.toNat_natCast, show k_rd w 24 o = (m_c σM).1 24 o from n_core_1 hw rfl, ok_if]
  refine ⟨fun q => ?_, fun q => ?_⟩
  · obtain ⟨q1, q2⟩ := z1 o q
    rw [ok_nm, iI_add]
    exact nx w hw (by omega) (by omega)
  · obtain ⟨w1, e1, m1⟩ := n_gainM (s := w) (a := one) (b := o) (c := two) (d := b) hx hw hR hk h1 (by omega) h2 hb (hF _ _ t1 q) (hF _ _ t2 tb)
    obtain ⟨w2, e2, m2⟩ := n_gainM (s := w1) (a := one) (b := a) (c := two) (d := b) hx m1 hR hk h1 ha h2 hb (hF _ _ t1 ta) (hF _ _ t2 tb)
    obtain ⟨w3, e3, m3⟩ := n_gainM (s := w2) (a := two) (b := o) (c := one) (d := a) hx m2 hR hk h2 (by omega) h1 ha (hF _ _ t2 q) (hF _ _ t1 ta)
    obtain ⟨w4, e4, m4⟩ := n_gainM (s := w3) (a := two) (b := b) (c := one) (d := a) hx m3 hR hk h2 hb h1 ha (hF _ _ t2 tb) (hF _ _ t1 ta)
    rw [hG1] at e1 e2
    rw [hG2] at e3 e4
    rw [e1, n_b2, e2, n_b2, n_lgt (by omega) (by omega)]
    by_cases c1 : G1 a b < G1 o b
    · rw [if_pos c1, ok_some, n_bf (fun q => by have := (n_rsB_i.mp q o (by omega)).1; omega)]
      exact ⟨rfl, m2⟩
    · rw [if_neg c1, e3, n_b2, e4, n_b2, n_lcl (by omega) (by omega)]
      by_cases c2 : G2 a o ≤ G2 a b
      · rw [if_pos c2, ok_nm, iI_add]
        exact nx w4 m4 (by omega) c2
      · rw [if_neg c2, ok_some, n_bf (fun q => by have := (n_rsB_i.mp q o (by omega)).2; omega)]
        exact ⟨rfl, m4⟩
theorem n_hasGM {s : k_St} {m : k_St} {z : Int} (hs : m_c s = m) (hz : -2147483648 ≤ z ∧ z ≤ 2147483647) : f_X12_hasTugs (iI z) s = some (iB ((0 ≤ z ∧ z ≤ 3) ∧ ¬ vI m 22 z.toNat = -1)) := by
  have r := vI_rg m 22 z.toNat
  unfold f_X12_hasTugs
  simp (disch := omega) only [iI_lit, n_in, n_within, n_bd, n_ib, iI_neg]
  by_cases c : 0 ≤ z ∧ z ≤ 3
  · rw [if_pos c, n_gix (by omega) (by omega), iI_cl (by omega), n_core_I hs (c := 22) (k := z.toNat) rfl, n_ieq (by omega) (by omega)]
    by_cases c2 : vI m 22 z.toNat = -1
    · rw [if_pos c2, n_bf (fun q => q.2 c2)]
    · rw [if_neg c2, n_bt ⟨c, c2⟩]
  · rw [if_neg c, n_bf (fun q => c q.1)]
theorem n_hasGX {σX σM x : k_St} {n : Nat} {z : Int} (hx : x_c σX = x) (hR : r_all x (m_c σM)) (hk : n_mk (m_c σM) n (fun p => vI x 14 p)) (hz : -2147483648 ≤ z ∧ z ≤ 2147483647) : f_X5_hasTugs (iI z) σX = some (iB ((0 ≤ z ∧ z ≤ 3) ∧ ¬ vI (m_c σM) 22 z.toNat = -1)) := by
  by_cases c : 0 ≤ z ∧ z ≤ 3
  · obtain ⟨a, rfl⟩ := Int.eq_ofNat_of_zero_le c.1
    obtain ⟨e1, _, _⟩ := n_shelved (a := a) (b := 0) hx hR hk.1 hk.2.1 (by omega) (by omega)
    rw [e1, Int.toNat_natCast]
    by_cases c2 : vI (m_c σM) 22 a = -1
    · rw [if_pos c2, n_bf (fun q => q.2 c2)]
    · rw [if_neg c2, n_bt ⟨c, c2⟩]
  · rw [n_hasGO hz c, n_bf (fun q => c q.1)]
set_option maxRecDepth 20000 in
theorem q_s37 : g_s37 z_Inv := by
  intro σX σM hI a0 a1 a2
  obtain ⟨u, hu, rfl⟩ := iI_ex a0
  obtain ⟨w, hw, rfl⟩ := iI_ex a1
  obtain ⟨i, hi, rfl⟩ := iI_ex a2
  obtain ⟨x, hx, hR⟩ := z_openX hI
  obtain ⟨hTap, hLak, hNow, hImg, hShf, hSee, hLrn, hLaw, hVal⟩ := id hR
  obtain ⟨l1, l2, l3, l4, l5, l6⟩ := id hLak
  obtain ⟨n, hk⟩ := hR.mk
  have b1 := l1.2
  have k1 := hk.1
  have hn6 := hk.2.1
  have f2 : k_rd σM 0 21 = iI (vI (m_c σM) 0 21) := n_core_I rfl rfl
  unfold f_X11_rests f_X12_rests
  rw [f2, n_hasGX hx hR hk hu, n_bd, n_hasGX hx hR hk hw, n_hasGM rfl hu, n_bd, n_hasGM rfl hw]
  simp (disch := omega) only [iI_lit, iI_neg, n_ieq, n_ib, n_bd, n_ile]
  by_cases c1 : (0 ≤ u ∧ u ≤ 3) ∧ ¬ vI (m_c σM) 22 u.toNat = -1
  rotate_left
  · rw [if_neg c1, if_neg c1]
    refine ⟨_, _, _, rfl, ?_, hI⟩
    split <;> rfl
  have c0 : 0 < vI (m_c σM) 0 21 := by
    rcases (hShf u.toNat (by omega)).1 with ⟨s1, s2⟩ | ⟨s1, s2, s3, s4⟩
    · exact absurd (show vI (m_c σM) 22 u.toNat = -1 by unfold vI; rw [s1]; rfl) c1.2
    · exact s1
  rw [if_pos c1, if_pos c1, if_neg (show ¬ vI (m_c σM) 0 21 = 0 by omega)]
  by_cases c2 : (0 ≤ w ∧ w ≤ 3) ∧ ¬ vI (m_c σM) 22 w.toNat = -1
  rotate_left
  · rw [if_neg c2, if_neg c2]
    exact ⟨_, _, _, rfl, rfl, hI⟩
  rw [if_pos c2, if_pos c2]
  obtain ⟨⟨u0, u1⟩, u2⟩ := c1
  obtain ⟨⟨w0, w1⟩, w2⟩ := c2
  obtain ⟨one, rfl⟩ := Int.eq_ofNat_of_zero_le u0
  obtain ⟨two, rfl⟩ := Int.eq_ofNat_of_zero_le w0
  rw [Int.toNat_natCast] at u2 w2
  obtain ⟨G1, hG1⟩ : ∃ G1 : Nat → Nat → Int, ∀ a b, n_gx (m_c σM) (fun p => vI x 14 p) n one a two b = G1 a b := ⟨_, fun a b => rfl⟩
  obtain ⟨G2, hG2⟩ : ∃ G2 : Nat → Nat → Int, ∀ a b, n_gx (m_c σM) (fun p => vI x 14 p) n two b one a = G2 a b := ⟨fun a b => n_gx (m_c σM) (fun p => vI x 14 p) n two b one a, fun a b => rfl⟩
  have hr1 : ∀ u v, -1 ≤ G1 u v ∧ G1 u v ≤ 1080000000 := fun u v => by
    rw [← hG1]
    exact n_gx_r hk _ _ _ _
  have hr2 : ∀ u v, -1 ≤ G2 u v ∧ G2 u v ≤ 1080000000 := fun u v => by
    rw [← hG2]
    exact n_gx_r hk _ _ _ _
  obtain ⟨s1, e1, hF1, hz1⟩ := n_reckGX (one := one) (two := two) hx hR hk (by omega) (by omega) hG1 hG2
  have hx1 : x_c s1 = x := (n_frX hF1 i_SG_s).trans hx
  obtain ⟨E, hE⟩ : ∃ E : Nat → Bool, ∀ c, E c = (!decide ((m_c σM).1 24 (c / 4) = 0) && (!decide ((m_c σM).1 24 (c % 4) = 0) && n_rsB G1 G2 (c / 4) (c % 4))) := ⟨_, fun c => rfl⟩
  have hE1 : ∀ a b, b < 4 → (E (4 * a + b) = true ↔ ¬ (m_c σM).1 24 a = 0 ∧ ¬ (m_c σM).1 24 b = 0 ∧ n_rsB G1 G2 a b = true) := fun a b hb => by
    rw [hE, show (4 * a + b) / 4 = a by omega, show (4 * a + b) % 4 = b by omega]
    simp only [Bool.and_eq_true, Bool.not_eq_true', decide_eq_false_iff_not]
  rw [e1, n_bd]
  -- the class's list
  obtain ⟨⟨r, sX⟩, e2, hr, hxX⟩ : k_OK (f_X5_listRests (iI i) s1) (fun r => r.1 = iI (n_li E n_lv i 16) ∧ x_c r.2 = x) := by
    unfold f_X5_listRests
    obtain ⟨s0, e0, hs0⟩ := n_start7 (σ := s1) (E := E) (v := n_lv) (z := i)
    rw [e0, n_bd]
    simp only [iI_lit]
    refine ok_for 4 (fun a (y : Int32 × k_St) => y.1 = iI a ∧ n_l7 s1 y.2 E n_lv i (4 * a)) ?_ (by omega) (j := 0) ⟨rfl, hs0⟩ (by omega)
    rintro g a ⟨q, s⟩ ⟨hq, hs⟩ ha hg
    have hq : q = iI a := hq
    subst hq
    have hs : n_l7 s1 s E n_lv i (4 * a) := hs
    show k_OK (k_if _ _ _) _
    rw [n_ile (by omega) (by omega)]
    by_cases c1 : (4 : Int) ≤ a
    · rw [if_pos c1, n_told7 hi hs, n_bd, ok_some, show 4 * a = 16 by omega]
      exact ⟨rfl, (n_frX hs.1 (fun c hc k => by rw [hc]; rfl)).trans hx1⟩
    rw [if_neg c1]
    refine ok_for 4 (fun b (y : Int32 × k_St) => y.1 = iI b ∧ n_l7 s1 y.2 E n_lv i (4 * a + b)) ?_ (by omega) (j := 0) ⟨rfl, hs⟩ (by omega)
    clear hs
    rintro g2 b ⟨q, s⟩ ⟨hq, hs⟩ hb hg2
    have hq : q = iI b := hq
    subst hq
    have hs : n_l7 s1 s E n_lv i (4 * a + b) := hs
    have hxs : x_c s = x := (n_frX hs.1 (fun c hc k => by rw [hc]; rfl)).trans hx1
    show k_OK (k_if _ _ _) _
    rw [n_ile (by omega) (by omega)]
    by_cases c2 : (4 : Int) ≤ b
    · rw [if_pos c2, ok_nm, iI_add]
      exact hg _ (by omega) ⟨rfl, by rw [show 4 * (a + 1) = 4 * a + b by omega]; exact hs⟩
    have hzs : ∀ c, c < 16 → s.2 46 c = iL (G1 (c / 4) (c % 4)) ∧ s.2 47 c = iL (G2 (c / 4) (c % 4)) := fun c hc => by
      rw [(hs.1 46 (by decide)).2, (hs.1 47 (by decide)).2]
      exact hz1 c hc
    obtain ⟨_, ea, _⟩ := n_shelved (a := 0) (b := a) hxs hR k1 hn6 (by omega) (by omega)
    obtain ⟨_, eb, _⟩ := n_shelved (a := 0) (b := b) hxs hR k1 hn6 (by omega) (by omega)
    have hEab := hE1 a b (by omega)
    rw [if_neg c2, ea, n_bd]
    by_cases c3 : (m_c σM).1 24 a = 0
    · rw [if_pos c3, n_ift rfl, ok_nm, iI_add]
      exact hg2 _ (by omega) ⟨rfl, n_skip7 hs (fun r => (hEab.mp r).1 c3)⟩
    rw [if_neg c3, n_iff n_10, eb, n_bd]
    by_cases c4 : (m_c σM).1 24 b = 0
    · rw [if_pos c4, n_ift rfl, ok_nm, iI_add]
      exact hg2 _ (by omega) ⟨rfl, n_skip7 hs (fun r => (hEab.mp r).2.1 c4)⟩
    rw [if_neg c4, n_iff n_10, n_isRX hzs hr1 hr2 (by omega) (by omega), n_bd, n_ib]
    by_cases c5 : n_rsB G1 G2 a b = true
    rotate_left
    · rw [if_neg c5, ok_nm, iI_add]
      exact hg2 _ (by omega) ⟨rfl, n_skip7 hs (fun r => c5 (hEab.mp r).2.2)⟩
    obtain ⟨s', e2, hs'⟩ := n_add7 hi (by omega) hs (hEab.mpr ⟨c3, c4, c5⟩)
    have ev : iI 10 * iI (a : Int) + iI (b : Int) = iI (n_lv (4 * a + b)) := by
      show _ = iI (10 * (((4 * a + b) / 4 : Nat) : Int) + (((4 * a + b) % 4 : Nat) : Int))
      rw [show (4 * a + b) / 4 = a by omega, show (4 * a + b) % 4 = b by omega, iI_mul, iI_add]
    rw [if_pos c5, ev, e2, n_bd, ok_nm, iI_add]
    exact hg2 _ (by omega) ⟨rfl, hs'⟩
  have hr : r = iI (n_li E n_lv i 16) := hr
  have hxX : x_c sX = x := hxX
  rw [e2, n_b2, hr]
  by_cases ci : -1 ≤ i
  rotate_left
  · rw [if_neg ci]
    refine ⟨_, _, _, rfl, ?_, z_close hxX rfl hR⟩
    unfold n_li
    rw [if_neg (show ¬ i = -1 by omega), n_pk_no (by omega)]
  rw [if_pos ci]
  suffices hh : k_OK (k_loop (fun (g36 : Int32 × Int32 × k_St → Option (Int32 × k_St)) (z36 : Int32 × Int32 × k_St) => match z36 with
            | (v4_36, v5_36, s_36) =>
              k_if (iI 4 ≤ v5_36)
                (if i = -1 then
                  (some (v4_36, s_36))
                  else (some (iI (-1), s_36)))
                (k_loop (fun (g45 : Int32 × Int32 × k_St → Option (Int32 × k_St)) (z45 : Int32 × Int32 × k_St) => match z45 with
                  | (v4_45, v6_45, s_45) =>
                    k_if (iI 4 ≤ v6_45)
                      (k_nm (v5_36 + iI 1) fun y108 =>
                      g36 (v4_45, y108, s_45))
                      (k_gd (k_ix v5_36 4 = true) <|
                      k_if ((k_rd s_45 24 v5_36.toNatClampNeg) = iI 0)
                        (k_nm (v6_45 + iI 1) fun y102 =>
                        g45 (v4_45, y102, s_45))
                        (k_gd (k_ix v6_45 4 = true) <|
                        k_if ((k_rd s_45 24 v6_45.toNatClampNeg) = iI 0)
                          (k_nm (v6_45 + iI 1) fun y102 =>
                          g45 (v4_45, y102, s_45))
                          (k_b2 (f_X12_isRest (iI (one : Int)) (iI (two : Int)) v5_36 v6_45 s_45) fun v78 s78 =>
                          k_if (v78 = iI 0)
                            (k_nm (v6_45 + iI 1) fun y102 =>
                            g45 (v4_45, y102, s78))
                            (k_if (v4_45 = iI i)
                              (some (((iI 10 * v5_36) + v6_45), s78))
                              (k_nm (v4_45 + iI 1) fun y99 =>
                              k_nm (v6_45 + iI 1) fun y102 =>
                              g45 (y99, y102, s78))))))) 100000 (v4_36, iI 0, s_36))) 100000 (iI 0, iI 0, σM)) (fun r => r.1 = iI (n_li E n_lv i 16) ∧ m_c r.2 = m_c σM) by
    obtain ⟨⟨r5, s5⟩, e5, hr5, hm5⟩ := hh
    have hr5 : r5 = iI (n_li E n_lv i 16) := hr5
    have hm5 : m_c s5 = m_c σM := hm5
    refine ⟨iI (n_li E n_lv i 16), sX, s5, rfl, ?_, z_close hxX hm5 hR⟩
    rw [← hr5]
    exact e5
  have hcE : ∀ t, n_cE E (t + 1) = n_cE E t + (if E t = true then 1 else 0) := fun t => rfl
  have hpE : ∀ t, n_pk E n_lv i (t + 1) = if E t = true ∧ (n_cE E t : Int) = i then n_lv t else n_pk E n_lv i t := fun t => rfl
  refine ok_for 4 (fun a (y : Int32 × Int32 × k_St) => y.1 = iI (n_cE E (4 * a) : Nat) ∧ y.2.1 = iI a ∧ m_c y.2.2 = m_c σM ∧ (¬ i = -1 → n_pk E n_lv i (4 * a) = -1)) ?_ (by omega) (j := 0) ⟨rfl, rfl, rfl, fun _ => rfl⟩ (by omega)
  rintro g a ⟨v3, v4, s⟩ ⟨g1, g2, g3, g5⟩ ha hg
  have g1 : v3 = iI (n_cE E (4 * a) : Nat) := g1
  have g2 : v4 = iI a := g2
  subst g1
  subst g2
  have g3 : m_c s = m_c σM := g3
  show k_OK (k_if _ _ _) _
  rw [n_ile (by omega) (by omega)]
  by_cases c2 : (4 : Int) ≤ a
  · have e16 : 4 * a = 16 := by omega
    rw [e16] at g5 ⊢
    rw [if_pos c2]
    unfold n_li
    by_cases c3 : i = -1
    · rw [if_pos c3, if_pos c3, ok_some]
      exact ⟨rfl, g3⟩
    · rw [if_neg c3, if_neg c3, ok_some, g5 c3]
      exact ⟨rfl, g3⟩
  rw [if_neg c2]
  refine ok_for 4 (fun b (y : Int32 × Int32 × k_St) => y.1 = iI (n_cE E (4 * a + b) : Nat) ∧ y.2.1 = iI b ∧ m_c y.2.2 = m_c σM ∧ (¬ i = -1 → n_pk E n_lv i (4 * a + b) = -1)) ?_ (by omega) (j := 0) ⟨rfl, rfl, g3, g5⟩ (by omega)
  clear g3 g5
  rintro g2 b ⟨v3, v5, s⟩ ⟨g1, g2', g3, g5⟩ hb hg2
  have g1 : v3 = iI (n_cE E (4 * a + b) : Nat) := g1
  have g2' : v5 = iI b := g2'
  subst g1
  subst g2'
  have g3 : m_c s = m_c σM := g3
  have g5 : ¬ i = -1 → n_pk E n_lv i (4 * a + b) = -1 := g5
  have hct := n_cE_r E (4 * a + b)
  show k_OK (k_if _ _ _) _
  rw [n_ile (by omega) (by omega)]
  by_cases c3 : (4 : Int) ≤ b
  · have e4 : 4 * (a + 1) = 4 * a + b := by omega
    rw [if_pos c3, ok_nm, iI_add]
    refine hg _ (by omega) ⟨?_, rfl, g3, ?_⟩
    · rw [e4]
    · rw [e4]
      exact g5
  have hEab := hE1 a b (by omega)
  have no : ∀ s', m_c s' = m_c σM → ¬ E (4 * a + b) = true → k_OK (g2 (iI (n_cE E (4 * a + b) : Nat), iI ((b : Int) + 1), s')) (fun r => r.1 = iI (n_li E n_lv i 16) ∧ m_c r.2 = m_c σM) := fun s' h1 q => by
    have e1 := hcE (4 * a + b)
    have e2 := hpE (4 * a + b)
    rw [if_neg q] at e1
    rw [if_neg (fun r => q r.1)] at e2
    exact hg2 _ (by omega) ⟨by
      show _ = iI (n_cE E (4 * a + b + 1) : Nat)
      rw [e1]
      rfl, rfl, h1, fun r => by
      show n_pk E n_lv i (4 * a + b + 1) = -1
      rw [e2]
      exact g5 r⟩
  rw [if_neg c3, n_gix (by omega) (by omega), iI_cl (by omega), Int.toNat_natCast, show k_rd s 24 a = (m_c σM).1 24 a from n_core_1 g3 rfl, ok_if]
  refine ⟨fun c4 => ?_, fun c4 => ?_⟩
  · rw [ok_nm, iI_add]
    exact no s g3 (fun r => (hEab.mp r).1 c4)
  rw [n_gix (by omega) (by omega), iI_cl (by omega), Int.toNat_natCast, show k_rd s 24 b = (m_c σM).1 24 b from n_core_1 g3 rfl, ok_if]
  refine ⟨fun c5 => ?_, fun c5 => ?_⟩
  · rw [ok_nm, iI_add]
    exact no s g3 (fun r => (hEab.mp r).2.1 c5)
  obtain ⟨⟨rr, s2⟩, e6, hrr, hm2⟩ := n_isRM (s := s) (one := one) (two := two) (a := a) (b := b) hx g3 hR hk (by omega) (by omega) (by omega) (by omega) u2 w2 c4 c5 hG1 hG2
  have hrr : rr = iB (n_rsB G1 G2 a b = true) := hrr
  have hm2 : m_c s2 = m_c σM := hm2
  rw [e6, n_b2, hrr, n_ib]
  by_cases c6 : n_rsB G1 G2 a b = true
  rotate_left
  · rw [if_neg c6, ok_nm, iI_add]
    exact no s2 hm2 (fun r => c6 (hEab.mp r).2.2)
  have q := hEab.mpr ⟨c4, c5, c6⟩
  have e1 := hcE (4 * a + b)
  have e2 := hpE (4 * a + b)
  rw [if_pos q] at e1
  rw [if_pos c6, n_ieq (by omega) hi]
  by_cases c : (n_cE E (4 * a + b) : Int) = i
  · rw [if_pos c, ok_some]
    refine ⟨?_, hm2⟩
    unfold n_li
    rw [if_neg (show ¬ i = -1 by omega), n_pk_st q c 16 (by omega), iI_mul, iI_add]
    show iI _ = iI (10 * (((4 * a + b) / 4 : Nat) : Int) + (((4 * a + b) % 4 : Nat) : Int))
    rw [show (4 * a + b) / 4 = a by omega, show (4 * a + b) % 4 = b by omega]
  · rw [if_neg (fun r => c r.2)] at e2
    rw [if_neg c, ok_nm, ok_nm, iI_add, iI_add]
    exact hg2 _ (by omega) ⟨by
      show _ = iI (n_cE E (4 * a + b + 1) : Nat)
      rw [e1]
      rfl, rfl, hm2, fun r => by
      show n_pk E n_lv i (4 * a + b + 1) = -1
      rw [e2]
      exact g5 r⟩
