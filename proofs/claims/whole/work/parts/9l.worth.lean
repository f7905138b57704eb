/-! worth -/
theorem n_ev_ok {b : Nat → Int} {len : Nat} {L : Nat → Int} (h : n_ev b len L ≤ 1000000) : t_by (n_cut b len) len ∧ ∃ cs, t_cls (n_cut b len) len 200 0 = .inr cs ∧ ∀ L', n_ev b len L' = t_val L' cs := by
  unfold n_ev at h
  by_cases q : ∀ j, j < len → 1 ≤ b j ∧ b j ≤ 255
  · rw [if_pos q] at h
    refine ⟨fun j hj => by
      rw [show n_cut b len j = b j from if_pos hj]
      exact q j hj, ?_⟩
    cases hq : t_cls (n_cut b len) len 200 0 with
    | inl e =>
      rw [hq] at h
      exact absurd (show (2000000 : Int) ≤ 1000000 from h) (by decide)
    | inr cs =>
      refine ⟨cs, rfl, fun L' => ?_⟩
      unfold n_ev
      rw [if_pos q, hq]
  · rw [if_neg q] at h
    exact absurd h (by decide)
theorem n_wx {σX s x : k_St} {a : Int32} (hx : x_c σX = x) (hF : u_FR (k_wr σX 7 5 a) s) : x_c s = (fun c k => if c = 14 then s.1 14 k else if c = 15 then s.1 15 k else if c = 7 ∧ k = 5 then a else x.1 c k, x.2) := by
  refine Prod.ext (funext fun c => funext fun k => ?_) (funext fun c => funext fun k => ?_)
  · show (if x_scr c k = true then 0 else s.1 c k) = if c = 14 then s.1 14 k else if c = 15 then s.1 15 k else if c = 7 ∧ k = 5 then a else x.1 c k
    have hxk : x.1 c k = if x_scr c k = true then 0 else σX.1 c k := by
      rw [← hx]
      rfl
    by_cases q : x_scr c k = true
    · have n1 : ¬ c = 14 := fun e => by
        subst e
        exact Bool.noConfusion (show false = true from q)
      have n2 : ¬ c = 15 := fun e => by
        subst e
        exact Bool.noConfusion (show false = true from q)
      have n3 : ¬ (c = 7 ∧ k = 5) := fun e => by
        obtain ⟨e1, e2⟩ := e
        subst e1 e2
        exact Bool.noConfusion (show false = true from q)
      rw [if_pos q, if_neg n1, if_neg n2, if_neg n3, hxk, if_pos q]
    · rw [if_neg q]
      by_cases n1 : c = 14
      · rw [if_pos n1, n1]
      rw [if_neg n1]
      by_cases n2 : c = 15
      · rw [if_pos n2, n2]
      rw [if_neg n2]
      have g1 : ¬ (c = 7 ∧ (k = 1 ∨ k = 2 ∨ k = 3 ∨ k = 9 ∨ k = 10)) := fun e => q (by
        obtain ⟨rfl, rfl | rfl | rfl | rfl | rfl⟩ := e <;> rfl)
      have g2 : ¬ (c = 8 ∨ c = 11 ∨ c = 14 ∨ c = 15) := fun e => by
        rcases e with e | e | e | e
        · exact q (by rw [e]; rfl)
        · exact q (by rw [e]; rfl)
        · exact n1 e
        · exact n2 e
      rw [hF.2 c k g1 g2, wr_if]
      by_cases n3 : c = 7 ∧ k = 5
      · rw [if_pos n3, if_pos n3]
      · rw [if_neg n3, if_neg n3, hxk, if_neg q]
  · show (if x_scr c k = true then 0 else s.2 c k) = x.2 c k
    rw [hF.1, ← hx]
    rfl
theorem n_let {x m : k_St} {p : Nat} (hl : r_lak x m) (hp : (p : Int) < vI m 0 21) : r_let (m_let m p) := fun j hj => by
  obtain ⟨-, g0, g1, g2, g3⟩ := hl.2.2.2.2.2 p hp
  have h6 := hl.1.2.2
  rcases (show j = 0 ∨ j = 1 ∨ j = 2 ∨ j = 3 ∨ j = 4 by omega) with rfl | rfl | rfl | rfl | rfl
  · exact g3
  · show 0 ≤ (p : Int) ∧ (p : Int) ≤ 99
    omega
  · show 0 ≤ vI m 13 (4 * p + 1) ∧ vI m 13 (4 * p + 1) ≤ 99
    omega
  · show 0 ≤ vI m 13 (4 * p + 2) ∧ vI m 13 (4 * p + 2) ≤ 99
    omega
  · show 0 ≤ vI m 13 (4 * p) ∧ vI m 13 (4 * p) ≤ 99
    omega
theorem q_s5 : g_s5 z_Inv := by
  intro σX σM hI a0
  obtain ⟨a, ha, rfl⟩ := iI_ex a0
  obtain ⟨x, hx, hR⟩ := z_openX hI
  obtain ⟨hTap, hLak, hNow, hImg, hShf, hSee, hLrn, hLaw, hVal⟩ := id hR
  obtain ⟨l1, l2, l3, l4, l5, l6⟩ := id hLak
  obtain ⟨w1, w2, w3⟩ := id hLaw
  have b1 := l1.2
  have b2 := w1.2
  have eM : k_rd σM 0 13 = iI (vI (m_c σM) 0 13) := n_core_I rfl rfl
  have eX : k_rd σX 7 4 = iI (vI (m_c σM) 0 13) := by
    rw [n_core_I hx rfl, n_vI w1.1]
  have hM : f_X12_worth (iI a) σM = if -1 ≤ a ∧ a ≤ vI (m_c σM) 0 13 - 1 then some (iI 1, k_wr σM 0 30 (iI a)) else some (iI 0, σM) := by
    unfold f_X12_worth
    simp only [iI_lit, iI_neg, n_in]
    rw [eM, iI_sub, n_within (by omega) (by omega) (by omega), n_bd, n_ib]
    rfl
  by_cases c : -1 ≤ a ∧ a ≤ vI (m_c σM) 0 13 - 1
  rotate_left
  · rw [if_neg c] at hM
    have hX : f_X11_worth (iI a) σX = some (iI 0, σX) := by
      unfold f_X11_worth
      simp only [iI_lit, iI_neg, n_jn]
      rw [n_ieq (by omega) (by omega), if_neg (by omega), eX, iI_sub, n_within (by omega) (by omega) (by omega), n_bd, n_ib, if_neg (by omega)]
    exact ⟨_, _, _, hX, hM, hI⟩
  rw [if_pos c] at hM
  have hX : f_X11_worth (iI a) σX = k_bd (f_X10_reckonFor (k_wr σX 7 5 (iI a))) fun s40 => some (iI 1, s40) := by
    unfold f_X11_worth
    simp only [iI_lit, iI_neg, n_jn]
    rw [n_ieq (by omega) (by omega)]
    by_cases q : a = -1
    · rw [if_pos q]
      rfl
    · rw [if_neg q, eX, iI_sub, n_within (by omega) (by omega) (by omega), n_bd, n_ib, if_pos (by omega)]
      rfl
  have hn : ((vI (m_c σM) 0 21).toNat : Int) = vI (m_c σM) 0 21 := by omega
  have hcell : ∀ p j : Nat, p < (vI (m_c σM) 0 21).toNat → j < 4 → (k_wr σX 7 5 (iI a)).1 13 (4 * p + j) = iI (vI (m_c σM) 13 (4 * p + j)) := fun p j hp hj => by
    rw [wr_c (by decide), n_core_1 (k := 4 * p + j) hx rfl, (l6 p (by omega)).1 j hj]
    exact iI_of _
  obtain ⟨s, es, fR, fv⟩ := u_reckon (σ := k_wr σX 7 5 (iI a)) (n := (vI (m_c σM) 0 21).toNat) (a := a) (Lf := m_let (m_c σM)) (W := fun p => if a = -1 then vI (m_c σM) 13 (4 * p + 3) else max 0 (min 999 (n_ev (fun j => vI x 9 (160 * a.toNat + j)) (vI x 10 a.toNat).toNat (m_let (m_c σM) p)))) (by
      rw [wr_c (by decide), n_core_1 hx rfl, l1.1, hn]
      exact iI_of _) (by omega) wr_s (by omega) (fun p hp => ⟨hcell p 3 hp (by omega), rfl, hcell p 1 hp (by omega), hcell p 2 hp (by omega), hcell p 0 hp (by omega)⟩) (fun p hp => n_let hLak (by omega)) (fun q p hp => by
      rw [if_pos q]
      rfl) (fun q => by
      have hw := w3 a.toNat (by omega)
      obtain ⟨r1, r2⟩ := hw
      obtain ⟨-, -, r3⟩ := r2 (fun _ => 0) (fun _ _ => ⟨(by decide : (0 : Int) ≤ 0), (by decide : (0 : Int) ≤ 99)⟩)
      obtain ⟨g1, cs, g2, g3⟩ := n_ev_ok r3
      refine ⟨(vI x 10 a.toNat).toNat, n_cut (fun j => vI x 9 (160 * a.toNat + j)) (vI x 10 a.toNat).toNat, cs, ?_, by omega, g1, fun j hj => ?_, g2, fun p hp => ?_⟩
      · rw [wr_c (by decide), n_core_1 (k := a.toNat) hx rfl, show (((vI x 10 a.toNat).toNat : Nat) : Int) = vI x 10 a.toNat by omega]
        exact iI_of _
      · rw [wr_c (by decide), n_core_1 (k := 160 * a.toNat + j) hx rfl, show n_cut (fun j => vI x 9 (160 * a.toNat + j)) (vI x 10 a.toNat).toNat j = vI x 9 (160 * a.toNat + j) from if_pos hj]
        exact iI_of _
      · obtain ⟨-, r4, r5⟩ := r2 (m_let (m_c σM) p) (n_let hLak (by omega))
        rw [g3] at r4 r5
        rw [if_neg (by omega), g3]
        exact ⟨rfl, r4, r5⟩)
  have e30 : vI (k_wr (m_c σM) 0 30 (iI a)) 0 30 = a := by
    show ((k_wr (m_c σM) 0 30 (iI a)).1 0 30).toInt = a
    rw [wr_s]
    exact iI_to (by omega)
  refine ⟨iI 1, s, k_wr σM 0 30 (iI a), by rw [hX, es, n_bd], hM, z_close (n_wx hx fR) (n_cw rfl rfl) ⟨hTap, hLak, hNow, hImg, hShf, hSee, hLrn, ⟨w1, ⟨rfl, ?_⟩, w3⟩, ?_⟩⟩
  · rw [e30]
    show -1 ≤ a ∧ a < vI (m_c σM) 0 13
    omega
  · intro p hp
    have hp : (p : Int) < vI (m_c σM) 0 21 := hp
    obtain ⟨f14, f15⟩ := fv p (by omega)
    obtain ⟨-, t0, t1, t2, t3⟩ := l6 p hp
    have hL4 : m_let (m_c σM) p 4 = vI (m_c σM) 13 (4 * p) := rfl
    rw [hL4] at f15
    show m_V (k_wr (m_c σM) 0 30 (iI a)) p = some (s.1 14 p).toInt ∧ (0 ≤ (s.1 14 p).toInt ∧ (s.1 14 p).toInt ≤ 999) ∧ (s.1 15 p).toInt = (s.1 14 p).toInt * vI (m_c σM) 13 (4 * p)
    have eV : m_V (k_wr (m_c σM) 0 30 (iI a)) p = if a = -1 then some (vI (m_c σM) 13 (4 * p + 3)) else match rp_E (m_c σM) a.toNat (m_let (m_c σM) p) with
      | none => none
      | some v => some (max 0 (min 999 v)) := by
      unfold m_V
      rw [e30]
      rfl
    rw [eV, f14, f15]
    by_cases q : a = -1
    · rw [if_pos q, if_pos q, iI_to (by omega), iI_to (by
        have := Int.mul_nonneg t3.1 t0.1
        have := Int.mul_le_mul t3.2 t0.2 t0.1 (by omega : (0 : Int) ≤ 99)
        omega)]
      exact ⟨rfl, by omega, rfl⟩
    · rw [if_neg q, if_neg q]
      obtain ⟨r4, -, -⟩ := (w3 a.toNat (by omega)).2 (m_let (m_c σM) p) (n_let hLak hp)
      rw [r4]
      have hb : 0 ≤ max 0 (min 999 (n_ev (fun j => vI x 9 (160 * a.toNat + j)) (vI x 10 a.toNat).toNat (m_let (m_c σM) p))) ∧ max 0 (min 999 (n_ev (fun j => vI x 9 (160 * a.toNat + j)) (vI x 10 a.toNat).toNat (m_let (m_c σM) p))) ≤ 999 := by omega
      dsimp only
      generalize max 0 (min 999 (n_ev (fun j => vI x 9 (160 * a.toNat + j)) (vI x 10 a.toNat).toNat (m_let (m_c σM) p))) = v at *
      rw [iI_to (by omega), iI_to (by
        have := Int.mul_nonneg hb.1 t0.1
        have := Int.mul_le_mul hb.2 t0.2 t0.1 (by omega : (0 : Int) ≤ 999)
        omega)]
      exact ⟨rfl, hb, rfl⟩
