/-! fits of all shelves -/
def n_Fi (m : k_St) (V : Nat → Int) (n a b : Nat) : Int := if vI m 22 a = -1 then -1 else if m.1 24 b = 0 then -1 else n_A m V (n_d4 (vI m 22 a)) (fun j => m.1 23 (16 * b + j)) (vI m 0 26) (vI m 0 27) n
theorem n_Fi_r {m : k_St} {V : Nat → Int} {n : Nat} (hk : n_mk m n V) (a b : Nat) : -1 ≤ n_Fi m V n a b ∧ n_Fi m V n a b ≤ 5394600 := by
  have h := n_Ar (f := n_d4 (vI m 22 a)) (R := fun j => m.1 23 (16 * b + j)) (fg := vI m 0 26) (th := vI m 0 27) hk
  unfold n_Fi
  split
  · omega
  · split <;> omega
/-- a fit of two that are there -/
theorem n_Fi_0 {m : k_St} {V : Nat → Int} {n : Nat} (hk : n_mk m n V) (a b : Nat) : 0 ≤ n_Fi m V n a b ↔ ¬ vI m 22 a = -1 ∧ ¬ m.1 24 b = 0 := by
  have h := n_Ar (f := n_d4 (vI m 22 a)) (R := fun j => m.1 23 (16 * b + j)) (fg := vI m 0 26) (th := vI m 0 27) hk
  unfold n_Fi
  by_cases c1 : vI m 22 a = -1
  · rw [if_pos c1]
    exact ⟨fun q => absurd q (by omega), fun q => absurd c1 q.1⟩
  · rw [if_neg c1]
    by_cases c2 : m.1 24 b = 0
    · rw [if_pos c2]
      exact ⟨fun q => absurd q (by omega), fun q => absurd c2 q.2⟩
    · rw [if_neg c2]
      exact ⟨fun _ => ⟨c1, c2⟩, fun _ => h.1⟩
theorem n_aboveF {σX σM x : k_St} {n a b : Nat} (hx : x_c σX = x) (hR : r_all x (m_c σM)) (hk : n_mk (m_c σM) n (fun p => vI x 14 p)) (ha : a < 4) (hb : b < 4) (c1 : ¬ vI (m_c σM) 22 a = -1) (c2 : ¬ (m_c σM).1 24 b = 0) : f_X0_above (k_rd σX 43 a) (k_rl σX 44 b) σX = some (iL (n_Fi (m_c σM) (fun p => vI x 14 p) n a b)) := by
  obtain ⟨hTap, hLak, hNow, hImg, hShf, hSee, hLrn, hLaw, hVal⟩ := id hR
  obtain ⟨l1, l2, l3, l4, l5, l6⟩ := id hLak
  obtain ⟨h1, h2, h3, h4, h5, h6, h7, h8⟩ := id hNow
  have b2 := l2.2
  have k1 := hk.1
  rcases (hShf a ha).1 with ⟨s1, s2⟩ | ⟨s1, s2, s3, s4⟩
  · exact absurd (show vI (m_c σM) 22 a = -1 by unfold vI; rw [s1]; rfl) c1
  rcases (hShf b hb).2 with ⟨t1, t2⟩ | ⟨t1, t2, t3⟩
  · exact absurd t1 c2
  rw [k1] at t3
  unfold n_Fi
  rw [if_neg c1, if_neg c2]
  unfold f_X0_above
  rw [show k_rd σX 43 a = iI (n_e4 (n_d4 (vI (m_c σM) 22 a))) from (n_core_1 hx rfl).trans s4, show k_rl σX 44 b = x.2 44 b from n_core_2 hx rfl, n_rX hx rfl h4.1, n_rX hx rfl h5.1, n_above hx hk hLak hVal h6.1 t3 (s2.r4 b2.2) (vI_rg _ _ _) (vI_rg _ _ _), n_bd]
theorem n_fitF {s σM x : k_St} {n a b : Nat} (hs : m_c s = m_c σM) (hR : r_all x (m_c σM)) (hk : n_mk (m_c σM) n (fun p => vI x 14 p)) (ha : a < 4) (hb : b < 4) (c1 : ¬ vI (m_c σM) 22 a = -1) (c2 : ¬ (m_c σM).1 24 b = 0) : ∃ s', f_X12_fitOf (iI a) (iI b) s = some (iI (n_Fi (m_c σM) (fun p => vI x 14 p) n a b), s') ∧ m_c s' = m_c σM ∧ n_Fr i_SF s s' := by
  obtain ⟨hTap, hLak, hNow, hImg, hShf, hSee, hLrn, hLaw, hVal⟩ := id hR
  obtain ⟨l1, l2, l3, l4, l5, l6⟩ := id hLak
  have b2 := l2.2
  have k1 := hk.1
  rcases (hShf a ha).1 with ⟨s1, s2⟩ | ⟨s1, s2, s3, s4⟩
  · exact absurd (show vI (m_c σM) 22 a = -1 by unfold vI; rw [s1]; rfl) c1
  rcases (hShf b hb).2 with ⟨t1, t2⟩ | ⟨t1, t2, t3⟩
  · exact absurd t1 c2
  rw [k1] at t3
  obtain ⟨s', e4, e5, hF⟩ := n_fitOf (σ := s) (a := a) (b := b) (k := vI (m_c σM) 0 22) hs hk (by omega) ha hb s2 b2.2 s3 t3
  refine ⟨s', ?_, e5, hF⟩
  unfold n_Fi
  rw [if_neg c1, if_neg c2]
  exact e4
theorem n_put45 {σX s : k_St} {F : Nat → Int} {a b : Nat} {v : Int64} (hF : n_Fr (fun c => c = 45) σX s) (hz : ∀ c, c < 4 * a + b → s.2 45 c = iL (F c)) (hv : v = iL (F (4 * a + b))) : n_Fr (fun c => c = 45) σX (k_wl s 45 ((a : Int) * 4 + (b : Int)).toNat v) ∧ ∀ c, c < 4 * a + (b + 1) → (k_wl s 45 ((a : Int) * 4 + (b : Int)).toNat v).2 45 c = iL (F c) := by
  refine ⟨hF.wl rfl, fun c hc => ?_⟩
  rw [show ((a : Int) * 4 + (b : Int)).toNat = 4 * a + b by omega]
  by_cases e : c = 4 * a + b
  · subst e
    rw [wl_s, hv]
  · rw [wl_k e]
    exact hz c (by omega)
theorem n_reckon {σX σM x : k_St} {n : Nat} (hx : x_c σX = x) (hR : r_all x (m_c σM)) (hk : n_mk (m_c σM) n (fun p => vI x 14 p)) : k_OK (f_X5_reckonFits σX) (fun s => n_Fr (fun c => c = 45) σX s ∧ ∀ c, c < 16 → s.2 45 c = iL (n_Fi (m_c σM) (fun p => vI x 14 p) n (c / 4) (c % 4))) := by
  have hn6 := hk.2.1
  obtain ⟨F, hFd⟩ : ∃ F : Nat → Int, F = fun c => n_Fi (m_c σM) (fun p => vI x 14 p) n (c / 4) (c % 4) := ⟨_, rfl⟩
  have hFe : ∀ c, n_Fi (m_c σM) (fun p => vI x 14 p) n (c / 4) (c % 4) = F c := fun c => by rw [hFd]
  refine ok_mono (Q := fun s => n_Fr (fun c => c = 45) σX s ∧ ∀ c, c < 16 → s.2 45 c = iL (F c)) ?_ (fun s h => ⟨h.1, fun c hc => by rw [hFe]; exact h.2 c hc⟩)
  unfold f_X5_reckonFits
  simp only [iI_lit]
  refine ok_for 4 (fun a (z : Int32 × k_St) => z.1 = iI a ∧ n_Fr (fun c => c = 45) σX z.2 ∧ ∀ c, c < 4 * a → z.2.2 45 c = iL (F c)) ?_ (by omega) (j := 0) ⟨rfl, n_Fr.rf, fun t h => absurd h (by omega)⟩ (Nat.zero_le _)
  rintro g0 a ⟨v, s⟩ ⟨hv, hF, hz⟩ ha hg0
  have hv : v = iI a := hv
  subst hv
  have hF : n_Fr (fun c => c = 45) σX s := hF
  have hz : ∀ c, c < 4 * a → s.2 45 c = iL (F c) := hz
  show k_OK (k_if _ _ _) _
  rw [n_ile (by omega) (by omega)]
  by_cases c0 : (4 : Int) ≤ a
  · rw [if_pos c0, ok_some]
    exact ⟨hF, fun c hc => hz c (by omega)⟩
  rw [if_neg c0]
  refine ok_for 4 (fun b (z : Int32 × k_St) => z.1 = iI b ∧ n_Fr (fun c => c = 45) σX z.2 ∧ ∀ c, c < 4 * a + b → z.2.2 45 c = iL (F c)) ?_ (by omega) (j := 0) ⟨rfl, hF, hz⟩ (Nat.zero_le _)
  clear hF hz
  rintro g b ⟨v, s⟩ ⟨hv, hF, hz⟩ hb hg
  have hv : v = iI b := hv
  subst hv
  have hF : n_Fr (fun c => c = 45) σX s := hF
  have hz : ∀ c, c < 4 * a + b → s.2 45 c = iL (F c) := hz
  show k_OK (k_if _ _ _) _
  rw [n_ile (by omega) (by omega)]
  by_cases c1 : (4 : Int) ≤ b
  · rw [if_pos c1, ok_nm, iI_add]
    exact hg0 _ (by omega) ⟨rfl, hF, fun c hc => hz c (by omega)⟩
  have hxs : x_c s = x := (n_frX hF (fun c hc k => by rw [hc]; rfl)).trans hx
  have e0 : F (4 * a + b) = n_Fi (m_c σM) (fun p => vI x 14 p) n a b := by
    rw [← hFe, show (4 * a + b) / 4 = a by omega, show (4 * a + b) % 4 = b by omega]
  obtain ⟨e1, e2, _⟩ := n_shelved (a := a) (b := b) hxs hR hk.1 hn6 (by omega) (by omega)
  rw [if_neg c1]
  simp (disch := omega) only [n_jn, e1, e2, n_bd, n_nm, iI_mul, iI_add, n_gix, iI_cl, Int.toNat_natCast]
  have nn : ∀ v : Int64, v = iL (F (4 * a + b)) → k_OK (g (iI ((b : Int) + 1), k_wl s 45 ((a : Int) * 4 + (b : Int)).toNat v)) (fun s => n_Fr (fun c => c = 45) σX s ∧ ∀ c, c < 16 → s.2 45 c = iL (F c)) := fun v hv => hg _ (by omega) ⟨rfl, n_put45 hF hz hv⟩
  by_cases c2 : vI (m_c σM) 22 a = -1
  · simp only [if_pos c2, n_kT]
    exact nn _ (by rw [e0]; unfold n_Fi; rw [if_pos c2]; rfl)
  · simp only [if_neg c2]
    rw [n_iff (show ¬ iI 1 = iI 0 by decide)]
    by_cases c3 : (m_c σM).1 24 b = 0
    · simp only [if_pos c3, n_kT]
      exact nn _ (by rw [e0]; unfold n_Fi; rw [if_neg c2, if_pos c3]; rfl)
    · simp only [if_neg c3]
      rw [n_iff (show ¬ iI 1 = iI 0 by decide), n_iff (show ¬ iI 1 = iI 0 by decide), n_aboveF hxs hR hk (by omega) (by omega) c2 c3, n_bd]
      exact nn _ (by rw [e0])
/-! the best fit, again and again -/
def n_bm (G : Nat → Int) : Nat → Int
  | 0 => -1
  | c + 1 => if G c ≤ n_bm G c then n_bm G c else G c
def n_bs (G : Nat → Int) : Nat → Int
  | 0 => -1
  | c + 1 => if G c ≤ n_bm G c then n_bs G c else c
theorem n_bs_r {G : Nat → Int} (h : ∀ c, -1 ≤ G c) : ∀ c, (n_bs G c = -1 ∧ n_bm G c = -1 ∧ ∀ d, d < c → G d = -1) ∨ (0 ≤ n_bs G c ∧ n_bs G c < c ∧ n_bm G c = G (n_bs G c).toNat ∧ 0 ≤ n_bm G c)
  | 0 => Or.inl ⟨rfl, rfl, fun d hd => absurd hd (by omega)⟩
  | c + 1 => by
    have hc := h c
    have es : n_bs G (c + 1) = if G c ≤ n_bm G c then n_bs G c else c := rfl
    have em : n_bm G (c + 1) = if G c ≤ n_bm G c then n_bm G c else G c := rfl
    rw [es, em]
    rcases n_bs_r h c with ⟨h1, h2, h3⟩ | ⟨h1, h2, h3, h4⟩
    · by_cases q : G c ≤ n_bm G c
      · rw [if_pos q, if_pos q]
        refine Or.inl ⟨h1, h2, fun d hd => ?_⟩
        by_cases e : d = c
        · rw [e]; omega
        · exact h3 d (by omega)
      · rw [if_neg q, if_neg q]
        exact Or.inr ⟨by omega, by omega, by rw [Int.toNat_natCast], by omega⟩
    · by_cases q : G c ≤ n_bm G c
      · rw [if_pos q, if_pos q]
        exact Or.inr ⟨h1, by omega, h3, h4⟩
      · rw [if_neg q, if_neg q]
        exact Or.inr ⟨by omega, by omega, by rw [Int.toNat_natCast], by omega⟩
def n_sk (G : Nat → Int) (i : Int) (c : Nat) : Int := if c / 4 = (i / 4).toNat ∨ c % 4 = (i % 4).toNat then -1 else G c
def n_rD (F : Nat → Int) : Nat → Nat → Int
  | 0 => F
  | t + 1 => if n_bs (n_rD F t) 16 = -1 then n_rD F t else n_sk (n_rD F t) (n_bs (n_rD F t) 16)
def n_rP (F : Nat → Int) : Nat → Nat → Int
  | 0 => fun _ => -1
  | t + 1 => if n_bs (n_rD F t) 16 = -1 then n_rP F t else fun a => if a = (n_bs (n_rD F t) 16 / 4).toNat then n_bs (n_rD F t) 16 % 4 else n_rP F t a
theorem n_rD_r {F : Nat → Int} (h : ∀ c, -1 ≤ F c) : ∀ t c, -1 ≤ n_rD F t c
  | 0, c => h c
  | t + 1, c => by
    have ih := n_rD_r h t c
    show -1 ≤ (if n_bs (n_rD F t) 16 = -1 then n_rD F t else n_sk (n_rD F t) (n_bs (n_rD F t) 16)) c
    split
    · exact ih
    · unfold n_sk
      split <;> omega
theorem n_rst {F : Nat → Int} {t : Nat} (h : n_bs (n_rD F t) 16 = -1) : ∀ u, n_rD F (t + u) = n_rD F t ∧ n_rP F (t + u) = n_rP F t
  | 0 => ⟨rfl, rfl⟩
  | u + 1 => by
    obtain ⟨h1, h2⟩ := n_rst h u
    have e1 : n_rD F (t + u + 1) = if n_bs (n_rD F (t + u)) 16 = -1 then n_rD F (t + u) else n_sk (n_rD F (t + u)) (n_bs (n_rD F (t + u)) 16) := rfl
    have e2 : n_rP F (t + u + 1) = if n_bs (n_rD F (t + u)) 16 = -1 then n_rP F (t + u) else fun a => if a = (n_bs (n_rD F (t + u)) 16 / 4).toNat then n_bs (n_rD F (t + u)) 16 % 4 else n_rP F (t + u) a := rfl
    rw [h1, h2, if_pos h] at e2
    rw [h1, if_pos h] at e1
    exact ⟨e1, e2⟩
/-- who is paired has no fit left -/
theorem n_rPD {F : Nat → Int} (h : ∀ c, -1 ≤ F c) : ∀ t a, a < 4 → ¬ n_rP F t a = -1 → ∀ b, b < 4 → n_rD F t (4 * a + b) = -1
  | 0, a, _, hp, b, _ => absurd rfl hp
  | t + 1, a, ha, hp, b, hb => by
    have ih := n_rPD h t a ha
    have e1 : n_rD F (t + 1) = if n_bs (n_rD F t) 16 = -1 then n_rD F t else n_sk (n_rD F t) (n_bs (n_rD F t) 16) := rfl
    have e2 : n_rP F (t + 1) = if n_bs (n_rD F t) 16 = -1 then n_rP F t else fun a => if a = (n_bs (n_rD F t) 16 / 4).toNat then n_bs (n_rD F t) 16 % 4 else n_rP F t a := rfl
    rw [e1]
    rw [e2] at hp
    by_cases c : n_bs (n_rD F t) 16 = -1
    · rw [if_pos c] at hp ⊢
      exact ih hp b hb
    · rw [if_neg c] at hp ⊢
      unfold n_sk
      by_cases q : a = (n_bs (n_rD F t) 16 / 4).toNat
      · rw [if_pos (Or.inl (by omega))]
      · have hp : ¬ (if a = (n_bs (n_rD F t) 16 / 4).toNat then n_bs (n_rD F t) 16 % 4 else n_rP F t a) = -1 := hp
        rw [if_neg q] at hp
        rw [ih hp b hb]
        split <;> rfl
/-- the row that is paired next was not yet -/
theorem n_rnx {F : Nat → Int} (h : ∀ c, -1 ≤ F c) {t : Nat} (hb : ¬ n_bs (n_rD F t) 16 = -1) : (0 ≤ n_bs (n_rD F t) 16 ∧ n_bs (n_rD F t) 16 < 16) ∧ n_rP F t (n_bs (n_rD F t) 16 / 4).toNat = -1 := by
  rcases n_bs_r (n_rD_r h t) 16 with ⟨h1, _⟩ | ⟨h1, h2, h3, h4⟩
  · exact absurd h1 hb
  refine ⟨⟨h1, by omega⟩, ?_⟩
  by_cases c : n_rP F t (n_bs (n_rD F t) 16 / 4).toNat = -1
  · exact c
  · have := n_rPD h t _ (by omega) c (n_bs (n_rD F t) 16 % 4).toNat (by omega)
    rw [show 4 * (n_bs (n_rD F t) 16 / 4).toNat + (n_bs (n_rD F t) 16 % 4).toNat = (n_bs (n_rD F t) 16).toNat by omega] at this
    omega
/-- who is paired stays so -/
theorem n_rPs {F : Nat → Int} (h : ∀ c, -1 ≤ F c) {t a : Nat} (hp : ¬ n_rP F t a = -1) : ∀ u, n_rP F (t + u) a = n_rP F t a
  | 0 => rfl
  | u + 1 => by
    have ih := n_rPs h hp u
    have e2 : n_rP F (t + u + 1) = if n_bs (n_rD F (t + u)) 16 = -1 then n_rP F (t + u) else fun a => if a = (n_bs (n_rD F (t + u)) 16 / 4).toNat then n_bs (n_rD F (t + u)) 16 % 4 else n_rP F (t + u) a := rfl
    show n_rP F (t + u + 1) a = _
    rw [e2]
    by_cases c : n_bs (n_rD F (t + u)) 16 = -1
    · rw [if_pos c, ih]
    · rw [if_neg c]
      have hn := (n_rnx h c).2
      show (if a = (n_bs (n_rD F (t + u)) 16 / 4).toNat then n_bs (n_rD F (t + u)) 16 % 4 else n_rP F (t + u) a) = _
      by_cases q : a = (n_bs (n_rD F (t + u)) 16 / 4).toNat
      · rw [← q, ih] at hn
        exact absurd hn hp
      · rw [if_neg q, ih]
