/-! settled, the reference -/
theorem n_A_c {m : k_St} {n : Nat} {V f g : Nat → Int} (hk : n_mk m n V) (h : ∀ s, s < 4 → f s = g s) (R : Nat → Int32) (fg th : Int) : n_A m V f R fg th n = n_A m V g R fg th n := n_sum_c (fun p hp => by
  have hh := hk.hd hp th
  rw [h (n_hd m th p).toNat (by omega)])
theorem n_dkk {k j s : Nat} (hk : 1 ≤ k) : 0 ≤ (n_dk k j s : Int) ∧ (n_dk k j s : Int) < k := by
  have := Nat.mod_lt (j / k ^ (3 - s)) (show 0 < k by omega)
  unfold n_dk
  omega
theorem n_rk_ex {k : Nat} {g : Nat → Int} (hk : 1 ≤ k ∧ k ≤ 4) (hg : ∀ s, s < 4 → 0 ≤ g s ∧ g s < k) : ∃ o, o < k * k * k * k ∧ ∀ s, s < 4 → g s = (n_dk k o s : Int) := by
  have h4 : r_4 g := fun s hs => by have := hg s hs; omega
  obtain ⟨e, he, e1, e2, e3, e4, e5⟩ := h4.nat
  have g0 := hg 0 (by omega)
  have g1 := hg 1 (by omega)
  have g2 := hg 2 (by omega)
  have g3 := hg 3 (by omega)
  have hsb : n_sb k e = true := by
    unfold n_sb
    rw [decide_eq_true (by omega), decide_eq_true (by omega), decide_eq_true (by omega), decide_eq_true (by omega)]
    rfl
  obtain ⟨r0, r1, r2, r3⟩ := n_rk4 hk he hsb
  refine ⟨n_rk k e, ?_, fun s hs => ?_⟩
  · have q := n_cE_m (n_sb k) (show e + 1 ≤ 256 by omega)
    have q2 := n_rk_s (k := k) (e := e)
    rw [if_pos hsb] at q2
    have q3 := n_rk256 k (by omega) hk.1
    unfold n_rk at *
    omega
  · rcases (show s = 0 ∨ s = 1 ∨ s = 2 ∨ s = 3 by omega) with rfl | rfl | rfl | rfl
    · rw [e2, r0]
    · rw [e3, r1]
    · rw [e4, r2]
    · rw [e5, r3]
theorem n_ansBy {σ m : k_St} {a n : Nat} {V f : Nat → Int} (ha : k_nM a = 4) (ha2 : ¬ i_SB a) (hm : m_c σ = m) (hk : n_mk m n V) (hn : 0 < n) (hf : ∀ s, s < 4 → σ.1 a s = iI (f s) ∧ 0 ≤ f s ∧ f s < 4) : ∃ s, f_X12_answeredBy a σ = some (iI (n_A m V f (n_an m V f n) (vI m 0 26) (vI m 0 27) n), s) ∧ m_c s = m ∧ n_Fr (fun c => c = 9 ∨ c = 10 ∨ c = 17 ∨ c = 18) σ s ∧ ∀ c, c < 16 → s.1 18 c = n_an m V f n c := by
  obtain ⟨s1, e1, hF1, hB⟩ := n_layBrings ha ha2 hm hk hf
  have hm1 : m_c s1 = m := (n_frM hF1 i_SB_s).trans hm
  obtain ⟨s2, e2, hF2, hA⟩ := n_layAnswers hm1 hk hn hB
  have hm2 : m_c s2 = m := (n_frM hF2 (fun c hc k => by rw [hc]; rfl)).trans hm1
  have hB2 : ∀ c, c < 16 → ∀ p, p < n → s2.1 17 (6 * c + p) = iI (n_B m V f c p) := fun c hc p hp => by
    rw [(hF2 17 (by decide)).1]
    exact hB c hc p hp
  have hR : ∀ c, c < 16 → s2.1 18 c = n_an m V f n c ∧ 0 ≤ (n_an m V f n c).toInt ∧ (n_an m V f n c).toInt < n := fun c hc => ⟨hA c hc, (n_an_i hk hn c).2⟩
  unfold f_X12_answeredBy
  rw [e1, n_bd, e2, n_bd, n_sumBy rfl hk.2.1 hR hB2, n_bd, n_AB hk (fun s hs => (hf s hs).2) (fun c hc => (n_an_i hk hn c).2)]
  refine ⟨s2, rfl, hm2, (hF1.mono (fun c hc => ?_)).tr (hF2.mono (fun c hc => ?_)), fun c hc => (hR c hc).1⟩
  · rcases hc with h | h | h
    · exact Or.inl h
    · exact Or.inr (Or.inl h)
    · exact Or.inr (Or.inr (Or.inl h))
  · exact Or.inr (Or.inr (Or.inr hc))
theorem n_isSM {σ m : k_St} {n k j : Nat} {V : Nat → Int} (hm : m_c σ = m) (hk : n_mk m n V) (hn : 0 < n) (hk22 : vI m 0 22 = k) (hkk : 1 ≤ k ∧ k ≤ 4) (hj : j < 256) : k_OK (f_X12_isSettled (iI j) σ) (fun r => r.1 = iB (n_stb m V (fun s => (n_dk k j s : Int)) n k = true) ∧ m_c r.2 = m) := by
  have hK := n_K hkk
  have hst := n_stb_A (k := k) (f := fun s => (n_dk k j s : Int)) hk (fun s hs => n_dkk hkk.1)
  unfold f_X12_isSettled
  have e22 : k_rd σ 0 22 = iI (k : Int) := by rw [n_core_I hm (c := 0) (k := 22) rfl, hk22]
  obtain ⟨s1, e1, hF1, hA1⟩ := n_nth (σ := σ) (a := 16) (j := j) rfl hkk hj
  have hm1 : m_c s1 = m := (n_frM hF1 (fun c hc k => by rw [hc]; rfl)).trans hm
  obtain ⟨s2, e2, hm2, hF2, hA2⟩ := n_ansBy (σ := s1) (a := 16) (f := fun s => (n_dk k j s : Int)) rfl (by unfold i_SB; omega) hm1 hk hn (fun t ht => ⟨hA1 t ht, n_dkr hkk⟩)
  rw [e22, e1, n_bd, e2, n_b2]
  have hor := n_Ar (f := fun s => (n_dk k j s : Int)) (R := n_an m V (fun s => (n_dk k j s : Int)) n) (fg := vI m 0 26) (th := vI m 0 27) hk
  have hRi := fun c => n_an_i (f := fun s => (n_dk k j s : Int)) hk hn c
  generalize hRR : n_an m V (fun s => (n_dk k j s : Int)) n = R at *
  generalize hO : n_A m V (fun s => (n_dk k j s : Int)) R (vI m 0 26) (vI m 0 27) n = O at *
  simp only [iI_lit]
  refine ok_for 16 (fun c (y : Int32 × k_St) => y.1 = iI c ∧ m_c y.2 = m ∧ (∀ d, d < 16 → y.2.1 18 d = R d) ∧ ∀ d, d < c → y.2.1 19 d = R d) ?_ (by omega) (j := 0) ⟨rfl, hm2, hA2, fun d hd => absurd hd (by omega)⟩ (by omega)
  clear hm2 hA2 e2 hF2 e1 hF1 hA1
  rintro g0 c ⟨v, s⟩ ⟨hv, hms, h18, h19⟩ hc hg0
  have hv : v = iI c := hv
  subst hv
  have hms : m_c s = m := hms
  have h18 : ∀ d, d < 16 → s.1 18 d = R d := h18
  have h19 : ∀ d, d < c → s.1 19 d = R d := h19
  show k_OK (k_if _ _ _) _
  rw [n_ile (by omega) (by omega)]
  by_cases c0 : (16 : Int) ≤ c
  rotate_left
  · rw [if_neg c0, n_gix (by omega) (by omega), n_gix (by omega) (by omega), iI_cl (by omega), Int.toNat_natCast, ok_nm, ok_nm, iI_add]
    refine hg0 _ (by omega) ⟨rfl, (n_core_w1 rfl).trans hms, h18, fun d hd => ?_⟩
    show (k_wr s 19 c (s.1 18 c)).1 19 d = _
    by_cases e : d = c
    · rw [e, wr_s]
      exact h18 c (by omega)
    · rw [wr_k e]
      exact h19 d (by omega)
  rw [if_pos c0]
  refine ok_for (k * k * k * k) (fun o (y : Int32 × k_St) => y.1 = iI o ∧ m_c y.2 = m ∧ (∀ d, d < 16 → y.2.1 19 d = R d) ∧ ∀ o', o' < o → n_A m V (fun s => (n_dk k o' s : Int)) R (vI m 0 26) (vI m 0 27) n ≤ O) ?_ (by omega) (j := 0) ⟨rfl, hms, fun d hd => h19 d (by omega), fun d hd => absurd hd (by omega)⟩ (by omega)
  clear hms h18 h19 hg0
  rintro g o ⟨v, s⟩ ⟨hv, hms, h19, hle⟩ ho hg
  have hv : v = iI o := hv
  subst hv
  have hms : m_c s = m := hms
  have h19 : ∀ d, d < 16 → s.1 19 d = R d := h19
  have hle : ∀ o', o' < o → n_A m V (fun s => (n_dk k o' s : Int)) R (vI m 0 26) (vI m 0 27) n ≤ O := hle
  have e22 : k_rd s 0 22 = iI (k : Int) := by rw [n_core_I hms (c := 0) (k := 22) rfl, hk22]
  have eK : iI (k : Int) * iI (k : Int) * iI (k : Int) * iI (k : Int) = iI ((k * k * k * k : Nat) : Int) := by
    simp only [iI_mul, Int.natCast_mul]
  show k_OK (k_if _ _ _) _
  rw [e22, eK, n_ile (by omega) (by omega)]
  by_cases c1 : ((k * k * k * k : Nat) : Int) ≤ o
  · rw [if_pos c1, ok_some, n_bt (hst.mpr (fun gg hgg => ?_))]
    · exact ⟨rfl, hms⟩
    · obtain ⟨o', ho', hgo⟩ := n_rk_ex hkk hgg
      rw [n_A_c hk hgo]
      exact hle o' (by omega)
  obtain ⟨s1, e1, hF1, hA1⟩ := n_nth (σ := s) (a := 20) (j := o) rfl hkk (by omega)
  have hm1 : m_c s1 = m := (n_frM hF1 (fun c hc k => by rw [hc]; rfl)).trans hms
  obtain ⟨s2, e2, hF2, hB⟩ := n_layBrings (σ := s1) (a := 20) (f := fun s => (n_dk k o s : Int)) rfl (by unfold i_SB; omega) hm1 hk (fun t ht => ⟨hA1 t ht, n_dkr hkk⟩)
  have hm2 : m_c s2 = m := (n_frM hF2 i_SB_s).trans hm1
  have h19' : ∀ d, d < 16 → s2.1 19 d = R d := fun d hd => by
    rw [(hF2 19 (by unfold i_SB; omega)).1, (hF1 19 (by decide)).1]
    exact h19 d hd
  have hAr := n_Ar (f := fun s => (n_dk k o s : Int)) (R := R) (fg := vI m 0 26) (th := vI m 0 27) hk
  rw [if_neg c1, e1, n_bd, e2, n_bd, n_sumBy rfl hk.2.1 (fun c hc => ⟨h19' c hc, (hRi c).2⟩) hB, n_bd, n_AB hk (fun s hs => n_dkr hkk) (fun c hc => (hRi c).2), n_ile (by omega) (by omega)]
  by_cases c2 : n_A m V (fun s => (n_dk k o s : Int)) R (vI m 0 26) (vI m 0 27) n ≤ O
  · rw [if_pos c2, ok_nm, iI_add]
    refine hg _ (by omega) ⟨rfl, hm2, h19', fun o' ho' => ?_⟩
    by_cases e : o' = o
    · rw [e]
      exact c2
    · exact hle o' (by omega)
  · rw [if_neg c2, ok_some, n_bf (fun q => c2 (hst.mp q _ (fun s hs => n_dkk hkk.1)))]
    exact ⟨rfl, hm2⟩
/-! settled, whole -/
theorem n_l7_self {σ s : k_St} {E : Nat → Bool} {v : Nat → Int} {z : Int} {t : Nat} (h : n_l7 σ s E v z t) : n_l7 s s E v z t := ⟨n_Fr.rf, h.2⟩
theorem n_l7_fr {σ s s' : k_St} {E : Nat → Bool} {v : Nat → Int} {z : Int} {t : Nat} {S : Nat → Prop} (h : n_l7 σ s E v z t) (hF : n_Fr S s s') (hS : ¬ S 41) : n_l7 s' s' E v z t := by
  refine ⟨n_Fr.rf, ?_⟩
  rw [(hF 41 hS).1]
  exact h.2
theorem n_e4f {e : Nat} (he : e < 256) : n_e4 (n_f4 e) = e := by
  unfold n_e4 n_f4
  rw [show 4 ^ (3 - 0) = 64 from rfl, show 4 ^ (3 - 1) = 16 from rfl, show 4 ^ (3 - 2) = 4 from rfl, show 4 ^ (3 - 3) = 1 from rfl, Nat.div_one]
  omega
theorem n_f4r {k e : Nat} (hk : 1 ≤ k ∧ k ≤ 4) (he : e < 256) (h : n_sb k e = true) : ∀ s, s < 4 → 0 ≤ n_f4 e s ∧ n_f4 e s < k := fun s hs => by
  rw [n_f4k hk he h s hs]
  exact n_dkk hk.1
set_option maxRecDepth 20000 in
theorem q_s15 : g_s15 z_Inv := by
  intro σX σM hI a0
  obtain ⟨z, hz, rfl⟩ := iI_ex a0
  obtain ⟨x, hx, hR⟩ := z_openX hI
  obtain ⟨hTap, hLak, hNow, hImg, hShf, hSee, hLrn, hLaw, hVal⟩ := id hR
  obtain ⟨l1, l2, l3, l4, l5, l6⟩ := id hLak
  obtain ⟨h1, h2, h3, h4, h5, h6, h7, h8⟩ := id hNow
  obtain ⟨n, hk⟩ := hR.mk
  have b1 := l1.2
  have b2 := l2.2
  have k1 := hk.1
  have hn6 := hk.2.1
  have f2 : k_rd σM 0 21 = iI (vI (m_c σM) 0 21) := n_core_I rfl rfl
  unfold f_X11_settled f_X12_settled
  simp (disch := omega) only [iI_lit, n_lk hx (n_vI l1.1) l1.2, n_bd, f2, n_ib, n_ieq, iI_neg, n_ile]
  by_cases c0 : 0 < vI (m_c σM) 0 21
  rotate_left
  · rw [if_neg c0, if_pos (show vI (m_c σM) 0 21 = 0 by omega)]
    exact ⟨_, _, _, rfl, rfl, hI⟩
  rw [if_pos c0, if_neg (show ¬ vI (m_c σM) 0 21 = 0 by omega)]
  have hn : 0 < n := by omega
  have hk1 := (l4 c0).2.1
  obtain ⟨k, hk22⟩ := Int.eq_ofNat_of_zero_le b2.1
  have hkk : 1 ≤ k ∧ k ≤ 4 := by omega
  have hK := n_K hkk
  obtain ⟨Ek, hEk⟩ : ∃ Ek : Nat → Bool, Ek = fun j => n_stb (m_c σM) (fun p => vI x 14 p) (fun s => (n_dk k j s : Int)) n k := ⟨_, rfl⟩
  obtain ⟨E4, hE4⟩ : ∃ E4 : Nat → Bool, E4 = fun e => n_sb k e && n_stb (m_c σM) (fun p => vI x 14 p) (n_f4 e) n k := ⟨_, rfl⟩
  obtain ⟨vk, hvk⟩ : ∃ vk : Nat → Int, vk = fun j => n_p4 (fun s => (n_dk k j s : Int)) := ⟨_, rfl⟩
  obtain ⟨v4, hv4⟩ : ∃ v4 : Nat → Int, v4 = fun e => n_p4 (n_f4 e) := ⟨_, rfl⟩
  obtain ⟨en1, en2⟩ := n_enum (k := k) (E4 := E4) (Ek := Ek) (v4 := v4) (vk := vk) (z := z) (fun e he => by
    rw [hE4, hEk]
    show (n_sb k e && n_stb (m_c σM) (fun p => vI x 14 p) (n_f4 e) n k) = (n_sb k e && n_stb (m_c σM) (fun p => vI x 14 p) (fun s => (n_dk k (n_rk k e) s : Int)) n k)
    by_cases c : n_sb k e = true
    · rw [n_stb_c hk hn (n_f4k hkk he c)]
    · rw [Bool.eq_false_iff.mpr c, Bool.false_and, Bool.false_and]) (fun e he c => by
    rw [hv4, hvk]
    exact n_p4c (n_f4k hkk he c)) 256 (by omega)
  rw [n_rk256 k (by omega) hkk.1] at en1 en2
  have eli : n_li E4 v4 z 256 = n_li Ek vk z (k * k * k * k) := by
    unfold n_li
    rw [en1, en2]
  obtain ⟨s0, e0, hs0⟩ := n_start7 (σ := σX) (E := E4) (v := v4) (z := z)
  have hx0 : x_c s0 = x := (n_frX hs0.1 (fun c hc k => by rw [hc]; rfl)).trans hx
  rw [e0, n_bd]
  obtain ⟨⟨r, sX⟩, e1, hr, hxX⟩ : k_OK (k_loop (fun (g19 : Int32 × k_St → Option (Int32 × k_St)) (z19 : Int32 × k_St) => match z19 with
      | (v2_19, s_19) =>
        k_if (iI 256 ≤ v2_19)
          (k_bd (f_X7_told s_19) fun v72 =>
          some (v72, s_19))
          (k_bd (f_X11_signsBelow v2_19 (k_rd s_19 12 1)) fun v34 =>
          k_if (v34 = iI 0)
            (k_nm (v2_19 + iI 1) fun y62 =>
            g19 (y62, s_19))
            (k_b2 (f_X0_isSettled v2_19 s_19) fun v45 s45 =>
            k_if (v45 = iI 0)
              (k_nm (v2_19 + iI 1) fun y62 =>
              g19 (y62, s45))
              (k_bd (f_X11_digitsOf v2_19) fun v56 =>
              k_bd (f_X7_add v56 s45) fun s59 =>
              k_nm (v2_19 + iI 1) fun y62 =>
              g19 (y62, s59))))) 100000 (iI 0, s0)) (fun r => r.1 = iI (n_li E4 v4 z 256) ∧ x_c r.2 = x) := by
    refine ok_for 256 (fun e (y : Int32 × k_St) => y.1 = iI e ∧ n_l7 y.2 y.2 E4 v4 z e ∧ x_c y.2 = x) ?_ (by omega) (j := 0) ⟨rfl, n_l7_self hs0, hx0⟩ (by omega)
    rintro g e ⟨q, s⟩ ⟨hq, hs, hxs⟩ he hg
    have hq : q = iI e := hq
    subst hq
    have hs : n_l7 s s E4 v4 z e := hs
    have hxs : x_c s = x := hxs
    show k_OK (k_if _ _ _) _
    rw [n_ile (by omega) (by omega)]
    by_cases c1 : (256 : Int) ≤ e
    · rw [if_pos c1, n_told7 hz hs, n_bd, ok_some, show e = 256 by omega]
      exact ⟨rfl, hxs⟩
    have hE : E4 e = (n_sb k e && n_stb (m_c σM) (fun p => vI x 14 p) (n_f4 e) n k) := by rw [hE4]
    rw [if_neg c1, n_rX hxs rfl l2.1, hk22, n_below4 (by omega) hkk.2, n_bd, n_ib]
    by_cases c2 : n_sb k e = true
    rotate_left
    · rw [if_neg c2, ok_nm, iI_add]
      refine hg _ (by omega) ⟨rfl, n_skip7 hs (fun q => ?_), hxs⟩
      rw [hE, Bool.and_eq_true] at q
      exact c2 q.1
    obtain ⟨⟨r2, s2⟩, e2, hr2, hF2⟩ := n_isSX (σ := s) (k := k) (f := n_f4 e) hxs hk hn hLak hVal h4.1 h5.1 h6.1 hk22 hkk.2 (n_f4r hkk (by omega) c2)
    have hr2 : r2 = iB (n_stb (m_c σM) (fun p => vI x 14 p) (n_f4 e) n k = true) := hr2
    have hF2 : n_Fr (fun c => c = 31 ∨ c = 32) s s2 := hF2
    rw [n_e4f (by omega)] at e2
    have hx2 : x_c s2 = x := (n_frX hF2 (fun c hc k => by rcases hc with rfl | rfl <;> rfl)).trans hxs
    have hs2 : n_l7 s2 s2 E4 v4 z e := n_l7_fr hs hF2 (by decide)
    rw [if_pos c2, e2, n_b2, hr2, n_ib]
    by_cases c3 : n_stb (m_c σM) (fun p => vI x 14 p) (n_f4 e) n k = true
    rotate_left
    · rw [if_neg c3, ok_nm, iI_add]
      refine hg _ (by omega) ⟨rfl, n_skip7 hs2 (fun q => ?_), hx2⟩
      rw [hE, Bool.and_eq_true] at q
      exact c3 q.2
    obtain ⟨s', e3, hs'⟩ := n_add7 hz (by omega) hs2 (show E4 e = true by rw [hE, c2, c3]; rfl)
    rw [if_pos c3, n_digs4 (by omega), n_bd, show n_p4 (n_f4 e) = v4 e by rw [hv4], e3, n_bd, ok_nm, iI_add]
    exact hg _ (by omega) ⟨rfl, n_l7_self hs', (n_frX hs'.1 (fun c hc k => by rw [hc]; rfl)).trans hx2⟩
  have hr : r = iI (n_li E4 v4 z 256) := hr
  have hxX : x_c sX = x := hxX
  by_cases cz : -1 ≤ z
  rotate_left
  · rw [if_neg cz, e1, hr, eli]
    refine ⟨_, _, _, rfl, ?_, z_close hxX rfl hR⟩
    unfold n_li
    rw [if_neg (show ¬ z = -1 by omega), n_pk_no (by omega)]
  rw [if_pos cz, e1, hr, eli]
  suffices hh : k_OK (k_loop (fun (g18 : Int32 × Int32 × k_St → Option (Int32 × k_St)) (z18 : Int32 × Int32 × k_St) => match z18 with
        | (v2_18, v3_18, s_18) =>
          k_if (((((k_rd s_18 0 22) * (k_rd s_18 0 22)) * (k_rd s_18 0 22)) * (k_rd s_18 0 22)) ≤ v3_18)
            (if z = -1 then
              (some (v2_18, s_18))
              else (some (iI (-1), s_18)))
            (k_b2 (f_X12_isSettled v3_18 s_18) fun v43 s43 =>
            k_if (v43 = iI 0)
              (k_nm (v3_18 + iI 1) fun y78 =>
              g18 (v2_18, y78, s43))
              (k_if (v2_18 = iI z)
                (k_bd (f_X12_nth v3_18 (k_rd s43 0 22) 16 s43) fun s64 =>
                k_bd (f_X12_packed 16 s64) fun v71 =>
                some (v71, s64))
                (k_nm (v2_18 + iI 1) fun y75 =>
                k_nm (v3_18 + iI 1) fun y78 =>
                g18 (y75, y78, s43))))) 100000 (iI 0, iI 0, σM)) (fun r => r.1 = iI (n_li Ek vk z (k * k * k * k)) ∧ m_c r.2 = m_c σM) by
    obtain ⟨⟨r2, sM⟩, e3, hr2, hsM⟩ := hh
    have hr2 : r2 = iI (n_li Ek vk z (k * k * k * k)) := hr2
    refine ⟨iI (n_li Ek vk z (k * k * k * k)), sX, sM, rfl, ?_, z_close hxX hsM hR⟩
    rw [← hr2]
    exact e3
  refine ok_for (k * k * k * k) (fun j (y : Int32 × Int32 × k_St) => y.1 = iI (n_cE Ek j : Nat) ∧ y.2.1 = iI j ∧ m_c y.2.2 = m_c σM ∧ (¬ z = -1 → n_pk Ek vk z j = -1)) ?_ (by omega) (j := 0) ⟨rfl, rfl, rfl, fun _ => rfl⟩ (by omega)
  rintro g j ⟨v2, v3, s⟩ ⟨g1, g2, g3, g4⟩ hj hg
  have g1 : v2 = iI (n_cE Ek j : Nat) := g1
  have g2 : v3 = iI j := g2
  have g3 : m_c s = m_c σM := g3
  subst g1
  subst g2
  have hct := n_cE_r Ek j
  show k_OK (k_if _ _ _) _
  have e22 : k_rd s 0 22 = iI (k : Int) := by rw [n_core_I g3 (c := 0) (k := 22) rfl, hk22]
  have eK : iI (k : Int) * iI (k : Int) * iI (k : Int) * iI (k : Int) = iI ((k * k * k * k : Nat) : Int) := by
    simp only [iI_mul, Int.natCast_mul]
  rw [e22, eK, n_ile (by omega) (by omega)]
  by_cases c1 : ((k * k * k * k : Nat) : Int) ≤ j
  · have ej : j = k * k * k * k := by omega
    rw [if_pos c1]
    unfold n_li
    by_cases c2 : z = -1
    · rw [if_pos c2, if_pos c2, ok_some]
      exact ⟨by rw [ej], g3⟩
    · rw [if_neg c2, if_neg c2, ok_some]
      exact ⟨by
        show iI (-1) = _
        rw [← ej, g4 c2], g3⟩
  rw [if_neg c1]
  obtain ⟨⟨u, s'⟩, e4, hu, hms⟩ := n_isSM (σ := s) (j := j) g3 hk hn hk22 hkk (by omega)
  have hu : u = iB (n_stb (m_c σM) (fun p => vI x 14 p) (fun s => (n_dk k j s : Int)) n k = true) := hu
  have hms : m_c s' = m_c σM := hms
  have hEj : Ek j = n_stb (m_c σM) (fun p => vI x 14 p) (fun s => (n_dk k j s : Int)) n k := by rw [hEk]
  rw [← hEj] at hu
  have ec : n_cE Ek (j + 1) = n_cE Ek j + (if Ek j = true then 1 else 0) := rfl
  have ep : n_pk Ek vk z (j + 1) = if Ek j = true ∧ (n_cE Ek j : Int) = z then vk j else n_pk Ek vk z j := rfl
  rw [e4, n_b2, hu, n_ib]
  by_cases c3 : Ek j = true
  rotate_left
  · rw [if_neg c3, ok_nm, iI_add]
    rw [if_neg c3] at ec
    rw [if_neg (fun q => c3 q.1)] at ep
    exact hg _ (by omega) ⟨by rw [ec]; rfl, rfl, hms, fun q => by rw [ep]; exact g4 q⟩
  rw [if_pos c3, n_ieq (by omega) hz]
  rw [if_pos c3] at ec
  by_cases c4 : (n_cE Ek j : Int) = z
  · obtain ⟨s5, e5, hF5, hA5⟩ := n_nth (σ := s') (a := 16) (j := j) rfl hkk (by omega)
    have hm5 : m_c s5 = m_c σM := (n_frM hF5 (fun c hc k => by rw [hc]; rfl)).trans hms
    have e22' : k_rd s' 0 22 = iI (k : Int) := by rw [n_core_I hms (c := 0) (k := 22) rfl, hk22]
    have epk := n_packed (σ := s5) (a := 16) (f := fun s => (n_dk k j s : Int)) rfl hA5
    rw [if_pos c4, e22', e5, n_bd, epk, n_bd, ok_some]
    refine ⟨?_, hm5⟩
    unfold n_li
    rw [if_neg (show ¬ z = -1 by omega), n_pk_st c3 c4 (k * k * k * k) (by omega), hvk]
  · rw [if_neg (fun q => c4 q.2)] at ep
    rw [if_neg c4, ok_nm, ok_nm, iI_add, iI_add]
    exact hg _ (by omega) ⟨by rw [ec]; rfl, rfl, hms, fun q => by rw [ep]; exact g4 q⟩
