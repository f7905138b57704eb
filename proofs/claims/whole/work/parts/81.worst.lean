/-! worst: there is a settled row, and the least mean of these -/
theorem n_am_max {F : Nat → Int} : ∀ n p, p < n → F p ≤ F (n_am F n)
  | 0, p, h => absurd h (by omega)
  | n + 1, p, h => by
    have e : n_am F (n + 1) = if F n ≤ F (n_am F n) then n_am F n else n := rfl
    rw [e]
    by_cases c : F n ≤ F (n_am F n)
    · rw [if_pos c]
      by_cases q : p = n
      · rw [q]
        exact c
      · exact n_am_max n p (by omega)
    · rw [if_neg c]
      by_cases q : p = n
      · rw [q]
        exact Int.le_refl _
      · have := n_am_max (F := F) n p (by omega)
        omega
theorem n_sum_le {f g : Nat → Int} : ∀ {n : Nat}, (∀ p, p < n → f p ≤ g p) → n_sum f n ≤ n_sum g n
  | 0, _ => Int.le_refl _
  | n + 1, h => by
    have h1 := n_sum_le (n := n) (fun p hp => h p (by omega))
    have h2 := h n (by omega)
    show n_sum f n + f n ≤ n_sum g n + g n
    omega
/-- answers are best -/
theorem n_an_best {m : k_St} {n : Nat} {V g : Nat → Int} {R : Nat → Int32} (hk : n_mk m n V) (hn : 0 < n) (hg : ∀ s, s < 4 → 0 ≤ g s ∧ g s < 4) (hR : ∀ c, c < 16 → 0 ≤ (R c).toInt ∧ (R c).toInt < n) : n_A m V g R (vI m 0 26) (vI m 0 27) n ≤ n_A m V g (n_an m V g n) (vI m 0 26) (vI m 0 27) n := by
  rw [← n_AB hk hg hR, ← n_AB hk hg (fun c hc => (n_an_i hk hn c).2)]
  refine n_sum_le (fun c hc => ?_)
  rw [(n_an_i hk hn c).1, Int.toNat_natCast]
  exact n_am_max n _ (by have := hR c hc; omega)
theorem n_stb_ex {m : k_St} {n k : Nat} {V : Nat → Int} (hk : n_mk m n V) (hn : 0 < n) (hkk : 1 ≤ k ∧ k ≤ 4) : ∃ j, j < k * k * k * k ∧ n_stb m V (fun s => (n_dk k j s : Int)) n k = true := by
  have hK := n_K hkk
  obtain ⟨W, hW⟩ : ∃ W : Nat → Int, W = fun j => n_A m V (fun s => (n_dk k j s : Int)) (n_an m V (fun s => (n_dk k j s : Int)) n) (vI m 0 26) (vI m 0 27) n := ⟨_, rfl⟩
  have hr := n_am_r W (k * k * k * k)
  refine ⟨n_am W (k * k * k * k), by omega, (n_stb_A hk (fun s hs => n_dkk hkk.1)).mpr (fun g hg => ?_)⟩
  obtain ⟨o, ho, hgo⟩ := n_rk_ex hkk hg
  have h1 := n_am_max (F := W) (k * k * k * k) o ho
  rw [n_A_c hk hgo]
  have h2 := n_an_best (g := fun s => (n_dk k o s : Int)) (R := n_an m V (fun s => (n_dk k (n_am W (k * k * k * k)) s : Int)) n) hk hn (fun s hs => n_dkr hkk) (fun c hc => (n_an_i hk hn c).2)
  have e1 : W o = n_A m V (fun s => (n_dk k o s : Int)) (n_an m V (fun s => (n_dk k o s : Int)) n) (vI m 0 26) (vI m 0 27) n := by rw [hW]
  have e2 : ∀ t, W t = n_A m V (fun s => (n_dk k t s : Int)) (n_an m V (fun s => (n_dk k t s : Int)) n) (vI m 0 26) (vI m 0 27) n := fun t => by rw [hW]
  have e3 := e2 (n_am W (k * k * k * k))
  generalize n_am W (k * k * k * k) = J at *
  rw [← e3]
  omega
/-- the least of those -/
def n_mn (E : Nat → Bool) (v : Nat → Int) : Nat → Int
  | 0 => -1
  | t + 1 => if E t = true then (if n_mn E v t = -1 then v t else min (n_mn E v t) (v t)) else n_mn E v t
theorem n_mn_r {E : Nat → Bool} {v : Nat → Int} (h : ∀ t, 0 ≤ v t ∧ v t ≤ 5394600) : ∀ t, (n_mn E v t = -1 ∧ ∀ u, u < t → ¬ E u = true) ∨ (0 ≤ n_mn E v t ∧ n_mn E v t ≤ 5394600)
  | 0 => Or.inl ⟨rfl, fun u hu => absurd hu (by omega)⟩
  | t + 1 => by
    have ih := n_mn_r (E := E) h t
    have hv := h t
    have e : n_mn E v (t + 1) = if E t = true then (if n_mn E v t = -1 then v t else min (n_mn E v t) (v t)) else n_mn E v t := rfl
    rw [e]
    by_cases c : E t = true
    · rw [if_pos c]
      by_cases q : n_mn E v t = -1
      · rw [if_pos q]
        omega
      · rw [if_neg q]
        omega
    · rw [if_neg c]
      rcases ih with ⟨h1, h2⟩ | h1
      · refine Or.inl ⟨h1, fun u hu => ?_⟩
        by_cases q : u = t
        · rw [q]
          exact c
        · exact h2 u (by omega)
      · exact Or.inr h1
theorem n_enumM {k : Nat} {E4 Ek : Nat → Bool} {v4 vk : Nat → Int} (h : ∀ e, e < 256 → E4 e = (n_sb k e && Ek (n_rk k e))) (hv : ∀ e, e < 256 → n_sb k e = true → v4 e = vk (n_rk k e)) : ∀ e, e ≤ 256 → n_mn E4 v4 e = n_mn Ek vk (n_rk k e)
  | 0, _ => rfl
  | e + 1, he => by
    have h1 := n_enumM h hv e (by omega)
    have h3 := h e (by omega)
    have e2 : n_mn E4 v4 (e + 1) = if E4 e = true then (if n_mn E4 v4 e = -1 then v4 e else min (n_mn E4 v4 e) (v4 e)) else n_mn E4 v4 e := rfl
    rw [e2, n_rk_s, h1, h3]
    by_cases c : n_sb k e = true
    · rw [c, Bool.true_and, if_pos rfl, hv e (by omega) c]
      rfl
    · rw [show n_sb k e = false from Bool.eq_false_iff.mpr c, Bool.false_and]
      simp
set_option maxRecDepth 20000 in
theorem q_s16 : g_s16 z_Inv := by
  intro σX σM hI a0
  obtain ⟨z, hz, rfl⟩ := iI_ex a0
  obtain ⟨x, hx, hR⟩ := z_openX hI
  obtain ⟨hTap, hLak, hNow, hImg, hShf, hSee, hLrn, hLaw, hVal⟩ := id hR
  obtain ⟨l1, l2, l3, l4, l5, l6⟩ := id hLak
  obtain ⟨h1, h2, h3, h4, h5, h6, h7, h8⟩ := id hNow
  obtain ⟨n, hk⟩ := hR.mk
  have b1 := l1.2
  have b2 := l2.2
  have k1 := hk.1
  have hn6 := hk.2.1
  have f2 : k_rd σM 0 21 = iI (vI (m_c σM) 0 21) := n_core_I rfl rfl
  unfold f_X11_worst f_X12_worst f_X11_isPart
  simp (disch := omega) only [iI_lit, n_lk hx (n_vI l1.1) l1.2, n_bd, f2, n_ib, n_ieq, iI_neg, n_in, n_within, n_gdt n_isB]
  by_cases c0 : 0 < vI (m_c σM) 0 21
  rotate_left
  · rw [if_neg c0, if_pos (show vI (m_c σM) 0 21 = 0 by omega)]
    exact ⟨_, _, _, rfl, rfl, hI⟩
  rw [if_pos c0, if_neg (show ¬ vI (m_c σM) 0 21 = 0 by omega)]
  by_cases cz : 0 ≤ z ∧ z ≤ 1
  rotate_left
  · rw [if_neg cz, if_neg cz]
    exact ⟨_, _, _, rfl, rfl, hI⟩
  rw [if_pos cz, if_pos cz]
  have hn : 0 < n := by omega
  have hk1 := (l4 c0).2.1
  have hW := (l4 c0).2.2
  rw [k1, Int.toNat_natCast] at hW
  obtain ⟨k, hk22⟩ := Int.eq_ofNat_of_zero_le b2.1
  have hkk : 1 ≤ k ∧ k ≤ 4 := by omega
  have hK := n_K hkk
  obtain ⟨Ek, hEk⟩ : ∃ Ek : Nat → Bool, Ek = fun j => n_stb (m_c σM) (fun p => vI x 14 p) (fun s => (n_dk k j s : Int)) n k := ⟨_, rfl⟩
  obtain ⟨E4, hE4⟩ : ∃ E4 : Nat → Bool, E4 = fun e => n_sb k e && n_stb (m_c σM) (fun p => vI x 14 p) (n_f4 e) n k := ⟨_, rfl⟩
  obtain ⟨vk, hvk⟩ : ∃ vk : Nat → Int, vk = fun j => n_A (m_c σM) (fun p => vI x 14 p) (fun s => (n_dk k j s : Int)) (n_an (m_c σM) (fun p => vI x 14 p) (fun s => (n_dk k j s : Int)) n) (vI (m_c σM) 0 26) (vI (m_c σM) 0 27) n := ⟨_, rfl⟩
  obtain ⟨v4, hv4⟩ : ∃ v4 : Nat → Int, v4 = fun e => n_A (m_c σM) (fun p => vI x 14 p) (n_f4 e) (n_an (m_c σM) (fun p => vI x 14 p) (n_f4 e) n) (vI (m_c σM) 0 26) (vI (m_c σM) 0 27) n := ⟨_, rfl⟩
  have hvkr : ∀ t, 0 ≤ vk t ∧ vk t ≤ 5394600 := fun t => by
    rw [hvk]
    exact n_Ar hk
  have hv4r : ∀ t, 0 ≤ v4 t ∧ v4 t ≤ 5394600 := fun t => by
    rw [hv4]
    exact n_Ar hk
  have en := n_enumM (k := k) (E4 := E4) (Ek := Ek) (v4 := v4) (vk := vk) (fun e he => by
    rw [hE4, hEk]
    show (n_sb k e && n_stb (m_c σM) (fun p => vI x 14 p) (n_f4 e) n k) = (n_sb k e && n_stb (m_c σM) (fun p => vI x 14 p) (fun s => (n_dk k (n_rk k e) s : Int)) n k)
    by_cases c : n_sb k e = true
    · rw [n_stb_c hk hn (n_f4k hkk he c)]
    · rw [Bool.eq_false_iff.mpr c, Bool.false_and, Bool.false_and]) (fun e he c => by
    rw [hv4, hvk]
    show n_A _ _ (n_f4 e) (n_an _ _ (n_f4 e) n) _ _ n = n_A _ _ _ (n_an _ _ (fun s => (n_dk k (n_rk k e) s : Int)) n) _ _ n
    rw [n_an_c hk hn (n_f4k hkk he c), n_A_c hk (n_f4k hkk he c)]) 256 (by omega)
  rw [n_rk256 k (by omega) hkk.1] at en
  have hM : 0 ≤ n_mn Ek vk (k * k * k * k) ∧ n_mn Ek vk (k * k * k * k) ≤ 5394600 := by
    rcases n_mn_r (E := Ek) hvkr (k * k * k * k) with ⟨q1, q2⟩ | q
    · obtain ⟨j, hj, hs⟩ := n_stb_ex (k := k) hk hn hkk
      exact absurd (show Ek j = true by rw [hEk]; exact hs) (q2 j hj)
    · exact q
  obtain ⟨A, hA⟩ := Int.eq_ofNat_of_zero_le hM.1
  have hsr : 0 ≤ m_sW (m_c σM) n ∧ m_sW (m_c σM) n ≤ n * 9 := n_sum_r (f := fun p => vI (m_c σM) 13 (4 * p)) (b := 9) (n := n) (fun p hp => (hk.2.2.2.2 p hp).1.1)
  have eX : ∀ s, x_c s = x → f_X11_plainMean (iL (n_mn E4 v4 256)) (iI z) s = some (iI (n_fr A (100 * m_sW (m_c σM) n).toNat z : Nat)) := fun s hxs => by
    have eW : k_rd s 12 2 = iI (m_sW (m_c σM) n) := by
      rw [n_core_I hxs rfl, l5, k1, Int.toNat_natCast]
    unfold f_X11_plainMean
    rw [en, hA, eW, iI_l (by omega), show (100 : Int64) = iL 100 from rfl, iL_mul, show 100 * m_sW (m_c σM) n = (((100 * m_sW (m_c σM) n).toNat : Nat) : Int) by omega, n_plainX (by omega) (by omega) cz, n_bd, Int.toNat_natCast, iL_i]
  have eM : ∀ s, m_c s = m_c σM → f_X12_plain (iI (n_mn Ek vk (k * k * k * k))) (iI z) s = some (iI (n_fr A (100 * m_sW (m_c σM) n).toNat z : Nat)) := fun s hms => by
    rw [hA, n_plainM hms hk (by omega) hW cz]
  generalize iI (n_fr A (100 * m_sW (m_c σM) n).toNat z : Nat) = Z at *
  have hX : k_OK (k_loop (fun (g23 : Int64 × Int32 × k_St → Option (Int32 × k_St)) (z23 : Int64 × Int32 × k_St) => match z23 with
      | (v2_23, v4_23, s_23) =>
        k_if (iI 256 ≤ v4_23)
          (k_bd (f_X11_plainMean v2_23 (iI z) s_23) fun v107 =>
          some (v107, s_23))
          (k_bd (f_X11_signsBelow v4_23 (k_rd s_23 12 1)) fun v40 =>
          k_if (v40 = iI 0)
            (k_nm (v4_23 + iI 1) fun y98 =>
            g23 (v2_23, y98, s_23))
            (k_b2 (f_X0_isSettled v4_23 s_23) fun v52 s52 =>
            k_if (v52 = iI 0)
              (k_nm (v4_23 + iI 1) fun y98 =>
              g23 (v2_23, y98, s52))
              (k_b2 (f_X0_answerOf v4_23 s52) fun v70 s70 =>
              k_bd (f_X0_above v4_23 v70 s70) fun v73 =>
              k_if ((lg_cmp v2_23 (-1 : Int64)) = iI 0)
                (k_nm (v4_23 + iI 1) fun y98 =>
                g23 (v73, y98, s70))
                (k_nm ((o_lmin v2_23 v73)) fun y97 =>
                k_nm (v4_23 + iI 1) fun y98 =>
                g23 (y97, y98, s70)))))) 100000 ((-1 : Int64), iI 0, σX)) (fun r => r.1 = Z ∧ x_c r.2 = x) := by
    refine ok_for 256 (fun e (y : Int64 × Int32 × k_St) => y.1 = iL (n_mn E4 v4 e) ∧ y.2.1 = iI e ∧ x_c y.2.2 = x) ?_ (by omega) (j := 0) ⟨rfl, rfl, hx⟩ (by omega)
    rintro g e ⟨w, q, s⟩ ⟨hw, hq, hxs⟩ he hg
    have hw : w = iL (n_mn E4 v4 e) := hw
    subst hw
    have hq : q = iI e := hq
    subst hq
    have hxs : x_c s = x := hxs
    have hmr := n_mn_r (E := E4) hv4r e
    have hvr := hv4r e
    show k_OK (k_if _ _ _) _
    rw [n_ile (by omega) (by omega)]
    by_cases c1 : (256 : Int) ≤ e
    · rw [if_pos c1, show e = 256 by omega, eX s hxs, n_bd, ok_some]
      exact ⟨rfl, hxs⟩
    have hE : E4 e = (n_sb k e && n_stb (m_c σM) (fun p => vI x 14 p) (n_f4 e) n k) := by rw [hE4]
    have em : n_mn E4 v4 (e + 1) = if E4 e = true then (if n_mn E4 v4 e = -1 then v4 e else min (n_mn E4 v4 e) (v4 e)) else n_mn E4 v4 e := rfl
    have no : ∀ s', x_c s' = x → ¬ E4 e = true → k_OK (g (iL (n_mn E4 v4 e), iI ((e : Int) + 1), s')) (fun r => r.1 = Z ∧ x_c r.2 = x) := fun s' h q => hg _ (by omega) ⟨by
      show _ = iL (n_mn E4 v4 (e + 1))
      rw [em, if_neg q], rfl, h⟩
    rw [if_neg c1, n_rX hxs rfl l2.1, hk22, n_below4 (by omega) hkk.2, n_bd, n_ib]
    by_cases c2 : n_sb k e = true
    rotate_left
    · rw [if_neg c2, ok_nm, iI_add]
      refine no s hxs (fun q => ?_)
      rw [hE, Bool.and_eq_true] at q
      exact c2 q.1
    obtain ⟨⟨r2, s2⟩, e2, hr2, hF2⟩ := n_isSX (σ := s) (k := k) (f := n_f4 e) hxs hk hn hLak hVal h4.1 h5.1 h6.1 hk22 hkk.2 (n_f4r hkk (by omega) c2)
    have hr2 : r2 = iB (n_stb (m_c σM) (fun p => vI x 14 p) (n_f4 e) n k = true) := hr2
    have hF2 : n_Fr (fun c => c = 31 ∨ c = 32) s s2 := hF2
    rw [n_e4f (by omega)] at e2
    have hx2 : x_c s2 = x := (n_frX hF2 (fun c hc k => by rcases hc with rfl | rfl <;> rfl)).trans hxs
    rw [if_pos c2, e2, n_b2, hr2, n_ib]
    by_cases c3 : n_stb (m_c σM) (fun p => vI x 14 p) (n_f4 e) n k = true
    rotate_left
    · rw [if_neg c3, ok_nm, iI_add]
      refine no s2 hx2 (fun q => ?_)
      rw [hE, Bool.and_eq_true] at q
      exact c3 q.2
    have hEt : E4 e = true := by rw [hE, c2, c3]; rfl
    have hf4 : r_4 (n_f4 e) := fun s hs => by have := n_f4r hkk (show e < 256 by omega) c2 s hs; omega
    obtain ⟨⟨v, s3⟩, e3, hF3, hA3⟩ := n_answerOf hx2 hk hLak hVal h4.1 h5.1 h6.1 hf4
    have hF3 : n_Fr (fun c => c = 31) s2 s3 := hF3
    have hx3 : x_c s3 = x := (n_frX hF3 (fun c hc k => by rw [hc]; rfl)).trans hx2
    have hR3 : r_R n (n_an (m_c σM) (fun p => vI x 14 p) (n_f4 e) n) v := fun c hc => by
      obtain ⟨_, i2, i3⟩ := n_an_i (f := n_f4 e) hk hn c
      exact ⟨hA3 c hc, i2, by omega⟩
    have eA : f_X0_above (iI (e : Int)) v s3 = some (iL (v4 e)) := by
      rw [← n_e4f (show e < 256 by omega)]
      unfold f_X0_above
      rw [n_rX hx3 rfl h4.1, n_rX hx3 rfl h5.1, n_above hx3 hk hLak hVal h6.1 hR3 hf4 (vI_rg _ _ _) (vI_rg _ _ _), n_bd, hv4]
    rw [n_e4f (by omega)] at e3
    rw [if_pos hEt] at em
    rw [if_pos c3, e3, n_b2, eA, n_bd, show (-1 : Int64) = iL (-1) from rfl, n_lc0 (by omega) (by omega)]
    by_cases c4 : n_mn E4 v4 e = -1
    · rw [if_pos c4] at em ⊢
      rw [ok_nm, iI_add]
      exact hg _ (by omega) ⟨by
        show _ = iL (n_mn E4 v4 (e + 1))
        rw [em], rfl, hx3⟩
    · rw [if_neg c4] at em ⊢
      rw [ok_nm, ok_nm, iI_add, iL_min (by omega) (by omega)]
      exact hg _ (by omega) ⟨by
        show _ = iL (n_mn E4 v4 (e + 1))
        rw [em], rfl, hx3⟩
  have hMM : k_OK (k_loop (fun (g22 : Int32 × Int32 × k_St → Option (Int32 × k_St)) (z22 : Int32 × Int32 × k_St) => match z22 with
        | (v2_22, v3_22, s_22) =>
          k_if (((((k_rd s_22 0 22) * (k_rd s_22 0 22)) * (k_rd s_22 0 22)) * (k_rd s_22 0 22)) ≤ v3_22)
            (k_bd (f_X12_plain v2_22 (iI z) s_22) fun v102 =>
            some (v102, s_22))
            (k_b2 (f_X12_isSettled v3_22 s_22) fun v47 s47 =>
            k_if (v47 = iI 0)
              (k_nm (v3_22 + iI 1) fun y93 =>
              g22 (v2_22, y93, s47))
              (k_bd (f_X12_nth v3_22 (k_rd s47 0 22) 16 s47) fun s63 =>
              k_b2 (f_X12_answeredBy 16 s63) fun v71 s71 =>
              k_if (v2_22 = iI (-1))
                (k_nm (v3_22 + iI 1) fun y93 =>
                g22 (v71, y93, s71))
                (k_nm ((o_min v2_22 v71)) fun y92 =>
                k_nm (v3_22 + iI 1) fun y93 =>
                g22 (y92, y93, s71))))) 100000 (iI (-1), iI 0, σM)) (fun r => r.1 = Z ∧ m_c r.2 = m_c σM) := by
    refine ok_for (k * k * k * k) (fun j (y : Int32 × Int32 × k_St) => y.1 = iI (n_mn Ek vk j) ∧ y.2.1 = iI j ∧ m_c y.2.2 = m_c σM) ?_ (by omega) (j := 0) ⟨rfl, rfl, rfl⟩ (by omega)
    rintro g j ⟨v2, v3, s⟩ ⟨g1, g2, g3⟩ hj hg
    have g1 : v2 = iI (n_mn Ek vk j) := g1
    have g2 : v3 = iI j := g2
    have g3 : m_c s = m_c σM := g3
    subst g1
    subst g2
    have hmr := n_mn_r (E := Ek) hvkr j
    have hvr := hvkr j
    show k_OK (k_if _ _ _) _
    have e22 : k_rd s 0 22 = iI (k : Int) := by rw [n_core_I g3 (c := 0) (k := 22) rfl, hk22]
    have eK : iI (k : Int) * iI (k : Int) * iI (k : Int) * iI (k : Int) = iI ((k * k * k * k : Nat) : Int) := by
      simp only [iI_mul, Int.natCast_mul]
    rw [e22, eK, n_ile (by omega) (by omega)]
    by_cases c1 : ((k * k * k * k : Nat) : Int) ≤ j
    · rw [if_pos c1, show j = k * k * k * k by omega, eM s g3, n_bd, ok_some]
      exact ⟨rfl, g3⟩
    obtain ⟨⟨u, s'⟩, e4, hu, hms⟩ := n_isSM (σ := s) (j := j) g3 hk hn hk22 hkk (by omega)
    have hu : u = iB (n_stb (m_c σM) (fun p => vI x 14 p) (fun s => (n_dk k j s : Int)) n k = true) := hu
    have hms : m_c s' = m_c σM := hms
    have hEj : Ek j = n_stb (m_c σM) (fun p => vI x 14 p) (fun s => (n_dk k j s : Int)) n k := by rw [hEk]
    rw [← hEj] at hu
    have em : n_mn Ek vk (j + 1) = if Ek j = true then (if n_mn Ek vk j = -1 then vk j else min (n_mn Ek vk j) (vk j)) else n_mn Ek vk j := rfl
    rw [if_neg c1, e4, n_b2, hu, n_ib]
    by_cases c3 : Ek j = true
    rotate_left
    · rw [if_neg c3] at em ⊢
      rw [ok_nm, iI_add]
      exact hg _ (by omega) ⟨by
        show _ = iI (n_mn Ek vk (j + 1))
        rw [em], rfl, hms⟩
    rw [if_pos c3] at em ⊢
    have e22' : k_rd s' 0 22 = iI (k : Int) := by rw [n_core_I hms (c := 0) (k := 22) rfl, hk22]
    obtain ⟨s5, e5, hF5, hA5⟩ := n_nth (σ := s') (a := 16) (j := j) rfl hkk (by omega)
    have hm5 : m_c s5 = m_c σM := (n_frM hF5 (fun c hc k => by rw [hc]; rfl)).trans hms
    obtain ⟨s6, e6, hm6, hF6, hA6⟩ := n_ansBy (σ := s5) (a := 16) (f := fun s => (n_dk k j s : Int)) rfl (by unfold i_SB; omega) hm5 hk hn (fun t ht => ⟨hA5 t ht, n_dkr hkk⟩)
    have ev : n_A (m_c σM) (fun p => vI x 14 p) (fun s => (n_dk k j s : Int)) (n_an (m_c σM) (fun p => vI x 14 p) (fun s => (n_dk k j s : Int)) n) (vI (m_c σM) 0 26) (vI (m_c σM) 0 27) n = vk j := by rw [hvk]
    rw [ev] at e6
    rw [e22', e5, n_bd, e6, n_b2, n_ieq (by omega) (by omega)]
    by_cases c4 : n_mn Ek vk j = -1
    · rw [if_pos c4] at em ⊢
      rw [ok_nm, iI_add]
      exact hg _ (by omega) ⟨by
        show _ = iI (n_mn Ek vk (j + 1))
        rw [em], rfl, hm6⟩
    · rw [if_neg c4] at em ⊢
      rw [ok_nm, ok_nm, iI_add, iI_min (by omega) (by omega)]
      exact hg _ (by omega) ⟨by
        show _ = iI (n_mn Ek vk (j + 1))
        rw [em], rfl, hm6⟩
  obtain ⟨⟨r1, sX⟩, e1, hr1, hx1⟩ := hX
  obtain ⟨⟨r2, sM⟩, e2, hr2, hm2⟩ := hMM
  have hr1 : r1 = Z := hr1
  have hr2 : r2 = Z := hr2
  subst hr1
  rw [hr2] at e2
  exact ⟨r1, sX, sM, e1, e2, z_close hx1 hm2 hR⟩
