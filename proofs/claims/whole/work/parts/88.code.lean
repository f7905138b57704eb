/-! code, read, spread -/
theorem i_SW_s : ∀ c, i_SW c → ∀ k, x_scr c k = true := fun c hc k => by
  rcases hc with rfl | rfl <;> rfl
set_option maxRecDepth 20000 in
theorem q_s17 : g_s17 z_Inv := by
  intro σX σM hI a0 a1 a2
  obtain ⟨a, ha, rfl⟩ := iI_ex a0
  obtain ⟨b, hb, rfl⟩ := iI_ex a1
  obtain ⟨i, hi, rfl⟩ := iI_ex a2
  obtain ⟨x, hx, hR⟩ := z_openX hI
  unfold f_X11_code
  by_cases c0 : (1 ≤ a ∧ a ≤ 16) ∧ 0 ≤ b ∧ b ≤ 3
  rotate_left
  · have eM : f_X12_code (iI a) (iI b) (iI i) σM = some (iI (-1), σM) := by
      unfold f_X12_code
      simp (disch := omega) only [iI_lit, iI_neg, n_in, n_within, n_bd, n_ib]
      by_cases c : 1 ≤ a ∧ a ≤ 16
      · rw [if_pos c, if_neg (fun q => c0 ⟨c, q⟩)]
      · rw [if_neg c]
    rw [n_makeO ha hb c0, n_b2, eM]
    exact ⟨_, _, _, rfl, rfl, hI⟩
  obtain ⟨m, rfl⟩ := Int.eq_ofNat_of_zero_le (show 0 ≤ a by omega)
  obtain ⟨e, rfl⟩ := Int.eq_ofNat_of_zero_le (show 0 ≤ b by omega)
  obtain ⟨⟨r, sX⟩, e1, hF1, h1⟩ := n_make (σ := σX) (m := m) (e := e) (by omega) (by omega)
  have hF1 : n_Fr i_SW σX sX := hF1
  have hxX : x_c sX = x := (n_frX hF1 i_SW_s).trans hx
  have h1 : (r = iI 1 ∧ ∃ n, n_lw m e n ∧ sX.1 39 0 = iI n ∧ sX.1 39 1 = iI m ∧ ∀ k, k < m → sX.1 40 k = iI ((n_wp e (2 ^ n)).2 k : Nat)) ∨ (r = iI 0 ∧ n_nw m e) := h1
  rw [e1, n_b2]
  simp only [iI_lit, iI_neg]
  by_cases c1 : -1 ≤ i ∧ i ≤ (m : Int) - 1
  rotate_left
  · have eM : f_X12_code (iI (m : Int)) (iI (e : Int)) (iI i) σM = some (iI (-1), σM) := by
      unfold f_X12_code
      simp (disch := omega) only [iI_lit, iI_neg, iI_sub, n_in, n_within, n_bd, n_ib]
      rw [if_pos c0.1, if_pos c0.2, if_neg c1]
    rw [eM]
    rcases h1 with ⟨rfl, n, hn, p0, p1, p2⟩ | ⟨rfl, hn⟩
    · rw [n_iff n_10, n_ieq (by omega) (by omega), if_neg (by omega)]
      have ew : f_X9_wordAt (iI i) sX = some (iI (-1)) := by
        unfold f_X9_wordAt
        rw [show k_rd sX 39 1 = _ from p1]
        simp (disch := omega) only [iI_lit, iI_neg, iI_sub, n_within, n_bd, n_ib]
        rw [if_neg (by omega)]
      rw [ew, n_bd]
      exact ⟨_, _, _, rfl, rfl, z_close hxX rfl hR⟩
    · rw [n_ift rfl]
      exact ⟨_, _, _, rfl, rfl, z_close hxX rfl hR⟩
  obtain ⟨⟨r2, sM⟩, e2, hF2, h2⟩ := n_codeM (σ := σM) (m := m) (e := e) (i := i) (by omega) (by omega) c1
  have hF2 : n_Fr (fun c => c = 21) σM sM := hF2
  have hmM : m_c sM = m_c σM := n_frM hF2 (fun c hc k => by rw [hc]; rfl)
  have h2 : (∃ n, n_lw m e n ∧ r2 = iI (if i = -1 then (n : Int) else ((n_wp e (2 ^ n)).2 i.toNat : Nat)) ∧ ∀ k, k < m → sM.1 21 k = iI ((n_wp e (2 ^ n)).2 k : Nat)) ∨ (r2 = iI (-1) ∧ n_nw m e) := h2
  rw [e2]
  rcases h1 with ⟨rfl, n, hn, p0, p1, p2⟩ | ⟨rfl, hn⟩
  · rcases h2 with ⟨n', hn', rfl, q2⟩ | ⟨rfl, hn'⟩
    · have en := n_lw_u hn hn'
      subst en
      rw [n_iff n_10, n_ieq (by omega) (by omega)]
      by_cases c2 : i = -1
      · rw [if_pos c2, if_pos c2, show k_rd sX 39 0 = _ from p0]
        exact ⟨_, _, _, rfl, rfl, z_close hxX hmM hR⟩
      · have ew : f_X9_wordAt (iI i) sX = some (iI ((n_wp e (2 ^ n)).2 i.toNat : Nat)) := by
          unfold f_X9_wordAt
          rw [show k_rd sX 39 1 = _ from p1]
          simp (disch := omega) only [iI_lit, iI_neg, iI_sub, n_within, n_bd, n_ib]
          rw [if_pos (by omega), n_gix (by omega) (by omega), iI_cl (by omega)]
          exact congrArg some (p2 i.toNat (by omega))
        rw [if_neg c2, if_neg c2, ew, n_bd]
        exact ⟨_, _, _, rfl, rfl, z_close hxX hmM hR⟩
    · exact False.elim (n_lw_n hn hn')
  · rcases h2 with ⟨n', hn', rfl, q2⟩ | ⟨rfl, hn'⟩
    · exact False.elim (n_lw_n hn' hn)
    · rw [n_ift rfl]
      exact ⟨_, _, _, rfl, rfl, z_close hxX hmM hR⟩
/-- the fold of read -/
def n_rf (f : Nat → Nat) : Nat → Int × Int
  | 0 => (9, -1)
  | k + 1 => if (n_rf f k).1 ≤ f k then (if (f k : Int) = (n_rf f k).1 then ((n_rf f k).1, -1) else n_rf f k) else ((f k : Int), (k : Int))
theorem n_rf_r {f : Nat → Nat} (h : ∀ k, f k ≤ 8) : ∀ k, (0 ≤ (n_rf f k).1 ∧ (n_rf f k).1 ≤ 9) ∧ -1 ≤ (n_rf f k).2 ∧ (n_rf f k).2 ≤ k
  | 0 => by
    show (0 ≤ (9 : Int) ∧ (9 : Int) ≤ 9) ∧ -1 ≤ (-1 : Int) ∧ (-1 : Int) ≤ ((0 : Nat) : Int)
    omega
  | k + 1 => by
    have ih := n_rf_r h k
    have hk := h k
    have e : n_rf f (k + 1) = if (n_rf f k).1 ≤ f k then (if (f k : Int) = (n_rf f k).1 then ((n_rf f k).1, -1) else n_rf f k) else ((f k : Int), (k : Int)) := rfl
    rw [e]
    by_cases c : (n_rf f k).1 ≤ f k
    · rw [if_pos c]
      by_cases c2 : (f k : Int) = (n_rf f k).1
      · rw [if_pos c2]
        exact ⟨ih.1, by show -1 ≤ (-1 : Int) ∧ (-1 : Int) ≤ ((k + 1 : Nat) : Int); omega⟩
      · rw [if_neg c2]
        omega
    · rw [if_neg c]
      show (0 ≤ (f k : Int) ∧ (f k : Int) ≤ 9) ∧ -1 ≤ (k : Int) ∧ (k : Int) ≤ ((k + 1 : Nat) : Int)
      omega
set_option maxRecDepth 20000 in
theorem q_s39 : g_s39 z_Inv := by
  intro σX σM hI a0 a1 a2
  obtain ⟨a, ha, rfl⟩ := iI_ex a0
  obtain ⟨b, hb, rfl⟩ := iI_ex a1
  obtain ⟨i, hi, rfl⟩ := iI_ex a2
  obtain ⟨x, hx, hR⟩ := z_openX hI
  unfold f_X11_read f_X12_read
  by_cases c0 : (1 ≤ a ∧ a ≤ 16) ∧ 0 ≤ b ∧ b ≤ 3
  rotate_left
  · have eM : f_X12_code (iI a) (iI b) (-1) σM = some (iI (-1), σM) := by
      unfold f_X12_code
      simp (disch := omega) only [iI_lit, iI_neg, n_in, n_within, n_bd, n_ib]
      by_cases c : 1 ≤ a ∧ a ≤ 16
      · rw [if_pos c, if_neg (fun q => c0 ⟨c, q⟩)]
      · rw [if_neg c]
    rw [n_makeO ha hb c0, n_b2, eM, n_b2]
    exact ⟨_, _, _, rfl, rfl, hI⟩
  obtain ⟨m, rfl⟩ := Int.eq_ofNat_of_zero_le (show 0 ≤ a by omega)
  obtain ⟨e, rfl⟩ := Int.eq_ofNat_of_zero_le (show 0 ≤ b by omega)
  obtain ⟨⟨r, sX⟩, e1, hF1, h1⟩ := n_make (σ := σX) (m := m) (e := e) (by omega) (by omega)
  have hF1 : n_Fr i_SW σX sX := hF1
  have hxX : x_c sX = x := (n_frX hF1 i_SW_s).trans hx
  have h1 : (r = iI 1 ∧ ∃ n, n_lw m e n ∧ sX.1 39 0 = iI n ∧ sX.1 39 1 = iI m ∧ ∀ k, k < m → sX.1 40 k = iI ((n_wp e (2 ^ n)).2 k : Nat)) ∨ (r = iI 0 ∧ n_nw m e) := h1
  obtain ⟨⟨r2, sM⟩, e2, hF2, h2⟩ := n_codeM (σ := σM) (m := m) (e := e) (i := -1) (by omega) (by omega) (by omega)
  have hF2 : n_Fr (fun c => c = 21) σM sM := hF2
  have hmM : m_c sM = m_c σM := n_frM hF2 (fun c hc k => by rw [hc]; rfl)
  have h2 : (∃ n, n_lw m e n ∧ r2 = iI (if (-1 : Int) = -1 then (n : Int) else ((n_wp e (2 ^ n)).2 (-1 : Int).toNat : Nat)) ∧ ∀ k, k < m → sM.1 21 k = iI ((n_wp e (2 ^ n)).2 k : Nat)) ∨ (r2 = iI (-1) ∧ n_nw m e) := h2
  rw [e1, n_b2, show (-1 : Int32) = iI (-1) from rfl, e2, n_b2]
  simp only [iI_lit]
  rcases h1 with ⟨rfl, n, hn, p0, p1, p2⟩ | ⟨rfl, hn⟩
  rotate_left
  · rcases h2 with ⟨n', hn', rfl, q2⟩ | ⟨rfl, hn'⟩
    · exact False.elim (n_lw_n hn' hn)
    · rw [n_ift rfl, n_ift rfl]
      exact ⟨_, _, _, rfl, rfl, z_close hxX hmM hR⟩
  rcases h2 with ⟨n', hn', rfl, q2⟩ | ⟨rfl, hn'⟩
  rotate_left
  · exact False.elim (n_lw_n hn hn')
  have en := n_lw_u hn hn'
  subst en
  have hn8 := hn.1.2
  have hp := n_p256 hn8
  have hcm := hn.2.1
  have hwr := n_wp_r e (2 ^ n)
  rw [if_pos rfl, n_iff n_10, n_ieq (by omega) (by omega), if_neg (by omega)]
  unfold f_X9_meaningOf
  rw [show k_rd sX 39 0 = _ from p0, show k_rd sX 39 1 = _ from p1]
  simp only [iI_lit, iI_neg]
  rw [n_shl hn8]
  simp (disch := omega) only [iI_sub, n_in, n_within, n_bd, n_ib]
  by_cases c1 : 0 ≤ i ∧ i ≤ ((2 ^ n : Nat) : Int) - 1
  rotate_left
  · rw [if_neg c1, if_neg c1, n_bd]
    exact ⟨_, _, _, rfl, rfl, z_close hxX hmM hR⟩
  rw [if_pos c1, if_pos c1]
  obtain ⟨w, rfl⟩ := Int.eq_ofNat_of_zero_le c1.1
  obtain ⟨f, hf⟩ : ∃ f : Nat → Nat, f = fun k => n_pc ((n_wp e (2 ^ n)).2 k ^^^ w) := ⟨_, rfl⟩
  have hf8 : ∀ k, f k ≤ 8 := fun k => by
    rw [hf]
    exact n_pc_r _
  have hfb : ∀ k, k < m → f_J6_bitCount_0f7a4 (iI ((n_wp e (2 ^ n)).2 k : Nat) ^^^ iI (w : Int)) = some (iI (f k : Nat)) := fun k hk => by
    have := hwr.2 k (by omega)
    rw [n_bits (by omega) (by omega), hf]
  have hrr := n_rf_r hf8
  have eX : ∀ k, n_rf f (k + 1) = if (n_rf f k).1 ≤ f k then (if (f k : Int) = (n_rf f k).1 then ((n_rf f k).1, -1) else n_rf f k) else ((f k : Int), (k : Int)) := fun k => rfl
  have hX : k_OK (k_loop (fun (g26 : Int32 × Int32 × Int32 → Option (Int32)) (z26 : Int32 × Int32 × Int32) => match z26 with
      | (v2_26, v3_26, v4_26) =>
        k_if (iI (m : Int) ≤ v4_26)
          (some v3_26)
          (k_gd (k_ix v4_26 16 = true) <|
          k_bd (f_J6_bitCount_0f7a4 ((k_rd sX 40 v4_26.toNatClampNeg) ^^^ iI (w : Int))) fun v44 =>
          k_if (v2_26 ≤ v44)
            (k_if (v44 = v2_26)
              (k_nm (v4_26 + iI 1) fun y72 =>
              g26 (v2_26, iI (-1), y72))
              (k_nm (v4_26 + iI 1) fun y72 =>
              g26 (v2_26, v3_26, y72)))
            (k_nm (v4_26 + iI 1) fun y72 =>
            g26 (v44, v4_26, y72)))) 100000 (iI 9, iI (-1), iI 0)) (fun r => r = iI (n_rf f m).2) := by
    refine ok_for m (fun k (y : Int32 × Int32 × Int32) => y = (iI (n_rf f k).1, iI (n_rf f k).2, iI k)) ?_ (by omega) (j := 0) rfl (by omega)
    rintro g k _ rfl hk hg
    have h9 := hrr k
    have hf9 := hf8 k
    show k_OK (k_if _ _ _) _
    rw [n_ile (by omega) (by omega)]
    by_cases c : (m : Int) ≤ k
    · rw [if_pos c, ok_some, show k = m by omega]
    rw [if_neg c, n_gix (by omega) (by omega), iI_cl (by omega), Int.toNat_natCast, show k_rd sX 40 k = _ from p2 k (by omega), hfb k (by omega), n_bd, n_ile (by omega) (by omega)]
    by_cases c2 : (n_rf f k).1 ≤ f k
    · rw [if_pos c2, n_ieq (by omega) (by omega)]
      by_cases c3 : (f k : Int) = (n_rf f k).1
      · rw [if_pos c3, ok_nm, iI_add]
        exact hg _ (by omega) (by rw [eX, if_pos c2, if_pos c3]; rfl)
      · rw [if_neg c3, ok_nm, iI_add]
        exact hg _ (by omega) (by rw [eX, if_pos c2, if_neg c3]; rfl)
    · rw [if_neg c2, ok_nm, iI_add]
      exact hg _ (by omega) (by rw [eX, if_neg c2]; rfl)
  obtain ⟨rr, e3, hrr3⟩ := hX
  refine ⟨iI (n_rf f m).2, sX, sM, ?_, ?_, z_close hxX hmM hR⟩
  · rw [← hrr3]
    rw [e3, n_bd]
  · refine ok_eq.mp (ok_for m (fun k (y : Int32 × Int32 × Int32) => y = (iI (n_rf f k).2, iI (n_rf f k).1, iI k)) ?_ (by omega) (j := 0) rfl (by omega))
    rintro g k _ rfl hk hg
    have h9 := hrr k
    have hf9 := hf8 k
    show k_OK (k_if _ _ _) _
    rw [n_ile (by omega) (by omega)]
    by_cases c : (m : Int) ≤ k
    · rw [if_pos c, ok_some, show k = m by omega]
    rw [if_neg c, n_gix (by omega) (by omega), iI_cl (by omega), Int.toNat_natCast, show k_rd sM 21 k = _ from q2 k (by omega), hfb k (by omega), n_bd, n_jn, n_ile (by omega) (by omega), iI_min (by omega) (by omega)]
    by_cases c2 : (n_rf f k).1 ≤ f k
    · rw [if_pos c2, n_ieq (by omega) (by omega)]
      by_cases c3 : (f k : Int) = (n_rf f k).1
      · rw [if_pos c3, ok_nm, ok_nm, iI_add]
        exact hg _ (by omega) (by
          rw [eX, if_pos c2, if_pos c3, show min (n_rf f k).1 (f k : Int) = (n_rf f k).1 by omega]
          rfl)
      · rw [if_neg c3, ok_nm, ok_nm, iI_add]
        exact hg _ (by omega) (by
          rw [eX, if_pos c2, if_neg c3, show min (n_rf f k).1 (f k : Int) = (n_rf f k).1 by omega]
          rfl)
    · rw [if_neg c2, ok_nm, ok_nm, iI_add]
      exact hg _ (by omega) (by
        rw [eX, if_neg c2, show min (n_rf f k).1 (f k : Int) = (f k : Int) by omega]
        rfl)
/-- the fold of spread -/
def n_sp1 (F : Nat → Nat → Nat) (a : Nat) (v : Int) : Nat → Int
  | 0 => v
  | b + 1 => min (n_sp1 F a v b) (F a b)
def n_sp2 (F : Nat → Nat → Nat) : Nat → Int
  | 0 => 9
  | a + 1 => n_sp1 F a (n_sp2 F a) a
theorem n_sp1_r {F : Nat → Nat → Nat} {a : Nat} {v : Int} (hv : 0 ≤ v ∧ v ≤ 9) : ∀ b, 0 ≤ n_sp1 F a v b ∧ n_sp1 F a v b ≤ 9
  | 0 => hv
  | b + 1 => by
    have := n_sp1_r (F := F) (a := a) hv b
    show 0 ≤ min (n_sp1 F a v b) (F a b : Int) ∧ min (n_sp1 F a v b) (F a b : Int) ≤ 9
    omega
theorem n_sp2_r (F : Nat → Nat → Nat) : ∀ a, 0 ≤ n_sp2 F a ∧ n_sp2 F a ≤ 9
  | 0 => by
    show 0 ≤ (9 : Int) ∧ (9 : Int) ≤ 9
    omega
  | a + 1 => n_sp1_r (n_sp2_r F a) a
set_option maxRecDepth 20000 in
theorem q_s40 : g_s40 z_Inv := by
  intro σX σM hI a0 a1
  obtain ⟨a, ha, rfl⟩ := iI_ex a0
  obtain ⟨b, hb, rfl⟩ := iI_ex a1
  obtain ⟨x, hx, hR⟩ := z_openX hI
  unfold f_X11_spread f_X12_spread
  simp (disch := omega) only [iI_lit, iI_neg, n_ilt]
  by_cases c0 : (1 ≤ a ∧ a ≤ 16) ∧ 0 ≤ b ∧ b ≤ 3
  rotate_left
  · have eM : f_X12_code (iI a) (iI b) (iI (-1)) σM = some (iI (-1), σM) := by
      unfold f_X12_code
      simp (disch := omega) only [iI_lit, iI_neg, n_in, n_within, n_bd, n_ib]
      by_cases c : 1 ≤ a ∧ a ≤ 16
      · rw [if_pos c, if_neg (fun q => c0 ⟨c, q⟩)]
      · rw [if_neg c]
    rw [n_makeO ha hb c0, n_b2, n_ift rfl, eM, n_b2, n_ift rfl]
    refine ⟨_, _, _, rfl, ?_, hI⟩
    split <;> rfl
  obtain ⟨m, rfl⟩ := Int.eq_ofNat_of_zero_le (show 0 ≤ a by omega)
  obtain ⟨e, rfl⟩ := Int.eq_ofNat_of_zero_le (show 0 ≤ b by omega)
  obtain ⟨⟨r, sX⟩, e1, hF1, h1⟩ := n_make (σ := σX) (m := m) (e := e) (by omega) (by omega)
  have hF1 : n_Fr i_SW σX sX := hF1
  have hxX : x_c sX = x := (n_frX hF1 i_SW_s).trans hx
  have h1 : (r = iI 1 ∧ ∃ n, n_lw m e n ∧ sX.1 39 0 = iI n ∧ sX.1 39 1 = iI m ∧ ∀ k, k < m → sX.1 40 k = iI ((n_wp e (2 ^ n)).2 k : Nat)) ∨ (r = iI 0 ∧ n_nw m e) := h1
  rw [e1, n_b2]
  -- what the class tells of words
  have eL : ∀ n, n_lw m e n → sX.1 39 1 = iI m → (∀ k, k < m → sX.1 40 k = iI ((n_wp e (2 ^ n)).2 k : Nat)) → f_X9_leastApart sX = some (iI (if m < 2 then -1 else n_sp2 (fun a b => n_pc ((n_wp e (2 ^ n)).2 a ^^^ (n_wp e (2 ^ n)).2 b)) m)) := fun n hn p1 p2 => by
    have hp := n_p256 hn.1.2
    have hwr := n_wp_r e (2 ^ n)
    have hcm := hn.2.1
    obtain ⟨F, hF⟩ : ∃ F : Nat → Nat → Nat, F = fun a b => n_pc ((n_wp e (2 ^ n)).2 a ^^^ (n_wp e (2 ^ n)).2 b) := ⟨_, rfl⟩
    rw [← hF]
    have hFb : ∀ a b, a < m → b < m → f_J6_bitCount_0f7a4 (iI ((n_wp e (2 ^ n)).2 a : Nat) ^^^ iI ((n_wp e (2 ^ n)).2 b : Nat)) = some (iI (F a b : Nat)) := fun a b ha hb => by
      have h1 := hwr.2 a (by omega)
      have h2 := hwr.2 b (by omega)
      rw [n_bits (by omega) (by omega), hF]
    have hF8 : ∀ a b, F a b ≤ 8 := fun a b => by
      rw [hF]
      exact n_pc_r _
    unfold f_X9_leastApart
    simp only [iI_lit, iI_neg]
    refine ok_eq.mp (ok_for m (fun a (y : Int32 × Int32) => 1 ≤ a ∧ y = (iI (n_sp2 F a), iI a)) ?_ (by omega) (j := 1) ⟨by omega, rfl⟩ (by omega))
    rintro g a _ ⟨ha1, rfl⟩ ha hg
    have hr2 := n_sp2_r F a
    show k_OK (k_if _ _ _) _
    rw [show k_rd sX 39 1 = _ from p1, n_ile (by omega) (by omega)]
    by_cases c : (m : Int) ≤ a
    · rw [if_pos c, n_ile (by omega) (by omega)]
      by_cases c2 : m < 2
      · rw [if_pos c2, if_neg (by omega), ok_some]
      · rw [if_neg c2, if_pos (by omega), ok_some, show a = m by omega]
    rw [if_neg c]
    refine ok_for a (fun b (y : Int32 × Int32) => y = (iI (n_sp1 F a (n_sp2 F a) b), iI b)) ?_ (by omega) (j := 0) rfl (by omega)
    rintro g2 b _ rfl hb hg2
    have hr1 := n_sp1_r (F := F) (a := a) hr2 b
    have hab := hF8 a b
    show k_OK (k_if _ _ _) _
    rw [n_ile (by omega) (by omega)]
    by_cases c2 : (a : Int) ≤ b
    · rw [if_pos c2, ok_nm, iI_add, show b = a by omega]
      exact hg _ (by omega) ⟨by omega, rfl⟩
    rw [if_neg c2, n_gix (by omega) (by omega), n_gix (by omega) (by omega), iI_cl (by omega), iI_cl (by omega), Int.toNat_natCast, Int.toNat_natCast, show k_rd sX 40 a = _ from p2 a (by omega), show k_rd sX 40 b = _ from p2 b (by omega), hFb a b (by omega) (by omega), n_bd, iI_min (by omega) (by omega), ok_nm, ok_nm, iI_add]
    exact hg2 _ (by omega) rfl
  by_cases c2 : (m : Int) < 2
  · rw [if_pos c2]
    rcases h1 with ⟨rfl, n, hn, p0, p1, p2⟩ | ⟨rfl, hn⟩
    · rw [n_iff n_10, eL n hn p1 p2, n_bd, if_pos (by omega)]
      exact ⟨_, _, _, rfl, rfl, z_close hxX rfl hR⟩
    · rw [n_ift rfl]
      exact ⟨_, _, _, rfl, rfl, z_close hxX rfl hR⟩
  rw [if_neg c2]
  obtain ⟨⟨r2, sM⟩, e2, hF2, h2⟩ := n_codeM (σ := σM) (m := m) (e := e) (i := -1) (by omega) (by omega) (by omega)
  have hF2 : n_Fr (fun c => c = 21) σM sM := hF2
  have hmM : m_c sM = m_c σM := n_frM hF2 (fun c hc k => by rw [hc]; rfl)
  have h2 : (∃ n, n_lw m e n ∧ r2 = iI (if (-1 : Int) = -1 then (n : Int) else ((n_wp e (2 ^ n)).2 (-1 : Int).toNat : Nat)) ∧ ∀ k, k < m → sM.1 21 k = iI ((n_wp e (2 ^ n)).2 k : Nat)) ∨ (r2 = iI (-1) ∧ n_nw m e) := h2
  rw [e2, n_b2]
  rcases h1 with ⟨rfl, n, hn, p0, p1, p2⟩ | ⟨rfl, hn⟩
  rotate_left
  · rcases h2 with ⟨n', hn', rfl, q2⟩ | ⟨rfl, hn'⟩
    · exact False.elim (n_lw_n hn' hn)
    · rw [n_ift rfl, n_ift rfl]
      exact ⟨_, _, _, rfl, rfl, z_close hxX hmM hR⟩
  rcases h2 with ⟨n', hn', rfl, q2⟩ | ⟨rfl, hn'⟩
  rotate_left
  · exact False.elim (n_lw_n hn hn')
  have en := n_lw_u hn hn'
  subst en
  have hn8 := hn.1.2
  rw [if_pos rfl, n_iff n_10, n_ieq (by omega) (by omega), if_neg (by omega), eL n hn p1 p2, n_bd, if_neg (by omega)]
  have hp := n_p256 hn8
  have hcm := hn.2.1
  have hwr := n_wp_r e (2 ^ n)
  obtain ⟨F, hF⟩ : ∃ F : Nat → Nat → Nat, F = fun a b => n_pc ((n_wp e (2 ^ n)).2 a ^^^ (n_wp e (2 ^ n)).2 b) := ⟨_, rfl⟩
  rw [← hF]
  have hFb : ∀ a b, a < m → b < m → f_J6_bitCount_0f7a4 (iI ((n_wp e (2 ^ n)).2 a : Nat) ^^^ iI ((n_wp e (2 ^ n)).2 b : Nat)) = some (iI (F a b : Nat)) := fun a b ha hb => by
    have h1 := hwr.2 a (by omega)
    have h2 := hwr.2 b (by omega)
    rw [n_bits (by omega) (by omega), hF]
  have hF8 : ∀ a b, F a b ≤ 8 := fun a b => by
    rw [hF]
    exact n_pc_r _
  refine ⟨iI (n_sp2 F m), sX, sM, rfl, ?_, z_close hxX hmM hR⟩
  refine ok_eq.mp (ok_for m (fun a (y : Int32 × Int32) => y = (iI (n_sp2 F a), iI a)) ?_ (by omega) (j := 0) rfl (by omega))
  rintro g a _ rfl ha hg
  have hr2 := n_sp2_r F a
  show k_OK (k_if _ _ _) _
  rw [n_ile (by omega) (by omega)]
  by_cases c : (m : Int) ≤ a
  · rw [if_pos c, ok_some, show a = m by omega]
  rw [if_neg c]
  refine ok_for a (fun b (y : Int32 × Int32) => y = (iI (n_sp1 F a (n_sp2 F a) b), iI b)) ?_ (by omega) (j := 0) rfl (by omega)
  rintro g2 b _ rfl hb hg2
  have hr1 := n_sp1_r (F := F) (a := a) hr2 b
  have hab := hF8 a b
  show k_OK (k_if _ _ _) _
  rw [n_ile (by omega) (by omega)]
  by_cases c2 : (a : Int) ≤ b
  · rw [if_pos c2, ok_nm, iI_add, show b = a by omega]
    exact hg _ (by omega) rfl
  rw [if_neg c2, n_gix (by omega) (by omega), n_gix (by omega) (by omega), iI_cl (by omega), iI_cl (by omega), Int.toNat_natCast, Int.toNat_natCast, show k_rd sM 21 a = _ from q2 a (by omega), show k_rd sM 21 b = _ from q2 b (by omega), hFb a b (by omega) (by omega), n_bd, iI_min (by omega) (by omega), ok_nm, ok_nm, iI_add]
  exact hg2 _ (by omega) rfl
