/-! the plain cases -/
section N3
variable {α β γ : Type}
theorem n_bd {a : α} {k : α → Option β} : k_bd (some a) k = k a := rfl
theorem n_b2 {a : α} {b : γ} {k : α → γ → Option β} : k_b2 (some (a, b)) k = k a b := rfl
theorem n_nm {a : α} {k : α → Option β} : k_nm a k = k a := rfl
theorem n_jn {a : α} {k : α → Option β} : k_jn a k = k a := rfl
theorem n_ilt {a b : Int} {p q : Option β} [Decidable (iI a < iI b)] (ha : -2147483648 ≤ a ∧ a ≤ 2147483647) (hb : -2147483648 ≤ b ∧ b ≤ 2147483647) : k_if (iI a < iI b) p q = if a < b then p else q := by
  unfold k_if
  by_cases h : a < b
  · rw [if_pos h, if_pos ((iI_lt ha hb).mpr h)]
  · rw [if_neg h, if_neg (fun z => h ((iI_lt ha hb).mp z))]
theorem n_ile {a b : Int} {p q : Option β} [Decidable (iI a ≤ iI b)] (ha : -2147483648 ≤ a ∧ a ≤ 2147483647) (hb : -2147483648 ≤ b ∧ b ≤ 2147483647) : k_if (iI a ≤ iI b) p q = if a ≤ b then p else q := by
  unfold k_if
  by_cases h : a ≤ b
  · rw [if_pos h, if_pos ((iI_le ha hb).mpr h)]
  · rw [if_neg h, if_neg (fun z => h ((iI_le ha hb).mp z))]
theorem n_ieq {a b : Int} {p q : Option β} [Decidable (iI a = iI b)] (ha : -2147483648 ≤ a ∧ a ≤ 2147483647) (hb : -2147483648 ≤ b ∧ b ≤ 2147483647) : k_if (iI a = iI b) p q = if a = b then p else q := by
  unfold k_if
  by_cases h : a = b
  · rw [if_pos h, if_pos ((iI_eq ha hb).mpr h)]
  · rw [if_neg h, if_neg (fun z => h ((iI_eq ha hb).mp z))]
theorem n_gix {a : Int} {n : Nat} {q : Option β} [Decidable (k_ix (iI a) n = true)] (ha : -2147483648 ≤ a ∧ a ≤ 2147483647) (h : 0 ≤ a ∧ a < n) : k_gd (k_ix (iI a) n = true) q = q := by
  unfold k_gd
  rw [if_pos ((iI_ix ha).mpr h)]
theorem n_gdt {p : Prop} [Decidable p] {q : Option β} (h : p) : k_gd p q = q := by
  unfold k_gd
  rw [if_pos h]
end N3
def iB (p : Prop) [Decidable p] : Int32 := iI (if p then 1 else 0)
theorem n_in : f_X12_in = f_X11_within := rfl
theorem n_within {a b c : Int} (ha : -2147483648 ≤ a ∧ a ≤ 2147483647) (hb : -2147483648 ≤ b ∧ b ≤ 2147483647) (hc : -2147483648 ≤ c ∧ c ≤ 2147483647) : f_X11_within (iI a) (iI b) (iI c) = some (iB (b ≤ a ∧ a ≤ c)) := by
  unfold f_X11_within iB
  rw [n_ilt ha hb, n_ilt hc ha]
  by_cases h1 : a < b
  · rw [if_pos h1, if_neg (by omega)]; rfl
  · rw [if_neg h1]
    by_cases h2 : c < a
    · rw [if_pos h2, if_neg (by omega)]; rfl
    · rw [if_neg h2, if_pos (by omega)]; rfl
theorem n_isB {p : Prop} [Decidable p] : o_isB (iB p) = true := by
  unfold iB
  by_cases h : p
  · rw [if_pos h]; rfl
  · rw [if_neg h]; rfl
theorem n_isB2 {x : Int32} (h : x = 0 ∨ x = 1) : o_isB x = true := by
  rcases h with rfl | rfl <;> rfl
/-- a yes or no, asked -/
theorem n_ib {β : Type} {p : Prop} [Decidable p] {a b : Option β} [Decidable (iB p = iI 0)] : k_if (iB p = iI 0) a b = if p then b else a := by
  unfold k_if
  by_cases h : p
  · have e : ¬ (iB p = iI 0) := by
      unfold iB
      rw [if_pos h]
      decide
    rw [if_neg e, if_pos h]
  · have e : iB p = iI 0 := by
      unfold iB
      rw [if_neg h]
    rw [if_pos e, if_neg h]
theorem n_lk {x : k_St} {σ : k_St} {n : Int} (hx : x_c σ = x) (hn : vI x 12 0 = n) (h0 : 0 ≤ n ∧ n ≤ 6) : f_X11_hasLake σ = some (iB (0 < n)) := by
  unfold f_X11_hasLake iB
  rw [n_core_I hx rfl, hn]
  simp (disch := omega) only [iI_lit, n_ile]
  by_cases h : n ≤ 0
  · rw [if_pos h, if_neg (by omega)]
  · rw [if_neg h, if_pos (by omega)]
theorem n_isPX {x : k_St} {σ : k_St} {n z : Int} (hx : x_c σ = x) (hn : vI x 12 0 = n) (h0 : 0 ≤ n ∧ n ≤ 6) (hz : -2147483648 ≤ z ∧ z ≤ 2147483647) : f_X11_isPlace (iI z) σ = some (iB (0 ≤ z ∧ z ≤ n - 1)) := by
  unfold f_X11_isPlace
  rw [n_core_I hx rfl, hn]
  simp (disch := omega) only [iI_lit, iI_sub, n_within, n_bd, n_gdt n_isB]
theorem n_isPM {m : k_St} {σ : k_St} {n z : Int} (hm : m_c σ = m) (hn : vI m 0 21 = n) (h0 : 0 ≤ n ∧ n ≤ 6) (hz : -2147483648 ≤ z ∧ z ≤ 2147483647) : f_X12_isPlace (iI z) σ = some (iB (0 ≤ z ∧ z ≤ n - 1)) := by
  unfold f_X12_isPlace
  rw [n_core_I hm rfl, hn]
  simp (disch := omega) only [iI_lit, iI_sub, n_in, n_within, n_bd, n_gdt n_isB]
/-- the parts of the relation, opened -/
theorem z_open {σX σM : k_St} (hI : z_Inv σX σM) : ∃ x m, x_c σX = x ∧ m_c σM = m ∧ r_all x m := ⟨_, _, rfl, rfl, hI⟩
theorem z_close {σX σM x m : k_St} (hx : x_c σX = x) (hm : m_c σM = m) (h : r_all x m) : z_Inv σX σM := by
  unfold z_Inv
  rw [hx, hm]
  exact h
theorem n_cw {s : Nat → Nat → Bool} {σ τ : k_St} {c k : Nat} {x : Int32} (h : n_core s σ = τ) (hs : s c k = false) : n_core s (k_wr σ c k x) = k_wr τ c k x := by rw [n_core_w0 hs, h]
theorem n_cl {s : Nat → Nat → Bool} {σ τ : k_St} {c k : Nat} {x : Int64} (h : n_core s σ = τ) (hs : s c k = false) : n_core s (k_wl σ c k x) = k_wl τ c k x := by rw [n_core_l0 hs, h]
theorem n_vI {x m : k_St} {c k c' k' : Nat} (h : x.1 c k = m.1 c' k') : vI x c k = vI m c' k' := by
  unfold vI
  rw [h]
/-- a cell of the class, read as the reference's -/
theorem n_rX {σ x m : k_St} {c k c' k' : Nat} (hx : x_c σ = x) (hs : x_scr c k = false) (h : x.1 c k = m.1 c' k') : k_rd σ c k = iI (vI m c' k') := by rw [n_core_I hx hs, n_vI h]
theorem q_s1 : g_s1 z_Inv := by
  intro σX σM hI a0
  obtain ⟨z, hz, rfl⟩ := iI_ex a0
  obtain ⟨x, m, hx, hm, hR⟩ := z_open hI
  obtain ⟨hTap, hLak, hNow, hImg, hShf, hSee, hLrn, hLaw, hVal⟩ := id hR
  have b1 := hTap.1.2
  have f1 := n_rX hx rfl hTap.1.1
  have f2 := n_core_I hm (c := 0) (k := 2) rfl
  unfold f_X11_end f_X12_end
  simp (disch := omega) only [iI_lit, f1, f2, n_within, n_bd, n_ib, n_nm, n_ilt, n_ile]
  by_cases h1 : z < 0
  · rw [if_neg (by omega), if_pos h1]
    exact ⟨_, _, _, rfl, rfl, hI⟩
  · rw [if_neg h1]
    by_cases h2 : z ≤ vI m 0 2
    · rw [if_pos (by omega), if_pos h2]
      refine ⟨_, _, _, rfl, rfl, z_close (n_cw hx rfl) (n_cw hm rfl) ⟨⟨⟨rfl, ?_⟩, fun k hk => ?_⟩, hLak, hNow, hImg, hShf, hSee, hLrn, hLaw, hVal⟩⟩
      · show 0 ≤ (iI z).toInt ∧ (iI z).toInt ≤ 160
        rw [iI_to hz]
        omega
      · have hk : (k : Int) < (iI z).toInt := hk
        rw [iI_to hz] at hk
        exact hTap.2 k (by omega)
    · rw [if_neg (by omega), if_neg h2]
      exact ⟨_, _, _, rfl, rfl, hI⟩
theorem q_s23 : g_s23 z_Inv := by
  intro σX σM hI a0
  obtain ⟨x, m, hx, hm, hR⟩ := z_open hI
  obtain ⟨hTap, hLak, hNow, hImg, hShf, hSee, hLrn, hLaw, hVal⟩ := id hR
  obtain ⟨h1, h2, h3, h4, h5, h6, h7, h8⟩ := hNow
  exact ⟨_, _, _, rfl, rfl, z_close (n_cl hx rfl) (n_cl hm rfl) ⟨hTap, hLak, ⟨h1, h2, rfl, h4, h5, h6, h7, h8⟩, hImg, hShf, hSee, hLrn, hLaw, hVal⟩⟩
theorem q_s27 : g_s27 z_Inv := by
  intro σX σM hI a0
  obtain ⟨z, hz, rfl⟩ := iI_ex a0
  obtain ⟨x, m, hx, hm, hR⟩ := z_open hI
  obtain ⟨hTap, hLak, hNow, hImg, hShf, hSee, hLrn, hLaw, hVal⟩ := id hR
  obtain ⟨h1, h2, h3, h4, h5, h6, h7, h8⟩ := id hNow
  have b1 := hLak.1.2
  have b3 : 0 ≤ vI m 0 23 ∧ vI m 0 23 ≤ 99 := h6.2
  have f1 := n_lk hx (n_vI hLak.1.1) b1
  have f2 := n_core_I hm (c := 0) (k := 21) rfl
  have f3 := n_rX hx rfl h6.1
  have f4 := n_core_I hm (c := 0) (k := 23) rfl
  unfold f_X11_wet f_X12_wet
  simp (disch := omega) only [iI_lit, f1, f2, f3, f4, n_in, n_within, n_bd, n_ib, n_nm, n_ieq]
  by_cases c1 : 0 < vI m 0 21
  · rw [if_pos c1, if_neg (show ¬ vI m 0 21 = 0 by omega)]
    by_cases c2 : 0 ≤ z ∧ z ≤ 99
    · rw [if_pos c2, if_pos c2]
      by_cases c3 : vI m 0 23 = z
      · rw [if_pos c3, if_pos c3.symm]
        exact ⟨_, _, _, rfl, rfl, hI⟩
      · rw [if_neg c3, if_neg (fun q => c3 q.symm)]
        refine ⟨_, _, _, rfl, rfl, z_close (n_cw hx rfl) (n_cw hm rfl) ⟨hTap, hLak, ⟨h1, h2, h3, h4, h5, ⟨rfl, ?_⟩, h7, h8⟩, hImg, hShf, hSee, hLrn, hLaw, hVal⟩⟩
        show 0 ≤ (iI z).toInt ∧ (iI z).toInt ≤ 99
        rw [iI_to hz]
        exact c2
    · rw [if_neg c2, if_neg c2]
      exact ⟨_, _, _, rfl, rfl, hI⟩
  · rw [if_neg c1, if_pos (show vI m 0 21 = 0 by omega)]
    exact ⟨_, _, _, rfl, rfl, hI⟩
