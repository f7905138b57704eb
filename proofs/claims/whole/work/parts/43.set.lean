/-! set -/
set_option maxRecDepth 20000 in
theorem q_s6 : g_s6 z_Inv := by
  intro σX σM hI a0 a1 h01
  obtain ⟨z, hz, rfl⟩ := iI_ex a0
  obtain ⟨x, m, hx, hm, hR⟩ := z_open hI
  obtain ⟨hTap, hLak, hNow, hImg, hShf, hSee, hLrn, hLaw, hVal⟩ := id hR
  obtain ⟨l1, l2, l3, l4, l5, l6⟩ := id hLak
  obtain ⟨h1, h2, h3, h4, h5, h6, h7, h8⟩ := id hNow
  have b1 := l1.2
  have hb := n_isB2 h01
  have f2 : k_rd σM 0 21 = iI (vI m 0 21) := n_core_I hm rfl
  have x3 : k_rd σX 16 3 = m.1 0 26 := (n_core_1 hx rfl).trans h4.1
  have x4 : k_rd σX 16 4 = m.1 0 27 := (n_core_1 hx rfl).trans h5.1
  have x5 : k_rd σX 0 15 = m.1 0 28 := (n_core_1 hx rfl).trans hLrn.1.1
  have x6 : k_rd σX 0 16 = m.1 0 29 := (n_core_1 hx rfl).trans hLrn.2.1
  have m3 : k_rd σM 0 26 = m.1 0 26 := n_core_1 hm rfl
  have m4 : k_rd σM 0 27 = m.1 0 27 := n_core_1 hm rfl
  have m5 : k_rd σM 0 28 = m.1 0 28 := n_core_1 hm rfl
  have m6 : k_rd σM 0 29 = m.1 0 29 := n_core_1 hm rfl
  have g3 := n_isB2 h4.2
  have g4 := n_isB2 h5.2
  have g5 := n_isB2 hLrn.1.2
  have g6 := n_isB2 hLrn.2.2
  have l2 : ∀ (s : k_St) (b c d : Nat) (v : Int32), b ≠ d → k_rd (k_wr s c b v) c d = k_rd s c d := fun s b c d v h => wr_k (fun q => h q.symm)
  unfold f_X11_set f_X12_set f_X11_flag
  simp (disch := omega) only [iI_lit, n_lk hx (n_vI l1.1) l1.2, n_bd, f2, n_ib, n_in, n_within, n_ieq]
  by_cases c0 : 0 < vI m 0 21
  rotate_left
  · rw [if_neg c0, if_pos (show vI m 0 21 = 0 by omega)]
    exact ⟨_, _, _, rfl, rfl, hI⟩
  rw [if_pos c0, if_neg (show ¬ vI m 0 21 = 0 by omega)]
  by_cases c1 : 0 ≤ z ∧ z ≤ 3
  rotate_left
  · rw [if_neg c1, if_neg c1]
    exact ⟨_, _, _, rfl, rfl, hI⟩
  rw [if_pos c1, if_pos c1]
  rcases (show z = 0 ∨ z = 1 ∨ z = 2 ∨ z = 3 by omega) with rfl | rfl | rfl | rfl
  · simp only [n_jn, n_nm, if_pos, if_neg, Int.reduceEq, ↓reduceIte, x3, x4, x5, x6, m3, m4, m5, m6, n_gdt g3, n_gdt g4, n_gdt g5, n_gdt g6, n_gdt hb, n_bd]
    by_cases c2 : m.1 0 26 = a1
    · rw [n_ift c2, n_ift c2.symm]
      exact ⟨_, _, _, rfl, rfl, hI⟩
    · rw [n_iff c2, n_iff (fun q => c2 q.symm)]
      simp (disch := omega) only [l2, m3, m4, m5, m6, n_gdt g3, n_gdt g4, n_gdt g5, n_gdt g6]
      exact ⟨_, _, _, rfl, rfl, z_close (n_cw hx rfl) (n_cw (n_cw (n_cw (n_cw hm rfl) rfl) rfl) rfl) ⟨hTap, hLak, ⟨h1, h2, h3, ⟨rfl, h01⟩, h5, h6, h7, h8⟩, hImg, hShf, hSee, hLrn, hLaw, hVal⟩⟩
  · simp only [n_jn, n_nm, if_pos, if_neg, Int.reduceEq, ↓reduceIte, x3, x4, x5, x6, m3, m4, m5, m6, n_gdt g3, n_gdt g4, n_gdt g5, n_gdt g6, n_gdt hb, n_bd]
    by_cases c2 : m.1 0 27 = a1
    · rw [n_ift c2, n_ift c2.symm]
      exact ⟨_, _, _, rfl, rfl, hI⟩
    · rw [n_iff c2, n_iff (fun q => c2 q.symm)]
      simp (disch := omega) only [l2, m3, m4, m5, m6, n_gdt g3, n_gdt g4, n_gdt g5, n_gdt g6]
      exact ⟨_, _, _, rfl, rfl, z_close (n_cw hx rfl) (n_cw (n_cw (n_cw (n_cw hm rfl) rfl) rfl) rfl) ⟨hTap, hLak, ⟨h1, h2, h3, h4, ⟨rfl, h01⟩, h6, h7, h8⟩, hImg, hShf, hSee, hLrn, hLaw, hVal⟩⟩
  · simp only [n_jn, n_nm, if_pos, if_neg, Int.reduceEq, ↓reduceIte, x3, x4, x5, x6, m3, m4, m5, m6, n_gdt g3, n_gdt g4, n_gdt g5, n_gdt g6, n_gdt hb, n_bd]
    by_cases c2 : m.1 0 28 = a1
    · rw [n_ift c2, n_ift c2.symm]
      exact ⟨_, _, _, rfl, rfl, hI⟩
    · rw [n_iff c2, n_iff (fun q => c2 q.symm)]
      simp (disch := omega) only [l2, m3, m4, m5, m6, n_gdt g3, n_gdt g4, n_gdt g5, n_gdt g6]
      exact ⟨_, _, _, rfl, rfl, z_close (n_cw hx rfl) (n_cw (n_cw (n_cw (n_cw hm rfl) rfl) rfl) rfl) ⟨hTap, hLak, hNow, hImg, hShf, hSee, ⟨⟨rfl, h01⟩, hLrn.2⟩, hLaw, hVal⟩⟩
  · simp only [n_jn, n_nm, if_pos, if_neg, Int.reduceEq, ↓reduceIte, x3, x4, x5, x6, m3, m4, m5, m6, n_gdt g3, n_gdt g4, n_gdt g5, n_gdt g6, n_gdt hb, n_bd]
    by_cases c2 : m.1 0 29 = a1
    · rw [n_ift c2, n_ift c2.symm]
      exact ⟨_, _, _, rfl, rfl, hI⟩
    · rw [n_iff c2, n_iff (fun q => c2 q.symm)]
      simp (disch := omega) only [l2, m3, m4, m5, m6, n_gdt g3, n_gdt g4, n_gdt g5, n_gdt g6]
      exact ⟨_, _, _, rfl, rfl, z_close (n_cw hx rfl) (n_cw (n_cw (n_cw (n_cw hm rfl) rfl) rfl) rfl) ⟨hTap, hLak, hNow, hImg, hShf, hSee, ⟨hLrn.1, ⟨rfl, h01⟩⟩, hLaw, hVal⟩⟩
