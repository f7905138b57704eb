/-! a law's fault -/
theorem u_law {σ : k_St} {N : Nat} {b : Nat → Int} (hb : t_by b N) (hN : N ≤ 160) (h11 : σ.1 1 1 = iI (N : Int)) (h2 : ∀ j, j < N → σ.1 2 j = iI (b j)) : k_OK (f_X10_faultOf σ) (fun r => x_c r.2 = x_c σ ∧ match t_cls b N 200 0 with
    | .inl e => r.1 = iI (e : Int) ∧ e ≤ N
    | .inr _ => r.1 = iI (-1)) := by
  obtain ⟨s1, e1, h1, k1, k2⟩ := u_load (c0 := 7) (A := 2) (M := 160) (o := 0) (σ := σ) (N := N) (b := b) rfl (by omega) (by omega) hN (fun j hj => by
    rw [Nat.zero_add]
    exact h2 j hj) (by omega)
  have e1 : f_X3_load 7 2 (iI 0) (iI (N : Int)) σ = some s1 := e1
  unfold f_X10_faultOf
  simp only [iI_lit]
  rw [show k_rd σ 1 1 = _ from h11, e1, n_bd, ok_bd]
  refine ok_mono (u_clauses (L := fun j => (s1.1 11 j).toInt) hb h1 (fun j _ => iI_of _)) ?_
  rintro s2 ⟨f2, h3⟩
  rw [show f_X3_faultFound 7 s2 = some (k_rd s2 7 3) from rfl, n_bd, ok_some]
  refine ⟨n_core_fr (fun c k hc => ⟨?_, ?_⟩), ?_⟩
  · have n1 : ¬ (c = 7 ∧ (k = 1 ∨ k = 2 ∨ k = 3 ∨ k = 9 ∨ k = 10)) := fun e => by
      obtain ⟨rfl, rfl | rfl | rfl | rfl | rfl⟩ := e <;> exact Bool.noConfusion (show true = false from hc)
    have n2 : ¬ c = 7 + 1 := fun e => by
      subst e
      exact Bool.noConfusion (show true = false from hc)
    show s2.1 c k = σ.1 c k
    rw [f2.2 c k (by omega), k2 c k (by omega) n2]
  · show s2.2 c k = σ.2 c k
    rw [f2.1, k1]
  · cases hq : t_cls b N 200 0 with
    | inl e =>
      rw [hq] at h3
      obtain ⟨i', h3⟩ := h3
      have hE := h3.2.2.2.1
      exact ⟨h3.2.2.1, by omega⟩
    | inr P =>
      rw [hq] at h3
      obtain ⟨⟨i', h3⟩, -⟩ := h3
      exact h3.2.2.1
/-- the text that lies ready, on both sides -/
theorem n_tap {σX σM x : k_St} (hx : x_c σX = x) (h : r_tap x (m_c σM)) : ∃ (N : Nat) (b : Nat → Int), N ≤ 160 ∧ t_by b N ∧ vI (m_c σM) 0 2 = (N : Int) ∧ (∀ j, b j = vI (m_c σM) 1 j) ∧ σX.1 1 1 = iI (N : Int) ∧ (∀ j, j < N → σX.1 2 j = iI (b j)) ∧ σM.1 0 2 = iI (N : Int) ∧ ∀ j, j < N → σM.1 1 j = iI (b j) := by
  obtain ⟨⟨h1, h2⟩, h3⟩ := h
  have hn : (((vI (m_c σM) 0 2).toNat : Nat) : Int) = vI (m_c σM) 0 2 := by omega
  have e1 : (m_c σM).1 0 2 = iI (vI (m_c σM) 0 2) := iI_of _
  refine ⟨(vI (m_c σM) 0 2).toNat, fun j => vI (m_c σM) 1 j, by omega, fun j hj => (h3 j (by omega)).2, hn.symm, fun _ => rfl, ?_, fun j hj => ?_, ?_, fun j hj => ?_⟩
  · rw [n_core_1 hx rfl, h1, hn]
    exact e1
  · rw [n_core_1 (k := j) hx rfl, (h3 j (by omega)).1]
    exact iI_of _
  · rw [hn]
    exact e1
  · exact (iI_of ((m_c σM).1 1 j))
theorem n_lawF {σX σM : k_St} (hI : z_Inv σX σM) : ∃ e sX sM, f_X10_faultOf σX = some (e, sX) ∧ f_X12_readLaw (iI 4) σM = some (e, sM) ∧ z_Inv sX sM := by
  obtain ⟨x, hx, hR⟩ := z_openX hI
  obtain ⟨N, b, hN, hb, -, -, t1, t2, t3, t4⟩ := n_tap hx hR.1
  obtain ⟨⟨rX, sX⟩, eX, fX, hX⟩ := u_law hb hN t1 t2
  obtain ⟨⟨rM, sM⟩, eM, fM, hM⟩ := v_readLaw (w := 4) hb (by omega) hN t3 t4
  have eM : f_X12_readLaw (iI 4) σM = some (rM, sM) := eM
  have hl := hR.2.2.2.2.2.2.2.1.1.2
  have hr : rX = rM := by
    cases hq : t_cls b N 200 0 with
    | inl e =>
      rw [hq] at hX hM
      exact hX.1.trans hM.1.symm
    | inr P =>
      rw [hq] at hX hM
      exact Eq.trans (show rX = iI (-1) from hX) (show rM = iI (-1) from hM.1).symm
  subst hr
  exact ⟨rX, sX, sM, eX, eM, z_close (fX.trans hx) rfl (hR.slot fM (by omega))⟩
