/-! a day: draws and places -/
theorem n_lush (D : Int64) : ∃ u : Nat, u < 2147483648 ∧ o_lushr D 33 = iL u := by
  obtain ⟨n, hn, rfl⟩ := wb_of D
  refine ⟨n / 2 ^ 33, by omega, ?_⟩
  exact (wb_shr (k := 33) hn (by decide)).trans (Int64.ofInt_eq_ofNat.symm)
theorem n_drw (D : Int64) {W : Nat} (hW : 1 ≤ W ∧ W ≤ 100) : ∃ r : Nat, r < W ∧ (o_lrem (o_lushr D 33) (iI W).toInt64).toInt32 = iI r := by
  obtain ⟨u, hu, e⟩ := n_lush D
  have hm := Nat.mod_lt u (show 0 < W by omega)
  refine ⟨u % W, hm, ?_⟩
  rw [e, iI_l (by omega), iL_rem (by omega) (by omega), iL_i]
  rfl
def n_nx (D : Int64) : Int64 := D * 6364136223846793005 + 1442695040888963407
theorem n_drawX {σ : k_St} {W r : Nat} {D : Int64} (hD : σ.2 16 2 = D) (hW : 1 ≤ W ∧ W ≤ 100) (hr : (o_lrem (o_lushr (n_nx D) 33) (iI W).toInt64).toInt32 = iI r) : f_X6_draw 16 (iI W) σ = some (iI r, k_wl σ 16 2 (n_nx D)) := by
  have hne : ¬ iL (W : Int) = 0 := fun q => by
    have := (iL_eq (a := W) (b := 0) (by omega) (by omega)).mp q
    omega
  unfold f_X6_draw
  rw [show k_rl σ 16 2 = D from hD, n_nm, show (1 : Int32) = iI 1 from rfl, n_ile (by omega) (by omega), if_pos (by omega), n_gdt (by rw [iI_l (by omega)]; exact hne)]
  have e : k_rl (k_wl σ 16 2 (D * 6364136223846793005 + 1442695040888963407)) 16 2 = n_nx D := wl_s
  rw [e, hr]
  rfl
theorem n_drawM {σ : k_St} {W r : Nat} {D : Int64} (hD : σ.2 0 60 = D) (hW : 1 ≤ W ∧ W ≤ 100) (hr : (o_lrem (o_lushr (n_nx D) 33) (iI W).toInt64).toInt32 = iI r) : f_X12_draw (iI W) σ = some (iI r, k_wl σ 0 60 (n_nx D)) := by
  have hne : ¬ iL (W : Int) = 0 := fun q => by
    have := (iL_eq (a := W) (b := 0) (by omega) (by omega)).mp q
    omega
  unfold f_X12_draw
  rw [show k_rl σ 0 60 = D from hD, n_nm, n_gdt (by rw [iI_l (by omega)]; exact hne)]
  have e : k_rl (k_wl σ 0 60 (D * 6364136223846793005 + 1442695040888963407)) 0 60 = n_nx D := wl_s
  rw [e, hr]
  rfl
theorem n_sWx {m : k_St} {r : Int} (hr : 0 ≤ r) : ∀ n, r < m_sW m n → ∃ P, P < n ∧ m_sW m P ≤ r ∧ r < m_sW m (P + 1)
  | 0, h => absurd (show r < 0 from h) (by omega)
  | n + 1, h => by
    by_cases c : r < m_sW m n
    · obtain ⟨P, h1, h2⟩ := n_sWx hr n c
      exact ⟨P, by omega, h2⟩
    · exact ⟨n, by omega, by omega, h⟩
theorem n_sWs {m : k_St} (P : Nat) : m_sW m (P + 1) = m_sW m P + vI m 13 (4 * P) := rfl
theorem n_sWm {m : k_St} {n : Nat} (h : ∀ p, p < n → 0 ≤ vI m 13 (4 * p)) {P : Nat} : ∀ Q, Q ≤ n → P ≤ Q → m_sW m P ≤ m_sW m Q
  | 0, _, hP => by
    rw [show P = 0 by omega]
    exact Int.le_refl _
  | Q + 1, hQ, hP => by
    by_cases e : P = Q + 1
    · rw [e]
      exact Int.le_refl _
    · have h1 := n_sWm h (P := P) Q (by omega) (by omega)
      have h2 := h Q (by omega)
      rw [n_sWs]
      omega
theorem n_pofX {σ m : k_St} {n P r : Nat} {V : Nat → Int} (hk : n_mk m n V) (hn : σ.1 12 0 = iI n) (h13 : ∀ p, p < n → σ.1 13 (4 * p) = iI (vI m 13 (4 * p))) (hP : P < n) (h1 : m_sW m P ≤ r) (h2 : (r : Int) < m_sW m (P + 1)) (hr : r < 100) : f_X1_placeOfDraw (iI r) σ = some (iI P) := by
  have h6 := hk.2.1
  unfold f_X1_placeOfDraw
  rw [show k_rd σ 12 0 = iI n from hn]
  simp only [iI_lit]
  refine ok_eq.mp (ok_for P (fun j (y : Int32 × Int32) => y = (iI (r - m_sW m j), iI j)) ?_ (by omega) (j := 0) (by
    show _ = (iI ((r : Int) - 0), _)
    rw [Int.sub_zero]
    rfl) (by omega))
  rintro g j _ rfl hj hg
  have hsm : 0 ≤ m_sW m j := n_sWm (P := 0) (fun p hp => (hk.2.2.2.2 p hp).1.1.1) j (by omega) (by omega)
  have hs1 := n_sWm (P := j) (fun p hp => (hk.2.2.2.2 p hp).1.1.1) P (by omega) (by omega)
  have hw := (hk.2.2.2.2 j (by omega)).1.1
  have es := n_sWs (m := m) j
  show k_OK (k_if _ _ _) _
  rw [n_ile (by omega) (by omega), if_neg (by omega), show iI 0 = iI ((0 : Nat) : Int) from rfl, n_told (by omega) (by omega), n_bd, show σ.1 13 (4 * j + 0) = iI (vI m 13 (4 * j)) from h13 j (by omega), iI_sub, ok_nm, n_ile (by omega) (by omega)]
  by_cases e : j = P
  · subst e
    rw [if_neg (by omega), ok_some]
  · have := n_sWm (P := j + 1) (fun p hp => (hk.2.2.2.2 p hp).1.1.1) P (by omega) (by omega)
    rw [if_pos (by omega), ok_nm, iI_add]
    refine hg _ (by omega) ?_
    rw [es, show (r : Int) - (m_sW m j + vI m 13 (4 * j)) = r - m_sW m j - vI m 13 (4 * j) by omega]
    rfl
/-! the class's day -/
def i_DX (c : Nat) : Bool := c == 16 || (c == 17 || (c == 18 || (c == 19 || (c == 20 || (c == 21 || c == 22)))))
def n_sX (σ s : k_St) (d : Nat) (D : Int64) : Prop := n_Fr (fun c => i_DX c = true) σ s ∧ (s.1 16 = σ.1 16 ∧ s.2 16 1 = σ.2 16 1 ∧ s.2 16 2 = D) ∧ (s.1 17 = σ.1 17 ∧ s.1 18 = σ.1 18 ∧ s.1 19 = σ.1 19) ∧ ∀ i, s.1 20 i = (if i = d then σ.1 16 0 else σ.1 20 i) ∧ s.2 21 i = (if i = d then σ.2 16 1 else σ.2 21 i) ∧ s.2 22 i = (if i = d then σ.2 16 2 else σ.2 22 i)
def n_eX (σ s : k_St) (d : Nat) (P came ct : Int) (T : Int32) (X D : Int64) : Prop := n_Fr (fun c => i_DX c = true) σ s ∧ (s.1 16 0 = T ∧ s.2 16 1 = X ∧ s.2 16 2 = D ∧ s.1 16 3 = σ.1 16 3 ∧ s.1 16 4 = σ.1 16 4 ∧ s.1 16 5 = σ.1 16 5 ∧ s.1 16 6 = iI ((d : Int) + 1)) ∧ ∀ i, (s.1 17 i = (if i = d then iI P else σ.1 17 i) ∧ s.1 18 i = (if i = d then iI came else σ.1 18 i) ∧ s.1 19 i = (if i = d then iI ct else σ.1 19 i)) ∧ s.1 20 i = (if i = d then σ.1 16 0 else σ.1 20 i) ∧ s.2 21 i = (if i = d then σ.2 16 1 else σ.2 21 i) ∧ s.2 22 i = (if i = d then σ.2 16 2 else σ.2 22 i)
theorem n_iff_eq {a b : Nat} {α : Type} {u v : α} {c : Nat} : (if c = c ∧ a = b then u else v) = if a = b then u else v := by
  by_cases h : a = b
  · rw [if_pos ⟨rfl, h⟩, if_pos h]
  · rw [if_neg (fun q => h q.2), if_neg h]
theorem n_startX {σ : k_St} {d : Nat} (hd : σ.1 16 6 = iI d) (hd40 : d < 40) : ∃ s, f_X6_startDay 16 σ = some s ∧ n_sX σ s d (σ.2 16 2) := by
  unfold f_X6_startDay
  rw [show k_rd σ 16 6 = iI d from hd]
  simp (disch := omega) only [iI_lit, n_within, n_bd, n_ib, n_gix, iI_cl, Int.toNat_natCast, n_nm]
  rw [if_pos (by omega)]
  have e1 : k_rd (k_wr σ 20 d (k_rd σ 16 0)) 16 6 = iI d := hd
  rw [e1, n_gix (by omega) (by omega), iI_cl (by omega), Int.toNat_natCast]
  have e2 : k_rd (k_wl (k_wr σ 20 d (k_rd σ 16 0)) 21 d (k_rl (k_wr σ 20 d (k_rd σ 16 0)) 16 1)) 16 6 = iI d := hd
  rw [e2, n_gix (by omega) (by omega), iI_cl (by omega), Int.toNat_natCast]
  refine ⟨_, rfl, ((n_Fr.rf.wr (by decide)).wl (by decide)).wl (by decide), ⟨rfl, rfl, rfl⟩, ⟨rfl, rfl, rfl⟩, fun i => ⟨?_, ?_, ?_⟩⟩
  · show (k_wr σ 20 d (k_rd σ 16 0)).1 20 i = _
    rw [wr_if, n_iff_eq]
    rfl
  · show (k_wl (k_wr σ 20 d (k_rd σ 16 0)) 21 d (k_rl (k_wr σ 20 d (k_rd σ 16 0)) 16 1)).2 21 i = _
    rw [wl_if, n_iff_eq]
    rfl
  · show (k_wl (k_wl (k_wr σ 20 d (k_rd σ 16 0)) 21 d (k_rl (k_wr σ 20 d (k_rd σ 16 0)) 16 1)) 22 d _).2 22 i = _
    rw [wl_if, n_iff_eq]
    rfl
theorem n_sX.dr {σ s : k_St} {d : Nat} {D D' : Int64} (h : n_sX σ s d D) : n_sX σ (k_wl s 16 2 D') d D' := by
  obtain ⟨h1, ⟨h2, h3, h4⟩, ⟨h5, h6, h7⟩, h8⟩ := h
  exact ⟨h1.wl (by decide), ⟨h2, (wl_k (by decide)).trans h3, wl_s⟩, ⟨h5, h6, h7⟩, fun i => h8 i⟩
theorem n_endX {σ s : k_St} {d : Nat} {D : Int64} {P came ct : Int} (h : n_sX σ s d D) (hd : σ.1 16 6 = iI d) (hd40 : d < 40) : ∃ s', f_X6_endDay 16 (iI P) (iI came) (iI ct) s = some s' ∧ n_eX σ s' d P came ct (σ.1 16 0) (σ.2 16 1) D := by
  obtain ⟨h1, ⟨h2, h3, h4⟩, ⟨h5, h6, h7⟩, h8⟩ := h
  have e0 : s.1 16 6 = iI d := by rw [h2]; exact hd
  unfold f_X6_endDay
  rw [show k_rd s 16 6 = iI d from e0]
  simp (disch := omega) only [iI_lit, n_within, n_bd, n_ib, n_gix, iI_cl, Int.toNat_natCast, n_nm]
  rw [if_pos (by omega)]
  have e1 : k_rd (k_wr s 17 d (iI P)) 16 6 = iI d := e0
  rw [e1, n_gix (by omega) (by omega), iI_cl (by omega), Int.toNat_natCast]
  have e2 : k_rd (k_wr (k_wr s 17 d (iI P)) 18 d (iI came)) 16 6 = iI d := e0
  rw [e2, n_gix (by omega) (by omega), iI_cl (by omega), Int.toNat_natCast]
  have e3 : k_rd (k_wr (k_wr (k_wr s 17 d (iI P)) 18 d (iI came)) 19 d (iI ct)) 16 6 = iI d := e0
  rw [e3, iI_add]
  refine ⟨_, rfl, (((h1.wr (by decide)).wr (by decide)).wr (by decide)).wr (by decide), ⟨?_, h3, h4, ?_, ?_, ?_, rfl⟩, fun i => ⟨⟨?_, ?_, ?_⟩, h8 i⟩⟩
  · exact (congrFun h2 0)
  · exact (congrFun h2 3)
  · exact (congrFun h2 4)
  · exact (congrFun h2 5)
  · show (k_wr s 17 d (iI P)).1 17 i = _
    rw [wr_if, n_iff_eq, h5]
  · show (k_wr (k_wr s 17 d (iI P)) 18 d (iI came)).1 18 i = _
    rw [wr_if, n_iff_eq, ← h6]
    rfl
  · show (k_wr (k_wr (k_wr s 17 d (iI P)) 18 d (iI came)) 19 d (iI ct)).1 19 i = _
    rw [wr_if, n_iff_eq, ← h7]
    rfl
theorem n_eX.dX {σ s : k_St} {d : Nat} {P came ct : Int} {T : Int32} {X D v : Int64} (h : n_eX σ s d P came ct T X D) : n_eX σ (k_wl s 16 1 v) d P came ct T v D := by
  obtain ⟨h1, ⟨h2, h3, h4, h5, h6, h7, h8⟩, h9⟩ := h
  exact ⟨h1.wl (by decide), ⟨h2, wl_s, (wl_k (by decide)).trans h4, h5, h6, h7, h8⟩, fun i => h9 i⟩
theorem n_eX.dT {σ s : k_St} {d : Nat} {P came ct : Int} {T v : Int32} {X D : Int64} (h : n_eX σ s d P came ct T X D) : n_eX σ (k_wr s 16 0 v) d P came ct v X D := by
  obtain ⟨h1, ⟨h2, h3, h4, h5, h6, h7, h8⟩, h9⟩ := h
  exact ⟨h1.wr (by decide), ⟨wr_s, h3, h4, (wr_k (by decide)).trans h5, (wr_k (by decide)).trans h6, (wr_k (by decide)).trans h7, (wr_k (by decide)).trans h8⟩, fun i => h9 i⟩
theorem ok_jnI {J β : Type} {j : J} {k : J → Option β} {Q : β → Prop} (Qj : J → Prop) (h1 : Qj j) (h2 : ∀ j, Qj j → k_OK (k j) Q) : k_OK (k_jn j k) Q := h2 j h1
