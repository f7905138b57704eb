/-! the reference's day -/
def i_DM (c : Nat) : Bool := c == 9 || (c == 10 || (c == 14 || (c == 15 || (c == 35 || (c == 36 || (c == 37 || (c == 38 || (c == 39 || c == 40))))))))
def i_DN (c : Nat) : Prop := c = 0 ∨ i_DM c = true
/-- chamber 0 but for the number of days and the draws -/
def n_c0 (σ s : k_St) (D : Int64) : Prop := s.1 0 = σ.1 0 ∧ ∀ j, s.2 0 j = if j = 60 then D else σ.2 0 j
/-- what is put by of the day -/
def n_pb (σ s : k_St) (d : Nat) (t : Int) : Prop := ∀ i, s.2 38 i = (if i = d then σ.2 0 60 else σ.2 38 i) ∧ s.1 40 i = (if i = d then iI t else σ.1 40 i) ∧ ∀ j, j < 16 → s.1 39 (16 * i + j) = if i = d then σ.1 15 j else σ.1 39 (16 * i + j)
def n_tM (σ s : k_St) (d : Nat) (t : Int) (T : Nat → Int) (R : Nat → Int32) (D : Int64) : Prop := n_Fr i_DN σ s ∧ n_c0 σ s D ∧ n_pb σ s d t ∧ (∀ j, j < 4 → s.1 14 j = iI (T j)) ∧ (∀ j, j < 16 → s.1 15 j = R j) ∧ s.1 35 = σ.1 35 ∧ s.1 36 = σ.1 36 ∧ s.1 37 = σ.1 37
def n_eM (σ s : k_St) (d : Nat) (t P came ct : Int) (T : Nat → Int) (R : Nat → Int32) (D : Int64) : Prop := n_Fr i_DN σ s ∧ ((∀ j, s.1 0 j = if j = 59 then iI ((d : Int) + 1) else σ.1 0 j) ∧ ∀ j, s.2 0 j = if j = 60 then D else σ.2 0 j) ∧ n_pb σ s d t ∧ (∀ j, j < 4 → s.1 14 j = iI (T j)) ∧ (∀ j, j < 16 → s.1 15 j = R j) ∧ ∀ i, s.1 35 i = (if i = d then iI P else σ.1 35 i) ∧ s.1 36 i = (if i = d then iI came else σ.1 36 i) ∧ s.1 37 i = (if i = d then iI ct else σ.1 37 i)
theorem n_heardZ {s m : k_St} {p : Nat} (hp : p < 6) (h27 : s.1 0 27 = iI (vI m 0 27)) (h : s.1 13 (4 * p + 1) = iI (vI m 13 (4 * p + 1))) : f_X12_heard (iI p) s = some (iI (n_hd m (vI m 0 27) p)) := by
  have r := vI_rg m 0 27
  unfold f_X12_heard n_hd
  rw [show k_rd s 0 27 = _ from h27]
  simp (disch := omega) only [iI_lit, n_ieq]
  by_cases c : vI m 0 27 = 0
  · rw [if_pos c, if_pos c, show iI 1 = iI ((1 : Nat) : Int) from rfl, n_of hp (by omega), n_bd, h]
  · rw [if_neg c, if_neg c]
theorem n_seenZ {s m : k_St} {p : Nat} (hp : p < 6) (h26 : s.1 0 26 = iI (vI m 0 26)) (h : s.1 13 (4 * p + 2) = iI (vI m 13 (4 * p + 2))) : f_X12_seenAt (iI p) s = some (iI (n_sn m (vI m 0 26) p)) := by
  have r := vI_rg m 0 26
  unfold f_X12_seenAt n_sn
  rw [show k_rd s 0 26 = _ from h26]
  simp (disch := omega) only [iI_lit, n_ieq]
  by_cases c : vI m 0 26 = 0
  · rw [if_pos c, if_pos c, show iI 2 = iI ((2 : Nat) : Int) from rfl, n_of hp (by omega), n_bd, h]
  · rw [if_neg c, if_neg c]
/-- a place's worth asks for few cells -/
theorem n_V_c {m m' : k_St} {p : Nat} (h0 : m'.1 0 30 = m.1 0 30) (hc : ∀ c, c = 2 ∨ c = 3 ∨ c = 5 ∨ c = 6 ∨ c = 7 ∨ c = 8 ∨ c = 13 → m'.1 c = m.1 c) : m_V m' p = m_V m p := by
  have e0 : vI m' 0 30 = vI m 0 30 := by
    unfold vI
    rw [h0]
  have e : ∀ c, c = 2 ∨ c = 3 ∨ c = 5 ∨ c = 6 ∨ c = 7 ∨ c = 8 ∨ c = 13 → vI m' c = vI m c := fun c h => funext fun k => by
    unfold vI
    rw [hc c h]
  have eE : ∀ i L, rp_E m' i L = rp_E m i L := fun i L => by
    unfold rp_E
    rw [e 2 (by omega), e 3 (by omega), e 5 (by omega), e 6 (by omega), e 7 (by omega), e 8 (by omega)]
  have eL : m_let m' p = m_let m p := funext fun j => by
    unfold m_let
    rw [e 13 (by omega)]
  unfold m_V
  rw [e0, e 13 (by omega), eE, eL]
theorem n_tM_m {σ s : k_St} {d : Nat} {t : Int} {T : Nat → Int} {R : Nat → Int32} {D : Int64} (h : n_Fr i_DN σ s) (h0 : s.1 0 = σ.1 0) (p : Nat) : m_V (m_c s) p = m_V (m_c σ) p := by
  refine n_V_c ?_ (fun c hc => ?_)
  · show (if m_scr 0 30 = true then 0 else s.1 0 30) = if m_scr 0 30 = true then 0 else σ.1 0 30
    rw [h0]
  · refine funext fun k => ?_
    show (if m_scr c k = true then 0 else s.1 c k) = if m_scr c k = true then 0 else σ.1 c k
    rw [(h c (by
      unfold i_DN
      rcases hc with rfl | rfl | rfl | rfl | rfl | rfl | rfl <;> decide)).1]
/-- the end of it -/
theorem n_dayE {σ s m : k_St} {n d P came : Nat} {t : Int} {T : Nat → Int} {R : Nat → Int32} {D : Int64} {V : Nat → Int} {v0 : Int32} (hm : m_c σ = m) (hk : n_mk m n V) (hd : σ.1 0 59 = iI d) (hd40 : d < 40) (hP : P < n) (h : n_tM σ s d t T R D) {b : Bool} {ct : Int} (hct : ct = if b = true then V P else 0) (hb : v0 = if b = true then iI 1 else iI 0) : k_OK (k_gd (k_ix (k_rd s 0 59) 40 = true) <|
                          k_nm (k_wr s 35 (k_rd s 0 59).toNatClampNeg (iI (P : Int))) fun s252 =>
                          k_gd (k_ix (k_rd s252 0 59) 40 = true) <|
                          k_nm (k_wr s252 36 (k_rd s252 0 59).toNatClampNeg (iI (came : Int))) fun s262 =>
                          k_jn (fun (t2_285 : Int32) (s_285 : k_St) =>
                            k_gd (k_ix (k_rd s262 0 59) 40 = true) <|
                            k_nm (k_wr s_285 37 (k_rd s262 0 59).toNatClampNeg t2_285) fun s285 =>
                            k_nm (k_wr s285 0 59 ((k_rd s285 0 59) + iI 1)) fun s293 =>
                            k_gd (k_ix ((k_rd s293 0 59) - iI 1) 40 = true) <|
                            some ((k_rd s293 37 ((k_rd s293 0 59) - iI 1).toNatClampNeg), s293)) fun j285 =>
                          k_if (v0 = iI 0)
                            (j285 (iI 0) s262)
                            (k_b2 (f_X12_worthAt (iI (P : Int)) s262) fun v278 s278 =>
                            j285 v278 s278)) (fun q => q.1 = iI ct ∧ n_eM σ q.2 d t P came ct T R D) := by
  have hn6 := hk.2.1
  obtain ⟨hF, ⟨z1, z2⟩, hpb, h14, h15, h35, h36, h37⟩ := h
  have e59 : k_rd s 0 59 = iI (d : Int) := by
    show s.1 0 59 = _
    rw [z1, hd]
  rw [e59, n_gix (by omega) (by omega), iI_cl (by omega), Int.toNat_natCast, ok_nm]
  have e59a : k_rd (k_wr s 35 d (iI (P : Int))) 0 59 = iI (d : Int) := e59
  rw [e59a, n_gix (by omega) (by omega), iI_cl (by omega), Int.toNat_natCast, ok_nm]
  have e59b : k_rd (k_wr (k_wr s 35 d (iI (P : Int))) 36 d (iI (came : Int))) 0 59 = iI (d : Int) := e59
  have hF2 : n_Fr i_DN σ (k_wr (k_wr s 35 d (iI (P : Int))) 36 d (iI (came : Int))) := (hF.wr (Or.inr rfl)).wr (Or.inr rfl)
  have hV := n_tM_m (d := d) (t := t) (T := T) (R := R) (D := D) hF2 z1 P
  rw [e59b]
  have q35 : ∀ i, (k_wr (k_wr s 35 d (iI (P : Int))) 36 d (iI (came : Int))).1 35 i = if i = d then iI (P : Int) else σ.1 35 i := fun i => by
    show (k_wr s 35 d (iI (P : Int))).1 35 i = _
    rw [wr_if, n_iff_eq, h35]
  have q36 : ∀ i, (k_wr (k_wr s 35 d (iI (P : Int))) 36 d (iI (came : Int))).1 36 i = if i = d then iI (came : Int) else σ.1 36 i := fun i => by
    rw [wr_if, n_iff_eq, ← h36]
    rfl
  have q37 : (k_wr (k_wr s 35 d (iI (P : Int))) 36 d (iI (came : Int))).1 37 = σ.1 37 := h37
  have q0 : (k_wr (k_wr s 35 d (iI (P : Int))) 36 d (iI (came : Int))).1 0 = σ.1 0 := z1
  have q02 : ∀ j, (k_wr (k_wr s 35 d (iI (P : Int))) 36 d (iI (came : Int))).2 0 j = if j = 60 then D else σ.2 0 j := z2
  have qpb : n_pb σ (k_wr (k_wr s 35 d (iI (P : Int))) 36 d (iI (came : Int))) d t := hpb
  have q14 : ∀ j, j < 4 → (k_wr (k_wr s 35 d (iI (P : Int))) 36 d (iI (came : Int))).1 14 j = iI (T j) := h14
  have q15 : ∀ j, j < 16 → (k_wr (k_wr s 35 d (iI (P : Int))) 36 d (iI (came : Int))).1 15 j = R j := h15
  generalize k_wr (k_wr s 35 d (iI (P : Int))) 36 d (iI (came : Int)) = w at *
  -- whatever was caught
  refine ok_jnI (fun j => ∀ s', n_Fr (fun c => c = 9 ∨ c = 10) w s' → k_OK (j (iI ct) s') (fun q => q.1 = iI ct ∧ n_eM σ q.2 d t P came ct T R D)) ?_ ?_
  · intro s' hG
    have g : ∀ c, ¬ (c = 9 ∨ c = 10) → s'.1 c = w.1 c ∧ s'.2 c = w.2 c := hG
    show k_OK (k_gd _ _) _
    rw [n_gix (by omega) (by omega), iI_cl (by omega), Int.toNat_natCast, ok_nm]
    have e0 : k_rd (k_wr s' 37 d (iI ct)) 0 59 = iI (d : Int) := by
      show s'.1 0 59 = _
      rw [(g 0 (by decide)).1, q0, hd]
    rw [e0, iI_add, ok_nm]
    have e1 : k_rd (k_wr (k_wr s' 37 d (iI ct)) 0 59 (iI ((d : Int) + 1))) 0 59 = iI ((d : Int) + 1) := wr_s
    rw [e1, iI_sub, show (d : Int) + 1 - 1 = (d : Int) by omega, n_gix (by omega) (by omega), iI_cl (by omega), Int.toNat_natCast, ok_some]
    have e37 : ∀ i, (k_wr s' 37 d (iI ct)).1 37 i = if i = d then iI ct else σ.1 37 i := fun i => by
      rw [wr_if, n_iff_eq, (g 37 (by decide)).1, q37]
    refine ⟨?_, ?_, ⟨fun j => ?_, fun j => ?_⟩, fun i => ?_, fun j hj => ?_, fun j hj => ?_, fun i => ⟨?_, ?_, e37 i⟩⟩
    · show (k_wr s' 37 d (iI ct)).1 37 d = _
      rw [e37, if_pos rfl]
    · exact ((hF2.tr (hG.mono (fun c hc => Or.inr (by rcases hc with rfl | rfl <;> rfl)))).wr (Or.inr rfl)).wr (Or.inl rfl)
    · show (k_wr (k_wr s' 37 d (iI ct)) 0 59 (iI ((d : Int) + 1))).1 0 j = _
      rw [wr_if, n_iff_eq, ← q0, ← (g 0 (by decide)).1]
      rfl
    · show s'.2 0 j = _
      rw [(g 0 (by decide)).2]
      exact q02 j
    · obtain ⟨p1, p2, p3⟩ := qpb i
      refine ⟨?_, ?_, fun j hj => ?_⟩
      · show s'.2 38 i = _
        rw [(g 38 (by decide)).2, p1]
      · show s'.1 40 i = _
        rw [(g 40 (by decide)).1, p2]
      · show s'.1 39 (16 * i + j) = _
        rw [(g 39 (by decide)).1, p3 j hj]
    · show s'.1 14 j = _
      rw [(g 14 (by decide)).1]
      exact q14 j hj
    · show s'.1 15 j = _
      rw [(g 15 (by decide)).1]
      exact q15 j hj
    · show s'.1 35 i = _
      rw [(g 35 (by decide)).1]
      exact q35 i
    · show s'.1 36 i = _
      rw [(g 36 (by decide)).1]
      exact q36 i
  · intro j hj
    cases b with
    | false =>
      have hct : ct = 0 := hct
      have hb : v0 = iI 0 := hb
      rw [n_ift hb]
      have := hj w n_Fr.rf
      rw [hct] at this
      rw [hct]
      exact this
    | true =>
      have hct : ct = V P := hct
      have hb : v0 = iI 1 := hb
      have e30 : vI (m_c w) 0 30 = vI m 0 30 := by
        rw [← hm]
        show ((if m_scr 0 30 = true then 0 else w.1 0 30) : Int32).toInt = ((if m_scr 0 30 = true then 0 else σ.1 0 30) : Int32).toInt
        rw [q0]
      obtain ⟨s2, e2, _, hG⟩ := n_worthAt (σ := w) (p := P) (v := V P) (by omega) (by rw [e30]; exact hk.2.2.2.1) (by rw [hV, hm]; exact (hk.2.2.2.2 P hP).2.1)
      rw [n_iff (by rw [hb]; exact n_10), e2, n_b2, ← hct]
      exact hj s2 hG
