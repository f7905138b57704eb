/-! images, days undone, FOG and what is learnt -/
def n_mx (S : Nat → Bool) (σ s : k_St) : k_St := (fun c => if S c = true then s.1 c else σ.1 c, fun c => if S c = true then s.2 c else σ.2 c)
theorem n_Fr.mx {S : Nat → Bool} {σ s : k_St} (h : n_Fr (fun c => S c = true) σ s) : s = n_mx S σ s := by
  refine Prod.ext (funext fun c => ?_) (funext fun c => ?_)
  · show s.1 c = if S c = true then s.1 c else σ.1 c
    by_cases e : S c = true
    · rw [if_pos e]
    · rw [if_neg e, (h c e).1]
  · show s.2 c = if S c = true then s.2 c else σ.2 c
    by_cases e : S c = true
    · rw [if_pos e]
    · rw [if_neg e, (h c e).2]
theorem n_ocp {d : Int} (h : 0 ≤ d ∧ d ≤ 40) : o_cp (iI 0) (iI 0) (iI d) 40 40 = true := by
  unfold o_cp
  simp only [Bool.and_eq_true, decide_eq_true_eq]
  rw [iI_cl (by omega), iI_cl (by omega), show (0 : Int32) = iI 0 from rfl, iI_le (by omega) (by omega), iI_le (by omega) (by omega)]
  omega
theorem n_rcI {s : k_St} {a b c k : Nat} {sp dp n : Int32} (h : c ≠ b) : k_rd (k_cpI s a b sp dp n) c k = k_rd s c k := by
  show (k_wA s b _).1 c k = s.1 c k
  unfold k_wA
  simp [h]
theorem n_rcL {s : k_St} {a b c k : Nat} {sp dp n : Int32} : k_rd (k_cpL s a b sp dp n) c k = k_rd s c k := rfl
theorem n_lcI {s : k_St} {a b c k : Nat} {sp dp n : Int32} : k_rl (k_cpI s a b sp dp n) c k = k_rl s c k := rfl
theorem n_core_wA {s : Nat → Nat → Bool} {σ τ : k_St} {c : Nat} {f : Nat → Int32} (h : n_core s σ = τ) (hs : ∀ k, s c k = false) : n_core s (k_wA σ c f) = k_wA τ c f := by
  subst h
  refine Prod.ext (funext fun d => funext fun j => ?_) rfl
  show (if s d j = true then 0 else (if d = c then f else σ.1 d) j) = (if d = c then f else (n_core s σ).1 d) j
  by_cases e : d = c
  · rw [if_pos e, if_pos e, e, hs j]
    rfl
  · rw [if_neg e, if_neg e]
    rfl
theorem n_core_wB {s : Nat → Nat → Bool} {σ τ : k_St} {c : Nat} {f : Nat → Int64} (h : n_core s σ = τ) (hs : ∀ k, s c k = false) : n_core s (k_wB σ c f) = k_wB τ c f := by
  subst h
  refine Prod.ext rfl (funext fun d => funext fun j => ?_)
  show (if s d j = true then 0 else (if d = c then f else σ.2 d) j) = (if d = c then f else (n_core s σ).2 d) j
  by_cases e : d = c
  · rw [if_pos e, if_pos e, e, hs j]
    rfl
  · rw [if_neg e, if_neg e]
    rfl
theorem r_T.cg {k : Int} {f g : Nat → Int} (h : r_T k f) (e : ∀ s, s < 4 → f s = g s) : r_T k g := fun s hs => by rw [← e s hs]; exact h s hs
theorem r_R.cg {n : Int} {f g : Nat → Int32} {x : Int64} (h : r_R n f x) (e : ∀ s, s < 16 → f s = g s) : r_R n g x := fun s hs => by rw [← e s hs]; exact h s hs
theorem r_st.cg {n k : Int} {x : k_St} {c : Nat} {T R T' R' : Nat → Int32} {dr dr' : Int64} {fog thu lost days fog' thu' lost' days' : Int32} {pl sg ct pl' sg' ct' : Nat → Int32} {dd dd' : Nat → Int64} {dR dR' : Nat → Nat → Int32} {dT dT' : Nat → Int32} (h : r_st n k x c T R dr fog thu lost days pl sg ct dd dR dT) (e1 : ∀ s, s < 4 → T s = T' s) (e2 : ∀ s, s < 16 → R s = R' s) (e3 : dr = dr') (e4 : fog = fog') (e5 : thu = thu') (e6 : lost = lost') (e7 : days = days') (e8 : ∀ i, i < 40 → pl i = pl' i ∧ sg i = sg' i ∧ ct i = ct' i ∧ dd i = dd' i ∧ dT i = dT' i ∧ ∀ j, j < 16 → dR i j = dR' i j) : r_st n k x c T' R' dr' fog' thu' lost' days' pl' sg' ct' dd' dR' dT' := by
  subst e3; subst e4; subst e5; subst e6; subst e7
  obtain ⟨h1, h2, h3, h4, h5, h6, h7, h8⟩ := h
  refine ⟨⟨h1.1.cg (fun s hs => by rw [e1 s hs]), by rw [h1.2]; congr 1; exact n_e4c (fun s hs => by rw [e1 s hs])⟩, h2.cg e2, h3, h4, h5, h6, h7, fun i hi => ?_⟩
  obtain ⟨d1, d2, d3, d4, d5, d6⟩ := h8 i hi
  have b := h7.2.2
  obtain ⟨g1, g2, g3, g4, g5, g6⟩ := e8 i (by omega)
  unfold r_dy
  rw [← g1, ← g2, ← g3, ← g4, ← g5]
  exact ⟨d1, d2, d3, d4, d5.cg g6, d6⟩
set_option maxRecDepth 20000 in
theorem n_take23 {σ x : k_St} {n k : Int} {T R : Nat → Int32} {dr : Int64} {fog thu lost days : Int32} {pl sg ct : Nat → Int32} {dd : Nat → Int64} {dR : Nat → Nat → Int32} {dT : Nat → Int32} (hx : x_c σ = x) (h : r_st n k x 16 T R dr fog thu lost days pl sg ct dd dR dT) : ∃ σ' x', f_X6_takeFrom 23 16 σ = some σ' ∧ x_c σ' = x' ∧ (∃ f1 f2 f3 f4 g1 g2, x' = k_wB (k_wB (k_wA (k_wA (k_wA (k_wA (k_wr (k_wr (k_wr (k_wr (k_wl (k_wl (k_wr x 23 0 (x.1 16 0)) 23 1 (x.2 16 1)) 23 2 dr) 23 3 fog) 23 4 thu) 23 5 lost) 23 6 days) 24 f1) 25 f2) 26 f3) 27 f4) 28 g1) 29 g2) ∧ r_st n k x' 23 T R dr fog thu lost days pl sg ct dd dR dT := by
  obtain ⟨h1, h2, h3, h4, h5, h6, h7, h8⟩ := id h
  have b7 := h7.2
  have e0 : k_rd σ 16 0 = x.1 16 0 := n_core_1 hx rfl
  have e1 : k_rl σ 16 1 = x.2 16 1 := n_core_2 hx rfl
  have e2 : k_rl σ 16 2 = dr := (n_core_2 hx rfl).trans h3
  have e3 : k_rd σ 16 3 = fog := (n_core_1 hx rfl).trans h4.1
  have e4 : k_rd σ 16 4 = thu := (n_core_1 hx rfl).trans h5.1
  have e5 : k_rd σ 16 5 = lost := (n_core_1 hx rfl).trans h6.1
  have e6 : k_rd σ 16 6 = days := (n_core_1 hx rfl).trans h7.1
  have hmin : o_min (40 : Int32) days = days := by
    rw [iI_of days, iI_lit, iI_min (by omega) (by omega)]
    congr 1
    omega
  have hcp : o_cp (0 : Int32) (0 : Int32) days 40 40 = true := by
    have := n_ocp b7
    rw [← iI_of days] at this
    exact this
  have hcl : days.toNatClampNeg = days.toInt.toNat := by rw [← Int32.toNat_toInt]
  unfold f_X6_takeFrom
  simp (disch := omega) only [n_nm, n_rwc, n_rws, n_rwl, n_rlw, n_rcI, n_rcL, n_lcI, Nat.reduceAdd]
  have l1 : ∀ (s : k_St) (a b c d : Nat) (v : Int64), k_rl (k_wl s a b v) c d = if c = a ∧ d = b then v else k_rl s c d := fun s a b c d v => wl_if
  have l2 : ∀ (s : k_St) (b c d : Nat) (v : Int32), b ≠ d → k_rd (k_wr s c b v) c d = k_rd s c d := fun s b c d v h => wr_k (fun q => h q.symm)
  simp (disch := omega) only [l1, l2, n_rwc, n_rws, n_rwl, n_rlw]
  rw [e0, e1, if_neg (show ¬ (16 = 23 ∧ 2 = 1) by omega), e2, e3, n_gdt (n_isB2 h4.2), e4, n_gdt (n_isB2 h5.2), e5, e6, hmin, n_gdt hcp, n_gdt hcp, n_gdt hcp, n_gdt hcp, n_gdt hcp, n_gdt hcp]
  refine ⟨_, _, rfl, n_core_wB (n_core_wB (n_core_wA (n_core_wA (n_core_wA (n_core_wA (n_cw (n_cw (n_cw (n_cw (n_cl (n_cl (n_cw hx rfl) rfl) rfl) rfl) rfl) rfl) rfl) (fun _ => rfl)) (fun _ => rfl)) (fun _ => rfl)) (fun _ => rfl)) (fun _ => rfl)) (fun _ => rfl), ⟨_, _, _, _, _, _, rfl⟩, ?_⟩
  refine ⟨⟨h1.1, h1.2⟩, h2, rfl, ⟨rfl, h4.2⟩, ⟨rfl, h5.2⟩, ⟨rfl, h6.2⟩, ⟨rfl, h7.2⟩, fun i hi => ?_⟩
  obtain ⟨d1, d2, d3, d4, d5, d6⟩ := h8 i hi
  have hin : ∀ {α : Type} (f g : Nat → α), va_cpy f g (0 : Int32).toNatClampNeg (0 : Int32).toNatClampNeg days.toNatClampNeg i = f i := fun f g => by
    rw [show (0 : Int32).toNatClampNeg = 0 from rfl, hcl, pk_cpy_in (Nat.zero_le _) (by omega)]
    congr 1
    omega
  refine ⟨⟨(hin _ _).trans ?_, d1.2⟩, ⟨(hin _ _).trans ?_, d2.2⟩, ⟨(hin _ _).trans ?_, d3.2⟩, ⟨d4.1, d4.2.1, (hin _ _).trans ?_⟩, ?_, (hin _ _).trans ?_⟩
  · exact (n_core_1 hx rfl).trans d1.1
  · exact (n_core_1 hx rfl).trans d2.1
  · exact (n_core_1 hx rfl).trans d3.1
  · exact (n_core_1 hx rfl).trans d4.2.2
  · show r_R n (dR i) (va_cpy _ _ (0 : Int32).toNatClampNeg (0 : Int32).toNatClampNeg days.toNatClampNeg i)
    rw [hin]
    show r_R n (dR i) (σ.2 21 i)
    rw [show σ.2 21 i = x.2 21 i from n_core_2 hx rfl]
    exact d5
  · exact (n_core_2 hx rfl).trans d6
set_option maxRecDepth 20000 in
theorem n_take16 {σ x : k_St} {n k : Int} {T R : Nat → Int32} {dr : Int64} {fog thu lost days : Int32} {pl sg ct : Nat → Int32} {dd : Nat → Int64} {dR : Nat → Nat → Int32} {dT : Nat → Int32} (hx : x_c σ = x) (h : r_st n k x 23 T R dr fog thu lost days pl sg ct dd dR dT) : ∃ σ' x', f_X6_takeFrom 16 23 σ = some σ' ∧ x_c σ' = x' ∧ (∃ f1 f2 f3 f4 g1 g2, x' = k_wB (k_wB (k_wA (k_wA (k_wA (k_wA (k_wr (k_wr (k_wr (k_wr (k_wl (k_wl (k_wr x 16 0 (x.1 23 0)) 16 1 (x.2 23 1)) 16 2 dr) 16 3 fog) 16 4 thu) 16 5 lost) 16 6 days) 17 f1) 18 f2) 19 f3) 20 f4) 21 g1) 22 g2) ∧ r_st n k x' 16 T R dr fog thu lost days pl sg ct dd dR dT := by
  obtain ⟨h1, h2, h3, h4, h5, h6, h7, h8⟩ := id h
  have b7 := h7.2
  have e0 : k_rd σ 23 0 = x.1 23 0 := n_core_1 hx rfl
  have e1 : k_rl σ 23 1 = x.2 23 1 := n_core_2 hx rfl
  have e2 : k_rl σ 23 2 = dr := (n_core_2 hx rfl).trans h3
  have e3 : k_rd σ 23 3 = fog := (n_core_1 hx rfl).trans h4.1
  have e4 : k_rd σ 23 4 = thu := (n_core_1 hx rfl).trans h5.1
  have e5 : k_rd σ 23 5 = lost := (n_core_1 hx rfl).trans h6.1
  have e6 : k_rd σ 23 6 = days := (n_core_1 hx rfl).trans h7.1
  have hmin : o_min (40 : Int32) days = days := by
    rw [iI_of days, iI_lit, iI_min (by omega) (by omega)]
    congr 1
    omega
  have hcp : o_cp (0 : Int32) (0 : Int32) days 40 40 = true := by
    have := n_ocp b7
    rw [← iI_of days] at this
    exact this
  have hcl : days.toNatClampNeg = days.toInt.toNat := by rw [← Int32.toNat_toInt]
  unfold f_X6_takeFrom
  simp (disch := omega) only [n_nm, n_rwc, n_rws, n_rwl, n_rlw, n_rcI, n_rcL, n_lcI, Nat.reduceAdd]
  have l1 : ∀ (s : k_St) (a b c d : Nat) (v : Int64), k_rl (k_wl s a b v) c d = if c = a ∧ d = b then v else k_rl s c d := fun s a b c d v => wl_if
  have l2 : ∀ (s : k_St) (b c d : Nat) (v : Int32), b ≠ d → k_rd (k_wr s c b v) c d = k_rd s c d := fun s b c d v h => wr_k (fun q => h q.symm)
  simp (disch := omega) only [l1, l2, n_rwc, n_rws, n_rwl, n_rlw]
  rw [e0, e1, if_neg (show ¬ (23 = 16 ∧ 2 = 1) by omega), e2, e3, n_gdt (n_isB2 h4.2), e4, n_gdt (n_isB2 h5.2), e5, e6, hmin, n_gdt hcp, n_gdt hcp, n_gdt hcp, n_gdt hcp, n_gdt hcp, n_gdt hcp]
  refine ⟨_, _, rfl, n_core_wB (n_core_wB (n_core_wA (n_core_wA (n_core_wA (n_core_wA (n_cw (n_cw (n_cw (n_cw (n_cl (n_cl (n_cw hx rfl) rfl) rfl) rfl) rfl) rfl) rfl) (fun _ => rfl)) (fun _ => rfl)) (fun _ => rfl)) (fun _ => rfl)) (fun _ => rfl)) (fun _ => rfl), ⟨_, _, _, _, _, _, rfl⟩, ?_⟩
  refine ⟨⟨h1.1, h1.2⟩, h2, rfl, ⟨rfl, h4.2⟩, ⟨rfl, h5.2⟩, ⟨rfl, h6.2⟩, ⟨rfl, h7.2⟩, fun i hi => ?_⟩
  obtain ⟨d1, d2, d3, d4, d5, d6⟩ := h8 i hi
  have hin : ∀ {α : Type} (f g : Nat → α), va_cpy f g (0 : Int32).toNatClampNeg (0 : Int32).toNatClampNeg days.toNatClampNeg i = f i := fun f g => by
    rw [show (0 : Int32).toNatClampNeg = 0 from rfl, hcl, pk_cpy_in (Nat.zero_le _) (by omega)]
    congr 1
    omega
  refine ⟨⟨(hin _ _).trans ?_, d1.2⟩, ⟨(hin _ _).trans ?_, d2.2⟩, ⟨(hin _ _).trans ?_, d3.2⟩, ⟨d4.1, d4.2.1, (hin _ _).trans ?_⟩, ?_, (hin _ _).trans ?_⟩
  · exact (n_core_1 hx rfl).trans d1.1
  · exact (n_core_1 hx rfl).trans d2.1
  · exact (n_core_1 hx rfl).trans d3.1
  · exact (n_core_1 hx rfl).trans d4.2.2
  · show r_R n (dR i) (va_cpy _ _ (0 : Int32).toNatClampNeg (0 : Int32).toNatClampNeg days.toNatClampNeg i)
    rw [hin]
    show r_R n (dR i) (σ.2 28 i)
    rw [show σ.2 28 i = x.2 28 i from n_core_2 hx rfl]
    exact d5
  · exact (n_core_2 hx rfl).trans d6
