section G23
variable {args : Array Value} {s : State} {A : Nat → Prop}
def g_tm (i : Nat) : Term := match i with
  | 0 => .string "TugLake$LakeReader" 92
  | 1 => .string "TugLake$LakeReader" 66
  | _ => .string "TugLake$Worths" 153
theorem g_3 {p : Nat → Prop} (h0 : p 0) (h1 : p 1) (h2 : p 2) : ∀ i, i < 3 → p i := fun i hi => by
  rcases (show i = 0 ∨ i = 1 ∨ i = 2 by omega) with rfl | rfl | rfl
  · exact h0
  · exact h1
  · exact h2
theorem g_2 {p : Nat → Prop} (h0 : p 0) (h1 : p 1) : ∀ i, i < 2 → p i := fun i hi => by
  rcases (show i = 0 ∨ i = 1 by omega) with rfl | rfl
  · exact h0
  · exact h1
theorem g_4 {p : Nat → Prop} (h0 : p 0) (h1 : p 1) (h2 : p 2) (h3 : p 3) : ∀ i, i < 4 → p i := fun i hi => by
  rcases (show i = 0 ∨ i = 1 ∨ i = 2 ∨ i = 3 by omega) with rfl | rfl | rfl | rfl
  · exact h0
  · exact h1
  · exact h2
  · exact h3
theorem g_5 {p : Nat → Prop} (h0 : p 0) (h1 : p 1) (h2 : p 2) (h3 : p 3) (h4 : p 4) : ∀ i, i < 5 → p i := fun i hi => by
  rcases (show i = 0 ∨ i = 1 ∨ i = 2 ∨ i = 3 ∨ i = 4 by omega) with rfl | rfl | rfl | rfl | rfl
  · exact h0
  · exact h1
  · exact h2
  · exact h3
  · exact h4
set_option maxHeartbeats 4000000 in
set_option maxRecDepth 100000 in
theorem g_strs (hgv : (Jvm.Cond.and given_1 narrow_1).before args s = true) (hA : ∀ a : Nat, a < s.heap.size → ¬ A a) : ∃ adK adV : Nat → Nat, vk_S 3 sc_len sc_byt adK adV A s s.heap ∧ ∀ i : Nat, i < 3 → (g_tm i).eval args s none [] s = some (.ref (adK i)) := by
  have hs := flat_of_before _ hgv
  refine vk_Sof (g_3 (by decide) (by decide) (by decide)) (g_3 (hs _ (by decide +kernel)) (hs _ (by decide +kernel)) (hs _ (by decide +kernel))) (g_3 (hs _ (by decide +kernel)) (hs _ (by decide +kernel)) (hs _ (by decide +kernel))) (g_3 (hs _ (by decide +kernel)) (hs _ (by decide +kernel)) (hs _ (by decide +kernel))) (g_3 (hs _ (by decide +kernel)) (hs _ (by decide +kernel)) (hs _ (by decide +kernel))) (g_3 (g_4 (hs _ (by decide +kernel)) (hs _ (by decide +kernel)) (hs _ (by decide +kernel)) (hs _ (by decide +kernel))) (g_2 (hs _ (by decide +kernel)) (hs _ (by decide +kernel))) (g_5 (hs _ (by decide +kernel)) (hs _ (by decide +kernel)) (hs _ (by decide +kernel)) (hs _ (by decide +kernel)) (hs _ (by decide +kernel)))) (fun i j hi hj hij => ?_) hA
  have e1 : (Cond.not (Cond.eq (g_tm 0) (g_tm 1))).before args s = true := hs _ (by decide +kernel)
  have e2 : (Cond.not (Cond.eq (g_tm 0) (g_tm 2))).before args s = true := hs _ (by decide +kernel)
  have e3 : (Cond.not (Cond.eq (g_tm 1) (g_tm 2))).before args s = true := hs _ (by decide +kernel)
  rcases (show i = 0 ∨ i = 1 ∨ i = 2 by omega) with rfl | rfl | rfl <;> rcases (show j = 0 ∨ j = 1 ∨ j = 2 by omega) with rfl | rfl | rfl
  · exact absurd rfl hij
  · exact Or.inl e1
  · exact Or.inl e2
  · exact Or.inr e1
  · exact absurd rfl hij
  · exact Or.inl e3
  · exact Or.inr e2
  · exact Or.inr e3
  · exact absurd rfl hij
set_option maxHeartbeats 4000000 in
set_option maxRecDepth 100000 in
theorem g_arr0 (hgv : (Jvm.Cond.and given_1 narrow_1).before args s = true) (hts : ∀ w ∈ lw_tbl, w.before args s = true) (hA : ∀ a : Nat, a < s.heap.size → ¬ A a) : ∃ t : Nat, va_T .int t 4 (fun j => .int (su_v 0 j)) A s s.heap ∧ va_Z RX2 "PLACE_LEAST" "[I" (.ref t) A s s.heap := by
  have hs := flat_of_before _ hgv
  obtain ⟨t, h1, h2⟩ := va_Tof (args := args) (s := s) (tm := .static "TugLake$LakeReader" "PLACE_LEAST" "[I") (ty := .int) (N := 4) (f := fun j => .int (su_v 0 j)) (A := A) (by decide) (hs _ (by decide +kernel)) (va_eqt (hs _ (by decide +kernel))) (g_4 (va_eqt (hs _ (by decide +kernel))) (va_eqt (hs _ (by decide +kernel))) (va_eqt (hs _ (by decide +kernel))) (va_eqt (hs _ (by decide +kernel)))) hA
  exact ⟨t, h2, va_Zof (hts _ (k_s3 4 (by decide +kernel))) (hts _ (k_s1 4 (by decide +kernel))) h1 hA⟩
set_option maxHeartbeats 4000000 in
set_option maxRecDepth 100000 in
theorem g_arr1 (hgv : (Jvm.Cond.and given_1 narrow_1).before args s = true) (hts : ∀ w ∈ lw_tbl, w.before args s = true) (hA : ∀ a : Nat, a < s.heap.size → ¬ A a) : ∃ t : Nat, va_T .int t 4 (fun j => .int (su_v 1 j)) A s s.heap ∧ va_Z RX2 "PLACE_MOST" "[I" (.ref t) A s s.heap := by
  have hs := flat_of_before _ hgv
  obtain ⟨t, h1, h2⟩ := va_Tof (args := args) (s := s) (tm := .static "TugLake$LakeReader" "PLACE_MOST" "[I") (ty := .int) (N := 4) (f := fun j => .int (su_v 1 j)) (A := A) (by decide) (hs _ (by decide +kernel)) (va_eqt (hs _ (by decide +kernel))) (g_4 (va_eqt (hs _ (by decide +kernel))) (va_eqt (hs _ (by decide +kernel))) (va_eqt (hs _ (by decide +kernel))) (va_eqt (hs _ (by decide +kernel)))) hA
  exact ⟨t, h2, va_Zof (hts _ (k_s3 6 (by decide +kernel))) (hts _ (k_s1 4 (by decide +kernel))) h1 hA⟩
set_option maxHeartbeats 4000000 in
set_option maxRecDepth 100000 in
theorem g_arr2 (hgv : (Jvm.Cond.and given_1 narrow_1).before args s = true) (hts : ∀ w ∈ lw_tbl, w.before args s = true) (hA : ∀ a : Nat, a < s.heap.size → ¬ A a) : ∃ t : Nat, va_T .int t 2 (fun j => .int (su_v 2 j)) A s s.heap ∧ va_Z RX2 "LINE_LEAST" "[I" (.ref t) A s s.heap := by
  have hs := flat_of_before _ hgv
  obtain ⟨t, h1, h2⟩ := va_Tof (args := args) (s := s) (tm := .static "TugLake$LakeReader" "LINE_LEAST" "[I") (ty := .int) (N := 2) (f := fun j => .int (su_v 2 j)) (A := A) (by decide) (hs _ (by decide +kernel)) (va_eqt (hs _ (by decide +kernel))) (g_2 (va_eqt (hs _ (by decide +kernel))) (va_eqt (hs _ (by decide +kernel)))) hA
  exact ⟨t, h2, va_Zof (hts _ (k_s3 121 (by decide +kernel))) (hts _ (k_s1 4 (by decide +kernel))) h1 hA⟩
set_option maxHeartbeats 4000000 in
set_option maxRecDepth 100000 in
theorem g_arr3 (hgv : (Jvm.Cond.and given_1 narrow_1).before args s = true) (hts : ∀ w ∈ lw_tbl, w.before args s = true) (hA : ∀ a : Nat, a < s.heap.size → ¬ A a) : ∃ t : Nat, va_T .int t 2 (fun j => .int (su_v 3 j)) A s s.heap ∧ va_Z RX2 "LINE_MOST" "[I" (.ref t) A s s.heap := by
  have hs := flat_of_before _ hgv
  obtain ⟨t, h1, h2⟩ := va_Tof (args := args) (s := s) (tm := .static "TugLake$LakeReader" "LINE_MOST" "[I") (ty := .int) (N := 2) (f := fun j => .int (su_v 3 j)) (A := A) (by decide) (hs _ (by decide +kernel)) (va_eqt (hs _ (by decide +kernel))) (g_2 (va_eqt (hs _ (by decide +kernel))) (va_eqt (hs _ (by decide +kernel)))) hA
  exact ⟨t, h2, va_Zof (hts _ (k_s3 123 (by decide +kernel))) (hts _ (k_s1 4 (by decide +kernel))) h1 hA⟩
set_option maxHeartbeats 4000000 in
set_option maxRecDepth 100000 in
theorem g_fx (hgv : (Jvm.Cond.and given_1 narrow_1).before args s = true) (hts : ∀ w ∈ lw_tbl, w.before args s = true) (hA : ∀ a : Nat, a < s.heap.size → ¬ A a) : ∃ su : Nat → Nat, ∀ (D : va_G) (U : Nat → Nat) (ci cl cb : ClassId), (∀ c, c < 50 → A (U c)) → k_FX (D, U, ci, cl, cb, su) s s.heap := by
  have hs := flat_of_before _ hgv
  obtain ⟨adK, adV, h1, h2⟩ := g_strs hgv hA
  obtain ⟨t0, b0, z0⟩ := g_arr0 hgv hts hA
  obtain ⟨t1, b1, z1⟩ := g_arr1 hgv hts hA
  obtain ⟨t2, b2, z2⟩ := g_arr2 hgv hts hA
  obtain ⟨t3, b3, z3⟩ := g_arr3 hgv hts hA
  have zc : va_Z "java/lang/String" "COMPACT_STRINGS" "Z" (.int 1) A s s.heap := va_Zof (hts _ (k_s3 28 (by decide +kernel))) (hts _ (k_s1 16 (by decide +kernel))) (va_eqi (hs _ (by decide +kernel))) hA
  refine ⟨fun k => match k with | 0 => adK 0 | 1 => adK 1 | 2 => adK 2 | 3 => adV 0 | 4 => adV 1 | 5 => adV 2 | 6 => t0 | 7 => t1 | 8 => t2 | _ => t3, fun D U ci cl cb hU => ?_⟩
  have hn : ∀ q, (fun a => ∃ c, c < 50 ∧ a = U c) q → A q := fun q hq => by
    obtain ⟨c, hc, e⟩ := hq
    rw [e]
    exact hU c hc
  have h1 := h1.narrow hn
  refine ⟨⟨fun i hi => ?_, fun i j hi hj e => ?_⟩, vk_R.of (hts _ (k_s3 2 (by decide +kernel))) (h2 0 (by decide)), vk_R.of (hts _ (k_s3 119 (by decide +kernel))) (h2 1 (by decide)), vk_R.of (hts _ (k_s3 204 (by decide +kernel))) (h2 2 (by decide)), g_4 (b0.narrow hn) (b1.narrow hn) (b2.narrow hn) (b3.narrow hn), z0.narrow hn, z1.narrow hn, z2.narrow hn, z3.narrow hn, zc.narrow hn⟩
  · rcases (show i = 0 ∨ i = 1 ∨ i = 2 by omega) with rfl | rfl | rfl
    · exact h1.1 0 (by decide)
    · exact h1.1 1 (by decide)
    · exact h1.1 2 (by decide)
  · rcases (show i = 0 ∨ i = 1 ∨ i = 2 by omega) with rfl | rfl | rfl <;> rcases (show j = 0 ∨ j = 1 ∨ j = 2 by omega) with rfl | rfl | rfl <;> exact h1.2 _ _ hi hj e
theorem g_ex (hgv : (Jvm.Cond.and given_1 narrow_1).before args s = true) (hts : ∀ w ∈ lw_tbl, w.before args s = true) (hA : ∀ a : Nat, a < s.heap.size → ¬ A a) : g_Ex A s s.heap := by
  have hs := flat_of_before _ hgv
  exact ⟨vx_Zqof (hts _ (k_s6 166 (by decide +kernel))) (hts _ (k_s1 22 (by decide +kernel))) (hs _ (by decide +kernel)) hA, vx_Zqof (hts _ (k_s6 168 (by decide +kernel))) (hts _ (k_s1 22 (by decide +kernel))) (hs _ (by decide +kernel)) hA⟩
theorem g_hT (hts : ∀ w ∈ lw_tbl, w.before args s = true) : ∀ w ∈ k_TT, w.before args s = true := fun w hw => by
  rcases List.mem_append.mp hw with h | h
  · unfold k_ex at h
    simp only [List.mem_cons, List.not_mem_nil, or_false] at h
    rcases h with rfl | rfl
    · exact k_selP (K := RX2) (y0 := yX3_next) (by decide +kernel) rfl (hts _ (k_s2 219 (by decide +kernel))) (hts _ (k_s2 217 (by decide +kernel))) (hts _ (k_s2 239 (by decide +kernel))) (hts _ (k_s3 0 (by decide +kernel)))
    · exact k_selP (K := RX10) (y0 := yX3_next) (by decide +kernel) rfl (hts _ (k_s2 220 (by decide +kernel))) (hts _ (k_s2 217 (by decide +kernel))) (hts _ (k_s2 239 (by decide +kernel))) (hts _ (k_s3 0 (by decide +kernel)))
  · exact hts w (List.mem_filter.mp h).1
theorem g_hN (hts : ∀ w ∈ lw_tbl, w.before args s = true) : ∀ w ∈ k_NT, va_Nw w s := fun w hw => va_Nw.of (A := args) (by
    have h1 := (List.mem_filter.mp hw).2
    cases w <;> first | rfl | (exact absurd h1 (by simp [k_isN]))) (hts w (List.mem_filter.mp hw).1)
theorem g_hD (hts : ∀ w ∈ lw_tbl, w.before args s = true) : ∀ w ∈ g_DN, va_Nw w s := fun w hw => va_Nw.of (A := args) (by
    have h1 := (List.mem_filter.mp hw).2
    cases w <;> first | rfl | (exact absurd h1 (by simp [g_isD]))) (hts w (List.mem_filter.mp hw).1)
theorem g_ac {ty : FieldType} (hpr : ∀ (U : State) (z : ClassId), U.vm.findClass ("[" ++ ty.toString) = some z → va_RA U z ty) (h : (Cond.arrayClass ty).before args s = true) : ∃ c : ClassId, ArrOfT s c ty ∧ va_RA s c ty := by
  obtain ⟨c, k, comp, h1, h2, h3⟩ := Cond.arrayClass_spec h
  exact ⟨c, fun n z => ⟨fun k h => (by cases h), k, h2, comp, h3⟩, hpr _ _ h1⟩
end G23
set_option maxHeartbeats 4000000 in
theorem g_K {args : Array Value} {s : State} (hT : ∀ w ∈ k_TT, w.before args s = true) : ∃ (D : va_G) (ci cl cb : ClassId), va_K D vwCl (t_ty ci cl cb) s := by
  obtain ⟨ci, i1, i2⟩ := g_ac (ty := .int) (fun _ _ h => h) (hT _ t_aI)
  obtain ⟨cl, l1, l2⟩ := g_ac (ty := .long) (fun _ _ h => h) (hT _ t_aJ)
  obtain ⟨cb, b1, b2⟩ := g_ac (ty := .boolean) (fun _ _ h => h) (hT _ t_aZ)
  obtain ⟨c0, s0, k0⟩ := u_known (C := RX0) (T := TX0) (N := 4) (n := 4) hT k_inX0 (hT _ t_nX0)
  obtain ⟨c1, s1, k1⟩ := u_known (C := RX1) (T := TX1) (N := 6) (n := 6) hT k_inX1 (hT _ t_nX1)
  obtain ⟨c2, s2, k2⟩ := u_known (C := RX2) (T := TX2) (N := 8) (n := 8) hT k_inX2 (hT _ t_nX2)
  obtain ⟨c3, s3, k3⟩ := u_known (C := RX4) (T := TX4) (N := 12) (n := 12) hT k_inX4 (hT _ t_nX4)
  obtain ⟨c4, s4, k4⟩ := u_known (C := RX5) (T := TX5) (N := 8) (n := 8) hT k_inX5 (hT _ t_nX5)
  obtain ⟨c5, s5, k5⟩ := u_known (C := RX6) (T := TX6) (N := 13) (n := 13) hT k_inX6 (hT _ t_nX6)
  obtain ⟨c6, s6, k6⟩ := u_known (C := RX7) (T := TX7) (N := 3) (n := 3) hT k_inX7 (hT _ t_nX7)
  obtain ⟨c7, s7, k7⟩ := u_known (C := RX8) (T := TX8) (N := 2) (n := 2) hT k_inX8 (hT _ t_nX8)
  obtain ⟨c8, s8, k8⟩ := u_known (C := RX9) (T := TX9) (N := 3) (n := 3) hT k_inX9 (hT _ t_nX9)
  obtain ⟨c9, s9, k9⟩ := u_known (C := RX10) (T := TX10) (N := 11) (n := 11) hT k_inX10 (hT _ t_nX10)
  obtain ⟨c10, s10, k10⟩ := u_known (C := RX11) (T := TX11) (N := 17) (n := 17) hT k_inX11 (hT _ t_nX11)
  obtain ⟨c11, s11, k11⟩ := u_known (C := RX12) (T := TX12) (N := 73) (n := 73) hT k_inX12 (hT _ t_nX12)
  refine ⟨(fun k => match k with | 0 => c0 | 1 => c1 | 2 => c2 | 3 => c3 | 4 => c4 | 5 => c5 | 6 => c6 | 7 => c7 | 8 => c8 | 9 => c9 | 10 => c10 | _ => c11, fun k => match k with | 0 => s0 | 1 => s1 | 2 => s2 | 3 => s3 | 4 => s4 | 5 => s5 | 6 => s6 | 7 => s7 | 8 => s8 | 9 => s9 | 10 => s10 | _ => s11), ci, cl, cb, fun k q hq => ?_, fun k q hq => ?_⟩
  · have hk : k < 12 := (List.getElem?_eq_some_iff.mp hq).1
    rcases (show k = 0 ∨ k = 1 ∨ k = 2 ∨ k = 3 ∨ k = 4 ∨ k = 5 ∨ k = 6 ∨ k = 7 ∨ k = 8 ∨ k = 9 ∨ k = 10 ∨ k = 11 by omega) with rfl | rfl | rfl | rfl | rfl | rfl | rfl | rfl | rfl | rfl | rfl | rfl
    · cases hq; exact k0
    · cases hq; exact k1
    · cases hq; exact k2
    · cases hq; exact k3
    · cases hq; exact k4
    · cases hq; exact k5
    · cases hq; exact k6
    · cases hq; exact k7
    · cases hq; exact k8
    · cases hq; exact k9
    · cases hq; exact k10
    · cases hq; exact k11
  · have hk : k < 3 := (List.getElem?_eq_some_iff.mp hq).1
    rcases (show k = 0 ∨ k = 1 ∨ k = 2 by omega) with rfl | rfl | rfl
    · cases hq; exact ⟨i1, i2⟩
    · cases hq; exact ⟨l1, l2⟩
    · cases hq; exact ⟨b1, b2⟩
theorem g_appP {D : va_G} {cl : List vw_C} {a b : va_W} {H : Heap} (h : va_P D cl (a ++ b) H) : va_P D cl a H ∧ va_P D cl b H := ⟨fun k q hk => h k q (by rw [List.getElem?_append_left (List.getElem?_eq_some_iff.mp hk).1]; exact hk), fun k q hk => h (a.length + k) q (by rw [List.getElem?_append_right (Nat.le_add_right _ _), Nat.add_sub_cancel_left]; exact hk)⟩
theorem g_appD {A : Nat → Prop} {a b : va_W} (h : va_D A (a ++ b)) : va_D A a ∧ va_D A b ∧ ∀ (i j : Nat) (p q : Nat × va_E), a[i]? = some p → b[j]? = some q → p.1 ≠ q.1 := by
  have l : ∀ (k : Nat) (q : Nat × va_E), a[k]? = some q → (a ++ b)[k]? = some q := fun k q hk => by rw [List.getElem?_append_left (List.getElem?_eq_some_iff.mp hk).1]; exact hk
  have r : ∀ (k : Nat) (q : Nat × va_E), b[k]? = some q → (a ++ b)[a.length + k]? = some q := fun k q hk => by rw [List.getElem?_append_right (Nat.le_add_right _ _), Nat.add_sub_cancel_left]; exact hk
  refine ⟨⟨fun i j p q hi hj e => h.1 i j p q (l i p hi) (l j q hj) e, fun k q hk => h.2 k q (l k q hk)⟩, ⟨fun i j p q hi hj e => ?_, fun k q hk => h.2 _ q (r k q hk)⟩, fun i j p q hi hj e => ?_⟩
  · have := h.1 _ _ p q (r i p hi) (r j q hj) e
    omega
  · have h1 := h.1 _ _ p q (l i p hi) (r j q hj) e
    have h2 := (List.getElem?_eq_some_iff.mp hi).1
    omega
theorem g_adr {ws : va_W} {n : Nat} {U : Nat → Nat} (h : ws.map Prod.fst = (List.range n).map U) : ∀ (k : Nat) (q : Nat × va_E), ws[k]? = some q → k < n ∧ q.1 = U k := fun k q hk => by
  have h1 : (ws.map Prod.fst)[k]? = some q.1 := by rw [List.getElem?_map, hk]; rfl
  rw [h, List.getElem?_map] at h1
  cases hr : (List.range n)[k]? with
  | none => rw [hr] at h1; cases h1
  | some j =>
    rw [hr] at h1
    obtain ⟨hl, he⟩ := List.getElem?_eq_some_iff.mp hr
    rw [List.getElem_range] at he
    rw [List.length_range] at hl
    subst he
    exact ⟨hl, (Option.some.inj h1).symm⟩
theorem g_adr' {ws : va_W} {n : Nat} {U : Nat → Nat} (h : ws.map Prod.fst = (List.range n).map U) (k : Nat) (hk : k < n) : ∃ q : Nat × va_E, ws[k]? = some q ∧ q.1 = U k := by
  have hl : ws.length = n := by
    have := congrArg List.length h
    simpa using this
  have hk2 : k < ws.length := by omega
  exact ⟨ws[k], List.getElem?_eq_getElem hk2, (g_adr h k _ (List.getElem?_eq_getElem hk2)).2⟩
theorem g_allD {ws ws' : va_W} {n : Nat} {U : Nat → Nat} {A : Nat → Prop} (h : ws.map Prod.fst = (List.range n).map U) (h' : ws'.map Prod.fst = (List.range n).map U) (hD : va_D A ws) : va_D (fun a => ∃ c, c < n ∧ a = U c) ws' := ⟨fun i j p q hi hj e => by
    obtain ⟨i1, i2⟩ := g_adr h' i p hi
    obtain ⟨j1, j2⟩ := g_adr h' j q hj
    obtain ⟨p1, p2, p3⟩ := g_adr' h i i1
    obtain ⟨q1, q2, q3⟩ := g_adr' h j j1
    exact hD.1 i j p1 q1 p2 q2 (by rw [p3, q3, ← i2, ← j2]; exact e), fun k q hk => by
    obtain ⟨k1, k2⟩ := g_adr h' k q hk
    exact ⟨k, k1, k2⟩⟩
theorem g_wXf (w : k_WC) (σ : k_St) : (k_wX w σ).map Prod.fst = (List.range 50).map w.2.1 := rfl
theorem g_wMf (w : k_WC) (σ : k_St) : (k_wM w σ).map Prod.fst = (List.range 47).map w.2.1 := rfl
def i_X : k_St := (fun c => match c with
  | 3 => fun k => match k with | 3 => -1 | _ => 0
  | 7 => fun k => match k with | 3 => -1 | 5 => -1 | _ => 0
  | 41 => fun k => match k with | 0 => -1 | 2 => -1 | _ => 0
  | 43 => (upd (upd (upd (upd (fun _ => 0) 0 (-1)) 1 (-1)) 2 (-1)) 3 (-1))
  | _ => fun _ => 0, fun c => match c with
  | 33 => fun k => match k with | 2 => 1 | _ => 0
  | 44 => (vp_updL (vp_updL (vp_updL (vp_updL (fun _ => 0) 0 (-1)) 1 (-1)) 2 (-1)) 3 (-1))
  | _ => fun _ => 0)
def i_M : k_St := (fun c => match c with
  | 0 => fun k => match k with | 30 => -1 | _ => 0
  | 22 => (upd (upd (upd (upd (fun _ => 0) 0 (-1)) 1 (-1)) 2 (-1)) 3 (-1))
  | _ => fun _ => 0, fun _ _ => 0)
def g_U (h0 : Nat) (u : Nat → Nat) : Nat → Nat := fun c => match c with
  | 0 => h0
  | k + 1 => u (k + 1)
theorem g_iX (D : va_G) (ci cl cb : ClassId) (h0 : Nat) (u su : Nat → Nat) : t_wX11 ci cl cb h0 u = k_wX (D, g_U h0 u, ci, cl, cb, su) i_X := rfl
theorem g_iM (D : va_G) (ci cl cb : ClassId) (h0 : Nat) (u su : Nat → Nat) : t_wX12 ci cl cb h0 u = k_wM (D, g_U h0 u, ci, cl, cb, su) i_M := rfl
theorem g_kL_8 : Cond.classLink RL 8 RX11 ∈ k_TT := k_tt (k_s1 27 (by decide +kernel)) rfl
theorem g_kL_16 : Cond.classLink RL 16 RX12 ∈ k_TT := k_tt (k_s6 200 (by decide +kernel)) rfl
theorem g_lL_15 : Cond.methodLink RL 15 yX11_init ∈ k_TT := k_tt (k_s1 29 (by decide +kernel)) rfl
theorem g_lL_18 : Cond.methodLink RL 18 yX12_init ∈ k_TT := k_tt (k_s6 202 (by decide +kernel)) rfl
