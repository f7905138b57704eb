/-! K: the walk of a method over one fixed world; nothing is made -/
abbrev k_St : Type := (Nat → Nat → Int32) × (Nat → Nat → Int64)
def k_rd (σ : k_St) (c k : Nat) : Int32 := σ.1 c k
def k_rl (σ : k_St) (c k : Nat) : Int64 := σ.2 c k
def k_wr (σ : k_St) (c k : Nat) (x : Int32) : k_St := (fun j => if j = c then upd (σ.1 c) k x else σ.1 j, σ.2)
def k_wl (σ : k_St) (c k : Nat) (x : Int64) : k_St := (σ.1, fun j => if j = c then vp_updL (σ.2 c) k x else σ.2 j)
/-- a whole row of a cell -/
def k_wA (σ : k_St) (c : Nat) (f : Nat → Int32) : k_St := (fun j => if j = c then f else σ.1 j, σ.2)
def k_wB (σ : k_St) (c : Nat) (f : Nat → Int64) : k_St := (σ.1, fun j => if j = c then f else σ.2 j)
/-- a named value, a guard, a step -/
def k_nm {α β : Type} (x : α) (k : α → Option β) : Option β := k x
def k_gd {β : Type} (p : Prop) [Decidable p] (k : Option β) : Option β := if p then k else none
def k_bd {α β : Type} (x : Option α) (k : α → Option β) : Option β := match x with
  | some a => k a
  | none => none
def k_if {β : Type} (p : Prop) [Decidable p] (a b : Option β) : Option β := if p then a else b
theorem k_nm_e {α β : Type} {x : α} {k : α → Option β} {r : β} (h : k_nm x k = some r) : ∀ y : α, y = x → k y = some r := fun y e => by rw [e]; exact h
theorem k_gd_e {β : Type} {p : Prop} [Decidable p] {k : Option β} {r : β} (h : k_gd p k = some r) : p ∧ k = some r := by
  unfold k_gd at h
  by_cases hp : p
  · rw [if_pos hp] at h; exact ⟨hp, h⟩
  · rw [if_neg hp] at h; cases h
theorem k_bd_e {α β : Type} {x : Option α} {k : α → Option β} {r : β} (h : k_bd x k = some r) : ∃ a, x = some a ∧ k a = some r := by
  cases x with
  | none => cases h
  | some a => exact ⟨a, rfl, h⟩
theorem k_if_t {β : Type} {p : Prop} [Decidable p] {a b : Option β} {r : β} (h : k_if p a b = some r) (hp : p) : a = some r := by
  unfold k_if at h
  rw [if_pos hp] at h; exact h
theorem k_if_f {β : Type} {p : Prop} [Decidable p] {a b : Option β} {r : β} (h : k_if p a b = some r) (hp : ¬ p) : b = some r := by
  unfold k_if at h
  rw [if_neg hp] at h; exact h
def k_ex : List Cond := [.selects RX2 yX3_failAt yX3_failAt, .selects RX10 yX3_failAt yX3_failAt]
def k_TT : List Cond := k_ex ++ lw_tbl.filter goodWord
def k_isN : Cond → Bool
  | .fieldLinkNest .. => true
  | .methodLinkNest .. => true
  | _ => false
def k_NT : List Cond := lw_tbl.filter k_isN
theorem k_s1 {w : Cond} (j : Nat) (h : tables_1_1[j]? = some w) : w ∈ lw_tbl := List.mem_append_right _ (List.mem_append_left _ (List.mem_of_getElem? h))
theorem k_s2 {w : Cond} (j : Nat) (h : tables_1_2[j]? = some w) : w ∈ lw_tbl := List.mem_append_right _ (List.mem_append_right _ (List.mem_append_left _ (List.mem_of_getElem? h)))
theorem k_s3 {w : Cond} (j : Nat) (h : tables_1_3[j]? = some w) : w ∈ lw_tbl := List.mem_append_right _ (List.mem_append_right _ (List.mem_append_right _ (List.mem_append_left _ (List.mem_of_getElem? h))))
theorem k_s4 {w : Cond} (j : Nat) (h : tables_1_4[j]? = some w) : w ∈ lw_tbl := List.mem_append_right _ (List.mem_append_right _ (List.mem_append_right _ (List.mem_append_right _ (List.mem_append_left _ (List.mem_of_getElem? h)))))
theorem k_s5 {w : Cond} (j : Nat) (h : tables_1_5[j]? = some w) : w ∈ lw_tbl := List.mem_append_right _ (List.mem_append_right _ (List.mem_append_right _ (List.mem_append_right _ (List.mem_append_right _ (List.mem_append_left _ (List.mem_of_getElem? h))))))
theorem k_s6 {w : Cond} (j : Nat) (h : tables_1_6[j]? = some w) : w ∈ lw_tbl := List.mem_append_right _ (List.mem_append_right _ (List.mem_append_right _ (List.mem_append_right _ (List.mem_append_right _ (List.mem_append_right _ (List.mem_append_left _ (List.mem_of_getElem? h)))))))
theorem k_s7 {w : Cond} (j : Nat) (h : tables_1_7[j]? = some w) : w ∈ lw_tbl := List.mem_append_right _ (List.mem_append_right _ (List.mem_append_right _ (List.mem_append_right _ (List.mem_append_right _ (List.mem_append_right _ (List.mem_append_right _ (List.mem_append_left _ (List.mem_of_getElem? h))))))))
theorem k_s8 {w : Cond} (j : Nat) (h : tables_1_8[j]? = some w) : w ∈ lw_tbl := List.mem_append_right _ (List.mem_append_right _ (List.mem_append_right _ (List.mem_append_right _ (List.mem_append_right _ (List.mem_append_right _ (List.mem_append_right _ (List.mem_append_right _ (List.mem_append_left _ (List.mem_of_getElem? h)))))))))
theorem k_s9 {w : Cond} (j : Nat) (h : tables_1_9[j]? = some w) : w ∈ lw_tbl := List.mem_append_right _ (List.mem_append_right _ (List.mem_append_right _ (List.mem_append_right _ (List.mem_append_right _ (List.mem_append_right _ (List.mem_append_right _ (List.mem_append_right _ (List.mem_append_right _ (List.mem_of_getElem? h)))))))))
theorem k_s0 {w : Cond} (j : Nat) (h : lw_tbl[j]? = some w) : w ∈ lw_tbl := List.mem_of_getElem? h
theorem k_tt {w : Cond} (h : w ∈ lw_tbl) (hg : goodWord w = true) : w ∈ k_TT := List.mem_append_right _ (List.mem_filter.mpr ⟨h, hg⟩)
theorem k_nt {w : Cond} (h : w ∈ lw_tbl) (hg : k_isN w = true) : w ∈ k_NT := List.mem_filter.mpr ⟨h, hg⟩
theorem k_good {w : Cond} (h : w ∈ k_TT) : w ∈ k_TT ∧ ((w.onTables && w.keeps) = true ∨ ∃ ty, w = .arrayClass ty) := ⟨h, good_of_word (by
  rcases List.mem_append.mp h with h | h
  · unfold k_ex at h
    simp only [List.mem_cons, List.not_mem_nil, or_false] at h
    rcases h with rfl | rfl <;> rfl
  · exact (List.mem_filter.mp h).2)⟩
def k_ws (y : MethodName) (b : ByteArray) (ml : Nat) (ret : Option FieldType) : List Cond := Cond.code y b ml ret :: k_TT
theorem k_goodIn {y : MethodName} {b : ByteArray} {ml : Nat} {ret : Option FieldType} (h : Cond.code y b ml ret ∈ k_TT) : GoodIn k_TT (k_ws y b ml ret) := fun w hw => (List.mem_cons.mp hw).elim (fun e => e ▸ k_good h) k_good
def k_rm (d : Nat) : Room := { frames := d, cells := 0, slots := 0, locals := 40 * d }
theorem k_nw {w : Cond} (h : w ∈ k_NT) {s U : State} (hW : s.WarmedH U.vm) (hZ : va_Nw w s) : va_Nw w U := by
  have h1 := (List.mem_filter.mp h).2
  cases w <;> first | exact va_Nw.warmF hW hZ | exact va_Nw.warmM hW hZ | (exact absurd h1 (by simp [k_isN]))
abbrev k_WP : Type := va_G × (k_St → va_W) × (Nat → Prop) × List (ClassId × FieldType) × (State → Heap → Prop)
def k_FP (P : k_WP) : Prop := ∀ (s U : State) (H H1 : Heap), s.WarmedH U.vm → (∀ a : Nat, a < H.size → ¬ P.2.2.1 a → H1[a]? = H[a]?) → P.2.2.2.2 s H → P.2.2.2.2 U H1
def k_W (P : k_WP) (σ : k_St) (U : State) : Prop := va_P P.1 vwCl (P.2.1 σ) U.heap ∧ va_K P.1 vwCl P.2.2.2.1 U ∧ (∀ ρ : k_St, va_D P.2.2.1 (P.2.1 ρ)) ∧ (∀ w ∈ k_NT, va_Nw w U) ∧ k_FP P ∧ P.2.2.2.2 U U.heap
theorem k_W.moved {P : k_WP} {σ : k_St} {s U : State} (hW : s.WarmedH U.vm) (hP : va_P P.1 vwCl (P.2.1 σ) U.heap) (hK : va_K P.1 vwCl P.2.2.2.1 s) (hD : ∀ ρ : k_St, va_D P.2.2.1 (P.2.1 ρ)) (hN : ∀ w ∈ k_NT, va_Nw w s) (hQ : k_FP P) {locs : List Loc} (hS : va_S P.2.2.1 s.heap U.heap locs) (hF : P.2.2.2.2 s s.heap) : k_W P σ U := ⟨hP, va_K.moved hW.alike hK, hD, fun w h => k_nw h hW (hN w h), hQ, hQ s U s.heap U.heap hW hS.2.1 hF⟩
theorem k_blind {P : k_WP} {σ : k_St} {av : List Value} : FrameBlind (va_Pc av (k_W P σ)) := fun a U g mk q => by
  obtain ⟨q0, qP, qK, qD, qN, qQ, qF⟩ := q
  exact ⟨q0, qP, va_K.moved (u := U) (U := U.calling g mk a) (Vm.Alike.refl U.vm) qK, qD, fun w h => va_Nw.same (u := U) (by
    have h1 := (List.mem_filter.mp h).2
    cases w <;> first | rfl | (exact absurd h1 (by simp [k_isN]))) rfl (qN w h), qQ, qQ U (U.calling g mk a) U.heap U.heap (State.WarmedH.refl U) (fun _ _ _ => rfl) qF⟩
abbrev k_CT : Type := Program × Launch × Env × Room × State × MethodId × Array Value × List Frame × Method × Code
def k_C (P : k_WP) (X : k_CT) (cc : ByteArray) (own : String) (d nL : Nat) : Prop := X.1.tables.exec = Jvm.exec ∧ X.2.2.2.2.2.2.2.2.2.code = cc ∧ X.2.2.2.2.2.2.2.2.2.maxLocals = nL ∧ X.2.2.2.2.1.vm.findClass own = some X.2.2.2.2.2.1.cls ∧ (∀ w ∈ k_TT, w.before X.2.2.2.2.2.2.1 X.2.2.2.2.1 = true) ∧ (∀ w ∈ k_NT, va_Nw w X.2.2.2.2.1) ∧ va_K P.1 vwCl P.2.2.2.1 X.2.2.2.2.1 ∧ (∀ ρ : k_St, va_D P.2.2.1 (P.2.1 ρ)) ∧ X.2.2.2.1 = k_rm d ∧ X.2.2.2.2.2.2.2.2.1.locks = false ∧ k_FP P ∧ P.2.2.2.2 X.2.2.2.2.1 X.2.2.2.2.1.heap
def k_K (P : k_WP) (X : k_CT) (Q : State → Prop) (pc : Nat) (L : List (Nat × Value)) (st : List Value) (σ : k_St) : Prop := ∀ (H : Heap) (locs : List Loc) (ls : Array Slot), va_P P.1 vwCl (P.2.1 σ) H → va_S P.2.2.1 X.2.2.2.2.1.heap H locs → lv_has ls X.2.2.2.2.2.2.2.2.2.maxLocals L → W X.1 X.2.1 X.2.2.1 X.2.2.2.1 X.2.2.2.2.1 X.2.2.2.2.2.1 X.2.2.2.2.2.2.1 X.2.2.2.2.2.2.2.1 X.2.2.2.2.2.2.2.2.1 X.2.2.2.2.2.2.2.2.2 H locs 0 0 Q (F0 X.2.2.2.2.2.1 pc ls st)
def k_Qi (P : k_WP) (r : Int32) (σ : k_St) : Array Value → State → Outcome → State → Prop := va_Qi (fun (a : Int32) (u : k_St) => a = r ∧ u = σ) (fun u t => va_P P.1 vwCl (P.2.1 u) t.heap) P.2.2.1
def k_Ql (P : k_WP) (r : Int64) (σ : k_St) : Array Value → State → Outcome → State → Prop := va_Ql (fun (a : Int64) (u : k_St) => a = r ∧ u = σ) (fun u t => va_P P.1 vwCl (P.2.1 u) t.heap) P.2.2.1
def k_Qv (P : k_WP) (σ : k_St) : Array Value → State → Outcome → State → Prop := va_Qv (fun (u : k_St) => u = σ) (fun u t => va_P P.1 vwCl (P.2.1 u) t.heap) P.2.2.1
def k_EI (l : Launch) (P : k_WP) (y : MethodName) (b : ByteArray) (ml : Nat) (ret : Option FieldType) (d : Nat) (av : List Value) (σ : k_St) (r : Int32) (σ' : k_St) : Prop := Met l y (k_ws y b ml ret) (k_rm d) (va_Pc av (k_W P σ)) (k_Qi P r σ') 0 0 P.2.2.1
def k_EL (l : Launch) (P : k_WP) (y : MethodName) (b : ByteArray) (ml : Nat) (d : Nat) (av : List Value) (σ : k_St) (r : Int64) (σ' : k_St) : Prop := Met l y (k_ws y b ml (some .long)) (k_rm d) (va_Pc av (k_W P σ)) (k_Ql P r σ') 0 0 P.2.2.1
def k_EV (l : Launch) (P : k_WP) (y : MethodName) (b : ByteArray) (ml : Nat) (d : Nat) (av : List Value) (σ : k_St) (σ' : k_St) : Prop := Met l y (k_ws y b ml none) (k_rm d) (va_Pc av (k_W P σ)) (k_Qv P σ') 0 0 P.2.2.1
def k_MQ (X : k_CT) (Qc : Array Value → State → Outcome → State → Prop) (A : Nat → Prop) : State → Prop := MQ X.2.2.2.2.2.2.2.1 Qc X.2.2.2.2.2.2.1 X.2.2.2.2.1 0 0 A
def o_rem (x y : Int32) : Int32 := x - x / y * y
def o_lrem (x y : Int64) : Int64 := x - x / y * y
def o_shl (x y : Int32) : Int32 := x <<< (y &&& 31)
def o_shr (x y : Int32) : Int32 := x >>> (y &&& 31)
def o_ushr (x y : Int32) : Int32 := (x.toUInt32 >>> (y.toUInt32 &&& Int32.toUInt32 31)).toInt32
def o_lushr (x : Int64) (y : Int32) : Int64 := (x.toUInt64 >>> (y.toInt64.toUInt64 &&& Int64.toUInt64 63)).toInt64
def o_lshl (x : Int64) (y : Int32) : Int64 := x <<< (y.toInt64 &&& 63)
def o_i2c (x : Int32) : Int32 := (x.toUInt32 % 65536).toInt32
/-- a row of joined ways, a loop -/
def k_jn {α β : Type} (j : α) (k : α → Option β) : Option β := k j
theorem k_jn_e {α β : Type} {j : α} {k : α → Option β} {r : β} (h : k_jn j k = some r) : ∃ f, f = j ∧ k f = some r := ⟨j, rfl, h⟩
def k_loop {α β : Type} (b : (α → Option β) → α → Option β) : Nat → α → Option β
  | 0, _ => none
  | n + 1, a => b (k_loop b n) a
theorem k_lp_e {α β : Type} {b : (α → Option β) → α → Option β} {n : Nat} {a : α} {r : β} (h : k_loop b n a = some r) : ∃ f, f = b ∧ k_loop f n a = some r := ⟨b, rfl, h⟩
theorem k_lp_s {α β : Type} {b : (α → Option β) → α → Option β} {n : Nat} {a : α} {r : β} (h : k_loop b (n + 1) a = some r) : ∃ g, g = k_loop b n ∧ b g a = some r := ⟨_, rfl, h⟩
def k_b2 {α β γ : Type} (x : Option (α × β)) (k : α → β → Option γ) : Option γ := match x with
  | some a => k a.1 a.2
  | none => none
theorem k_b2_e {α β γ : Type} {x : Option (α × β)} {k : α → β → Option γ} {r : γ} (h : k_b2 x k = some r) : ∃ a b, x = some (a, b) ∧ k a b = some r := by
  cases x with
  | none => cases h
  | some a => exact ⟨a.1, a.2, rfl, h⟩
section KB
variable {P : k_WP} {l : Launch} {y : MethodName} {b : ByteArray} {ml d : Nat} {ret : Option FieldType} {av : List Value} {σ σ' : k_St}
theorem k_of {own : String} {Qc : Array Value → State → Outcome → State → Prop} (ho : y.cls = own) (hy : plainName y.cls = true) (hs : (lg_sl av).length ≤ ml) (body : ∀ X : k_CT, X.2.1 = l → k_C P X b own d ml → X.2.2.2.2.2.2.2.2.1.sig.returnType = ret → k_K P X (k_MQ X Qc P.2.2.1) 0 (lv_args 0 av) [] σ) : Met l y (k_ws y b ml ret) (k_rm d) (va_Pc av (k_W P σ)) Qc 0 0 P.2.2.1 := by
  refine Met.ofW (cc := b) (maxL := ml) (ret := ret) hy rfl ?_
  intro p e s m args below meth c s₁ B hml hv
  obtain ⟨rfl, hP, hK, hD, hN, hQ, hF⟩ := hv
  have hts := atoms_spec (ws := k_ws y b ml ret) B.pre
  have hl := lv_entry av (n := ml) hs
  rw [lg_entry_eq]
  refine body (p, l, e, k_rm d, s, m, av.toArray, below, meth, c) rfl ⟨B.exec, B.bytes, hml, by rw [← ho]; exact findClass_of_methodNamed B.named, fun w h => hts w (List.mem_cons_of_mem _ h), hN, hK, hD, rfl, B.notSynchronized, hQ, hF⟩ B.returns s.heap [] _ hP va_S.rf ?_
  show lv_has _ c.maxLocals _
  rw [hml]
  exact hl
end KB
section KR
variable {P : k_WP} {X : k_CT} {cc : ByteArray} {own : String} {d nL pc : Nat} {Q : State → Prop} {L L' : List (Nat × Value)} {st rest : List Value} {σ σ' : k_St}
theorem k_iret {r v : Int32} (C : k_C P X cc own d nL) (hd : decode cc pc = .ok (.ireturn, 1)) (hr : X.2.2.2.2.2.2.2.2.1.sig.returnType = some .int) (h : (v, σ) = (r, σ')) : k_K P X (k_MQ X (k_Qi P r σ') P.2.2.1) pc L [.int v] σ := by
  cases h
  exact fun H locs ls hP hS hl => W.iret C.1 C.2.1 hr (fun t ht hW => ⟨⟨_, _, rfl, ⟨rfl, rfl⟩, by subst ht; exact hP⟩, hS.F ht⟩) hS.2.2 hd C.2.2.2.2.2.2.2.2.2.1
theorem k_zret {r v : Int32} (C : k_C P X cc own d nL) (hd : decode cc pc = .ok (.ireturn, 1)) (hr : X.2.2.2.2.2.2.2.2.1.sig.returnType = some .boolean) (hn : narrow .boolean (.int v) = .int v) (h : (v, σ) = (r, σ')) : k_K P X (k_MQ X (k_Qi P r σ') P.2.2.1) pc L [.int v] σ := by
  cases h
  exact fun H locs ls hP hS hl => W.zret C.1 C.2.1 hr hn (fun t ht hW => ⟨⟨_, _, rfl, ⟨rfl, rfl⟩, by subst ht; exact hP⟩, hS.F ht⟩) hS.2.2 hd C.2.2.2.2.2.2.2.2.2.1
theorem k_lret {r v : Int64} (C : k_C P X cc own d nL) (hd : decode cc pc = .ok (.lreturn, 1)) (hr : X.2.2.2.2.2.2.2.2.1.sig.returnType = some .long) (h : (v, σ) = (r, σ')) : k_K P X (k_MQ X (k_Ql P r σ') P.2.2.1) pc L [.long v] σ := by
  cases h
  exact fun H locs ls hP hS hl => W.lret C.1 C.2.1 hr (fun t ht hW => ⟨⟨_, _, rfl, ⟨rfl, rfl⟩, by subst ht; exact hP⟩, hS.F ht⟩) hS.2.2 hd C.2.2.2.2.2.2.2.2.2.1
theorem k_vret (C : k_C P X cc own d nL) (hd : decode cc pc = .ok (.return_, 1)) (hr : X.2.2.2.2.2.2.2.2.1.sig.returnType = none) (h : σ = σ') : k_K P X (k_MQ X (k_Qv P σ') P.2.2.1) pc L [] σ := by
  cases h
  exact fun H locs ls hP hS hl => W.vret C.1 C.2.1 hr (fun t ht hW => ⟨⟨_, rfl, rfl, by subst ht; exact hP⟩, hS.F ht⟩) hS.2.2 hd C.2.2.2.2.2.2.2.2.2.1
theorem k_topi {x : Int32} (k : ∀ z : Int32, z = x → k_K P X Q pc L (.int z :: st) σ) : k_K P X Q pc L (.int x :: st) σ := k x rfl
theorem k_topl {x : Int64} (k : ∀ z : Int64, z = x → k_K P X Q pc L (.long z :: st) σ) : k_K P X Q pc L (.long x :: st) σ := k x rfl
theorem k_st (k : ∀ ρ : k_St, ρ = σ → k_K P X Q pc L st ρ) : k_K P X Q pc L st σ := k σ rfl
theorem k_sub (ks : List Nat) (h : lv_pick L ks = L') (k : k_K P X Q pc L' st σ) : k_K P X Q pc L st σ := fun H locs ls hP hS hl => k H locs ls hP hS (lv_sub hl ks h)
theorem k_iadd (C : k_C P X cc own d nL) {x y : Int32} (hd : decode cc pc = .ok (.iadd, 1))  (k : k_K P X Q (pc + 1) L (.int (x + y) :: st) σ) : k_K P X Q pc L (.int y :: .int x :: st) σ := fun H locs ls hP hS hl => lv_iadd C.1 C.2.1 hd  (k H locs ls hP hS hl)
theorem k_isub (C : k_C P X cc own d nL) {x y : Int32} (hd : decode cc pc = .ok (.isub, 1))  (k : k_K P X Q (pc + 1) L (.int (x - y) :: st) σ) : k_K P X Q pc L (.int y :: .int x :: st) σ := fun H locs ls hP hS hl => lv_isub C.1 C.2.1 hd  (k H locs ls hP hS hl)
theorem k_imul (C : k_C P X cc own d nL) {x y : Int32} (hd : decode cc pc = .ok (.imul, 1))  (k : k_K P X Q (pc + 1) L (.int (x * y) :: st) σ) : k_K P X Q pc L (.int y :: .int x :: st) σ := fun H locs ls hP hS hl => lv_imul C.1 C.2.1 hd  (k H locs ls hP hS hl)
theorem k_iand (C : k_C P X cc own d nL) {x y : Int32} (hd : decode cc pc = .ok (.iand, 1))  (k : k_K P X Q (pc + 1) L (.int (x &&& y) :: st) σ) : k_K P X Q pc L (.int y :: .int x :: st) σ := fun H locs ls hP hS hl => lv_iand C.1 C.2.1 hd  (k H locs ls hP hS hl)
theorem k_ior (C : k_C P X cc own d nL) {x y : Int32} (hd : decode cc pc = .ok (.ior, 1))  (k : k_K P X Q (pc + 1) L (.int (x ||| y) :: st) σ) : k_K P X Q pc L (.int y :: .int x :: st) σ := fun H locs ls hP hS hl => lv_ior C.1 C.2.1 hd  (k H locs ls hP hS hl)
theorem k_ixor (C : k_C P X cc own d nL) {x y : Int32} (hd : decode cc pc = .ok (.ixor, 1))  (k : k_K P X Q (pc + 1) L (.int (x ^^^ y) :: st) σ) : k_K P X Q pc L (.int y :: .int x :: st) σ := fun H locs ls hP hS hl => lv_ixor C.1 C.2.1 hd  (k H locs ls hP hS hl)
theorem k_ladd (C : k_C P X cc own d nL) {x y : Int64} (hd : decode cc pc = .ok (.ladd, 1))  (k : k_K P X Q (pc + 1) L (.long (x + y) :: st) σ) : k_K P X Q pc L (.long y :: .long x :: st) σ := fun H locs ls hP hS hl => lv_ladd C.1 C.2.1 hd  (k H locs ls hP hS hl)
theorem k_lsub (C : k_C P X cc own d nL) {x y : Int64} (hd : decode cc pc = .ok (.lsub, 1))  (k : k_K P X Q (pc + 1) L (.long (x - y) :: st) σ) : k_K P X Q pc L (.long y :: .long x :: st) σ := fun H locs ls hP hS hl => lv_lsub C.1 C.2.1 hd  (k H locs ls hP hS hl)
theorem k_lmul (C : k_C P X cc own d nL) {x y : Int64} (hd : decode cc pc = .ok (.lmul, 1))  (k : k_K P X Q (pc + 1) L (.long (x * y) :: st) σ) : k_K P X Q pc L (.long y :: .long x :: st) σ := fun H locs ls hP hS hl => lv_lmul C.1 C.2.1 hd  (k H locs ls hP hS hl)
theorem k_land (C : k_C P X cc own d nL) {x y : Int64} (hd : decode cc pc = .ok (.land, 1))  (k : k_K P X Q (pc + 1) L (.long (x &&& y) :: st) σ) : k_K P X Q pc L (.long y :: .long x :: st) σ := fun H locs ls hP hS hl => lv_land C.1 C.2.1 hd  (k H locs ls hP hS hl)
theorem k_lor (C : k_C P X cc own d nL) {x y : Int64} (hd : decode cc pc = .ok (.lor, 1))  (k : k_K P X Q (pc + 1) L (.long (x ||| y) :: st) σ) : k_K P X Q pc L (.long y :: .long x :: st) σ := fun H locs ls hP hS hl => lv_lor C.1 C.2.1 hd  (k H locs ls hP hS hl)
theorem k_lxor (C : k_C P X cc own d nL) {x y : Int64} (hd : decode cc pc = .ok (.lxor, 1))  (k : k_K P X Q (pc + 1) L (.long (x ^^^ y) :: st) σ) : k_K P X Q pc L (.long y :: .long x :: st) σ := fun H locs ls hP hS hl => lv_lxor C.1 C.2.1 hd  (k H locs ls hP hS hl)
theorem k_idiv (C : k_C P X cc own d nL) {x y : Int32} (hd : decode cc pc = .ok (.idiv, 1)) (hne : ¬ y = 0) (k : k_K P X Q (pc + 1) L (.int (x / y) :: st) σ) : k_K P X Q pc L (.int y :: .int x :: st) σ := fun H locs ls hP hS hl => lv_idiv C.1 C.2.1 hd hne (k H locs ls hP hS hl)
theorem k_irem (C : k_C P X cc own d nL) {x y : Int32} (hd : decode cc pc = .ok (.irem, 1)) (hne : ¬ y = 0) (k : k_K P X Q (pc + 1) L (.int (o_rem x y) :: st) σ) : k_K P X Q pc L (.int y :: .int x :: st) σ := fun H locs ls hP hS hl => lv_irem C.1 C.2.1 hd hne (k H locs ls hP hS hl)
theorem k_ldiv (C : k_C P X cc own d nL) {x y : Int64} (hd : decode cc pc = .ok (.ldiv, 1)) (hne : ¬ y = 0) (k : k_K P X Q (pc + 1) L (.long (x / y) :: st) σ) : k_K P X Q pc L (.long y :: .long x :: st) σ := fun H locs ls hP hS hl => lv_ldiv C.1 C.2.1 hd hne (k H locs ls hP hS hl)
theorem k_lrem (C : k_C P X cc own d nL) {x y : Int64} (hd : decode cc pc = .ok (.lrem, 1)) (hne : ¬ y = 0) (k : k_K P X Q (pc + 1) L (.long (o_lrem x y) :: st) σ) : k_K P X Q pc L (.long y :: .long x :: st) σ := fun H locs ls hP hS hl => lv_lrem C.1 C.2.1 hd hne (k H locs ls hP hS hl)
theorem k_ishl (C : k_C P X cc own d nL) {x y : Int32} (hd : decode cc pc = .ok (.ishl, 1))  (k : k_K P X Q (pc + 1) L (.int (o_shl x y) :: st) σ) : k_K P X Q pc L (.int y :: .int x :: st) σ := fun H locs ls hP hS hl => lv_ishl C.1 C.2.1 hd  (k H locs ls hP hS hl)
theorem k_ishr (C : k_C P X cc own d nL) {x y : Int32} (hd : decode cc pc = .ok (.ishr, 1))  (k : k_K P X Q (pc + 1) L (.int (o_shr x y) :: st) σ) : k_K P X Q pc L (.int y :: .int x :: st) σ := fun H locs ls hP hS hl => lv_ishr C.1 C.2.1 hd  (k H locs ls hP hS hl)
theorem k_iushr (C : k_C P X cc own d nL) {x y : Int32} (hd : decode cc pc = .ok (.iushr, 1))  (k : k_K P X Q (pc + 1) L (.int (o_ushr x y) :: st) σ) : k_K P X Q pc L (.int y :: .int x :: st) σ := fun H locs ls hP hS hl => lv_iushr C.1 C.2.1 hd rfl (k H locs ls hP hS hl)
theorem k_lushr (C : k_C P X cc own d nL) {x : Int64} {y : Int32} (hd : decode cc pc = .ok (.lushr, 1))  (k : k_K P X Q (pc + 1) L (.long (o_lushr x y) :: st) σ) : k_K P X Q pc L (.int y :: .long x :: st) σ := fun H locs ls hP hS hl => lv_lushr C.1 C.2.1 hd rfl (k H locs ls hP hS hl)
theorem k_lshl (C : k_C P X cc own d nL) {x : Int64} {y : Int32} (hd : decode cc pc = .ok (.lshl, 1))  (k : k_K P X Q (pc + 1) L (.long (o_lshl x y) :: st) σ) : k_K P X Q pc L (.int y :: .long x :: st) σ := fun H locs ls hP hS hl => lv_lshl C.1 C.2.1 hd rfl (k H locs ls hP hS hl)
theorem k_i2l (C : k_C P X cc own d nL) {x : Int32} (hd : decode cc pc = .ok (.i2l, 1))  (k : k_K P X Q (pc + 1) L (.long x.toInt64 :: st) σ) : k_K P X Q pc L (.int x :: st) σ := fun H locs ls hP hS hl => lv_i2l C.1 C.2.1 hd rfl (k H locs ls hP hS hl)
theorem k_l2i (C : k_C P X cc own d nL) {x : Int64} (hd : decode cc pc = .ok (.l2i, 1))  (k : k_K P X Q (pc + 1) L (.int x.toInt32 :: st) σ) : k_K P X Q pc L (.long x :: st) σ := fun H locs ls hP hS hl => lv_l2i C.1 C.2.1 hd rfl (k H locs ls hP hS hl)
theorem k_i2c (C : k_C P X cc own d nL) {x : Int32} (hd : decode cc pc = .ok (.i2c, 1))  (k : k_K P X Q (pc + 1) L (.int (o_i2c x) :: st) σ) : k_K P X Q pc L (.int x :: st) σ := fun H locs ls hP hS hl => lv_i2c C.1 C.2.1 hd rfl (k H locs ls hP hS hl)
theorem k_iconst (C : k_C P X cc own d nL) {n : Int} (hd : decode cc pc = .ok (.iconst n, 1)) {v : Int32} (hv : Int32.ofInt n = v) (k : k_K P X Q (pc + 1) L (.int v :: st) σ) : k_K P X Q pc L (st) σ := fun H locs ls hP hS hl => lv_iconst C.1 C.2.1 hd hv (k H locs ls hP hS hl)
theorem k_bipush (C : k_C P X cc own d nL) {n : Int} (hd : decode cc pc = .ok (.bipush n, 2)) {v : Int32} (hv : (Int8.ofInt n).toInt32 = v) (k : k_K P X Q (pc + 2) L (.int v :: st) σ) : k_K P X Q pc L (st) σ := fun H locs ls hP hS hl => lv_bipush C.1 C.2.1 hd hv (k H locs ls hP hS hl)
theorem k_sipush (C : k_C P X cc own d nL) {n : Int} (hd : decode cc pc = .ok (.sipush n, 3)) {v : Int32} (hv : (Int16.ofInt n).toInt32 = v) (k : k_K P X Q (pc + 3) L (.int v :: st) σ) : k_K P X Q pc L (st) σ := fun H locs ls hP hS hl => lv_sipush C.1 C.2.1 hd hv (k H locs ls hP hS hl)
theorem k_lconst (C : k_C P X cc own d nL) {n : Fin 2} (hd : decode cc pc = .ok (.lconst n, 1)) {v : Int64} (hv : Int64.ofNat (n : Nat) = v) (k : k_K P X Q (pc + 1) L (.long v :: st) σ) : k_K P X Q pc L (st) σ := fun H locs ls hP hS hl => lv_lconst C.1 C.2.1 hd hv (k H locs ls hP hS hl)
theorem k_dup (C : k_C P X cc own d nL) {va : Value} (hd : decode cc pc = .ok (.dup, 1)) (hva : va.category = 1) (k : k_K P X Q (pc + 1) L (va :: va :: st) σ) : k_K P X Q pc L (va :: st) σ := fun H locs ls hP hS hl => lv_dup C.1 C.2.1 hd hva (k H locs ls hP hS hl)
theorem k_pop (C : k_C P X cc own d nL) {va : Value} (hd : decode cc pc = .ok (.pop, 1)) (hva : va.category = 1) (k : k_K P X Q (pc + 1) L (st) σ) : k_K P X Q pc L (va :: st) σ := fun H locs ls hP hS hl => lv_pop C.1 C.2.1 hd hva (k H locs ls hP hS hl)
theorem k_iload_n (C : k_C P X cc own d nL) {i : Fin 4} {x : Int32} (hd : decode cc pc = .ok (.iload_n i, 1)) (j : Nat) (hj : L[j]? = some ((i : Nat), .int x)) (k : k_K P X Q (pc + 1) L (.int x :: st) σ) : k_K P X Q pc L (st) σ := fun H locs ls hP hS hl => lv_iload_n C.1 C.2.1 hd rfl (lv_at hl j hj) (k H locs ls hP hS hl)
theorem k_iload (C : k_C P X cc own d nL) {i : Nat} {x : Int32} (hd : decode cc pc = .ok (.iload i, 2)) (j : Nat) (hj : L[j]? = some (i, .int x)) (k : k_K P X Q (pc + 2) L (.int x :: st) σ) : k_K P X Q pc L (st) σ := fun H locs ls hP hS hl => lv_iload C.1 C.2.1 hd (lv_at hl j hj) (k H locs ls hP hS hl)
theorem k_istore_n (C : k_C P X cc own d nL) {i : Fin 4} {x : Int32} (hd : decode cc pc = .ok (.istore_n i, 1)) (hn : (i : Nat) < nL) (ks : List Nat) (hl : lv_pick (((i : Nat), .int x) :: L.filter (fun q => !(q.1 == (i : Nat)) && !(q.1 + 1 == (i : Nat) && q.2.category == 2))) ks = L') (k : k_K P X Q (pc + 1) L' (st) σ) : k_K P X Q pc L (.int x :: st) σ := fun H locs ls hP hS h0 => lv_istore_n C.1 C.2.1 hd rfl h0 (by rw [C.2.2.1]; exact hn) rfl (fun ls2 h2 => k H locs ls2 hP hS (lv_sub h2 ks hl))
theorem k_istore (C : k_C P X cc own d nL) {i : Nat} {x : Int32} (hd : decode cc pc = .ok (.istore i, 2)) (hn : i < nL) (ks : List Nat) (hl : lv_pick ((i, .int x) :: L.filter (fun q => !(q.1 == i) && !(q.1 + 1 == i && q.2.category == 2))) ks = L') (k : k_K P X Q (pc + 2) L' (st) σ) : k_K P X Q pc L (.int x :: st) σ := fun H locs ls hP hS h0 => lv_istore C.1 C.2.1 hd h0 (by rw [C.2.2.1]; exact hn) rfl (fun ls2 h2 => k H locs ls2 hP hS (lv_sub h2 ks hl))
theorem k_lload_n (C : k_C P X cc own d nL) {i : Fin 4} {x : Int64} (hd : decode cc pc = .ok (.lload_n i, 1)) (j : Nat) (hj : L[j]? = some ((i : Nat), .long x)) (k : k_K P X Q (pc + 1) L (.long x :: st) σ) : k_K P X Q pc L (st) σ := fun H locs ls hP hS hl => lv_lload_n C.1 C.2.1 hd rfl (lv_at hl j hj) (k H locs ls hP hS hl)
theorem k_lload (C : k_C P X cc own d nL) {i : Nat} {x : Int64} (hd : decode cc pc = .ok (.lload i, 2)) (j : Nat) (hj : L[j]? = some (i, .long x)) (k : k_K P X Q (pc + 2) L (.long x :: st) σ) : k_K P X Q pc L (st) σ := fun H locs ls hP hS hl => lv_lload C.1 C.2.1 hd (lv_at hl j hj) (k H locs ls hP hS hl)
theorem k_lstore_n (C : k_C P X cc own d nL) {i : Fin 4} {x : Int64} (hd : decode cc pc = .ok (.lstore_n i, 1)) (hn : (i : Nat) + 1 < nL) (ks : List Nat) (hl : lv_pick (((i : Nat), .long x) :: L.filter (fun q => !(q.1 == (i : Nat)) && (!(q.1 == (i : Nat) + 1) && !(q.1 + 1 == (i : Nat) && q.2.category == 2)))) ks = L') (k : k_K P X Q (pc + 1) L' (st) σ) : k_K P X Q pc L (.long x :: st) σ := fun H locs ls hP hS h0 => lv_lstore_n C.1 C.2.1 hd rfl h0 (by rw [C.2.2.1]; exact hn) rfl (fun ls2 h2 => k H locs ls2 hP hS (lv_sub h2 ks hl))
theorem k_lstore (C : k_C P X cc own d nL) {i : Nat} {x : Int64} (hd : decode cc pc = .ok (.lstore i, 2)) (hn : i + 1 < nL) (ks : List Nat) (hl : lv_pick ((i, .long x) :: L.filter (fun q => !(q.1 == i) && (!(q.1 == i + 1) && !(q.1 + 1 == i && q.2.category == 2)))) ks = L') (k : k_K P X Q (pc + 2) L' (st) σ) : k_K P X Q pc L (.long x :: st) σ := fun H locs ls hP hS h0 => lv_lstore C.1 C.2.1 hd h0 (by rw [C.2.2.1]; exact hn) rfl (fun ls2 h2 => k H locs ls2 hP hS (lv_sub h2 ks hl))
theorem k_aload_n (C : k_C P X cc own d nL) {i : Fin 4} {x : Nat} (hd : decode cc pc = .ok (.aload_n i, 1)) (j : Nat) (hj : L[j]? = some ((i : Nat), .ref x)) (k : k_K P X Q (pc + 1) L (.ref x :: st) σ) : k_K P X Q pc L (st) σ := fun H locs ls hP hS hl => lv_aload_n C.1 C.2.1 hd rfl (lv_at hl j hj) (k H locs ls hP hS hl)
theorem k_aload (C : k_C P X cc own d nL) {i : Nat} {x : Nat} (hd : decode cc pc = .ok (.aload i, 2)) (j : Nat) (hj : L[j]? = some (i, .ref x)) (k : k_K P X Q (pc + 2) L (.ref x :: st) σ) : k_K P X Q pc L (st) σ := fun H locs ls hP hS hl => lv_aload C.1 C.2.1 hd (lv_at hl j hj) (k H locs ls hP hS hl)
theorem k_astore_n (C : k_C P X cc own d nL) {i : Fin 4} {x : Nat} (hd : decode cc pc = .ok (.astore_n i, 1)) (hn : (i : Nat) < nL) (ks : List Nat) (hl : lv_pick (((i : Nat), .ref x) :: L.filter (fun q => !(q.1 == (i : Nat)) && !(q.1 + 1 == (i : Nat) && q.2.category == 2))) ks = L') (k : k_K P X Q (pc + 1) L' (st) σ) : k_K P X Q pc L (.ref x :: st) σ := fun H locs ls hP hS h0 => lv_astore_n C.1 C.2.1 hd rfl h0 (by rw [C.2.2.1]; exact hn) rfl (fun ls2 h2 => k H locs ls2 hP hS (lv_sub h2 ks hl))
theorem k_astore (C : k_C P X cc own d nL) {i : Nat} {x : Nat} (hd : decode cc pc = .ok (.astore i, 2)) (hn : i < nL) (ks : List Nat) (hl : lv_pick ((i, .ref x) :: L.filter (fun q => !(q.1 == i) && !(q.1 + 1 == i && q.2.category == 2))) ks = L') (k : k_K P X Q (pc + 2) L' (st) σ) : k_K P X Q pc L (.ref x :: st) σ := fun H locs ls hP hS h0 => lv_astore C.1 C.2.1 hd h0 (by rw [C.2.2.1]; exact hn) rfl (fun ls2 h2 => k H locs ls2 hP hS (lv_sub h2 ks hl))
theorem k_iinc {L' : Int32 → List (Nat × Value)} (C : k_C P X cc own d nL) {i : Nat} {n : Int} {x : Int32} (hd : decode cc pc = .ok (.iinc i n, 3)) (j : Nat) (hj : L[j]? = some (i, .int x)) {v : Int32} (hv : Int32.ofInt n = v) (hn : i < nL) (ks : List Nat) (hl : ∀ z : Int32, lv_pick ((i, .int z) :: L.filter (fun q => !(q.1 == i) && !(q.1 + 1 == i && q.2.category == 2))) ks = L' z) (k : ∀ z : Int32, z = x + v → k_K P X Q (pc + 3) (L' z) st σ) : k_K P X Q pc L (st) σ := fun H locs ls hP hS h0 => lv_iinc C.1 C.2.1 hd h0 hj (by rw [hv]) (by rw [C.2.2.1]; exact hn) rfl (fun ls2 h2 => k _ rfl H locs ls2 hP hS (lv_sub h2 ks (hl _)))
theorem k_goto (C : k_C P X cc own d nL) {off : Int} {tgt : Nat} (hd : decode cc pc = .ok (.goto off, 3)) (ht : (pc : Int) + off = (tgt : Int)) (k : k_K P X Q tgt L (st) σ) : k_K P X Q pc L (st) σ := fun H locs ls hP hS hl => lv_goto C.1 C.2.1 hd ht (k H locs ls hP hS hl)
theorem k_if_eq (C : k_C P X cc own d nL) {x : Int32} {off : Int} {tgt : Nat} (hd : decode cc pc = .ok (.ifCond .eq off, 3)) (ht : (pc : Int) + off = (tgt : Int)) (kt : x = 0 → k_K P X Q tgt L (st) σ) (kf : ¬ x = 0 → k_K P X Q (pc + 3) L (st) σ) : k_K P X Q pc L (.int x :: st) σ := fun H locs ls hP hS hl => lv_if_eq C.1 C.2.1 hd ht (fun q => kt q H locs ls hP hS hl) (fun q => kf q H locs ls hP hS hl)
theorem k_icmp_eq (C : k_C P X cc own d nL) {x y : Int32} {off : Int} {tgt : Nat} (hd : decode cc pc = .ok (.if_icmp .eq off, 3)) (ht : (pc : Int) + off = (tgt : Int)) (kt : x = y → k_K P X Q tgt L (st) σ) (kf : ¬ x = y → k_K P X Q (pc + 3) L (st) σ) : k_K P X Q pc L (.int y :: .int x :: st) σ := fun H locs ls hP hS hl => lv_icmp_eq C.1 C.2.1 hd ht (fun q => kt q H locs ls hP hS hl) (fun q => kf q H locs ls hP hS hl)
theorem k_if_ne (C : k_C P X cc own d nL) {x : Int32} {off : Int} {tgt : Nat} (hd : decode cc pc = .ok (.ifCond .ne off, 3)) (ht : (pc : Int) + off = (tgt : Int)) (kt : ¬ x = 0 → k_K P X Q tgt L (st) σ) (kf : x = 0 → k_K P X Q (pc + 3) L (st) σ) : k_K P X Q pc L (.int x :: st) σ := fun H locs ls hP hS hl => lv_if_ne C.1 C.2.1 hd ht (fun q => kt q H locs ls hP hS hl) (fun q => kf q H locs ls hP hS hl)
theorem k_icmp_ne (C : k_C P X cc own d nL) {x y : Int32} {off : Int} {tgt : Nat} (hd : decode cc pc = .ok (.if_icmp .ne off, 3)) (ht : (pc : Int) + off = (tgt : Int)) (kt : ¬ x = y → k_K P X Q tgt L (st) σ) (kf : x = y → k_K P X Q (pc + 3) L (st) σ) : k_K P X Q pc L (.int y :: .int x :: st) σ := fun H locs ls hP hS hl => lv_icmp_ne C.1 C.2.1 hd ht (fun q => kt q H locs ls hP hS hl) (fun q => kf q H locs ls hP hS hl)
theorem k_if_lt (C : k_C P X cc own d nL) {x : Int32} {off : Int} {tgt : Nat} (hd : decode cc pc = .ok (.ifCond .lt off, 3)) (ht : (pc : Int) + off = (tgt : Int)) (kt : x < 0 → k_K P X Q tgt L (st) σ) (kf : ¬ x < 0 → k_K P X Q (pc + 3) L (st) σ) : k_K P X Q pc L (.int x :: st) σ := fun H locs ls hP hS hl => lv_if_lt C.1 C.2.1 hd ht (fun q => kt q H locs ls hP hS hl) (fun q => kf q H locs ls hP hS hl)
theorem k_icmp_lt (C : k_C P X cc own d nL) {x y : Int32} {off : Int} {tgt : Nat} (hd : decode cc pc = .ok (.if_icmp .lt off, 3)) (ht : (pc : Int) + off = (tgt : Int)) (kt : x < y → k_K P X Q tgt L (st) σ) (kf : ¬ x < y → k_K P X Q (pc + 3) L (st) σ) : k_K P X Q pc L (.int y :: .int x :: st) σ := fun H locs ls hP hS hl => lv_icmp_lt C.1 C.2.1 hd ht (fun q => kt q H locs ls hP hS hl) (fun q => kf q H locs ls hP hS hl)
theorem k_if_ge (C : k_C P X cc own d nL) {x : Int32} {off : Int} {tgt : Nat} (hd : decode cc pc = .ok (.ifCond .ge off, 3)) (ht : (pc : Int) + off = (tgt : Int)) (kt : 0 ≤ x → k_K P X Q tgt L (st) σ) (kf : ¬ 0 ≤ x → k_K P X Q (pc + 3) L (st) σ) : k_K P X Q pc L (.int x :: st) σ := fun H locs ls hP hS hl => lv_if_ge C.1 C.2.1 hd ht (fun q => kt q H locs ls hP hS hl) (fun q => kf q H locs ls hP hS hl)
theorem k_icmp_ge (C : k_C P X cc own d nL) {x y : Int32} {off : Int} {tgt : Nat} (hd : decode cc pc = .ok (.if_icmp .ge off, 3)) (ht : (pc : Int) + off = (tgt : Int)) (kt : y ≤ x → k_K P X Q tgt L (st) σ) (kf : ¬ y ≤ x → k_K P X Q (pc + 3) L (st) σ) : k_K P X Q pc L (.int y :: .int x :: st) σ := fun H locs ls hP hS hl => lv_icmp_ge C.1 C.2.1 hd ht (fun q => kt q H locs ls hP hS hl) (fun q => kf q H locs ls hP hS hl)
theorem k_if_gt (C : k_C P X cc own d nL) {x : Int32} {off : Int} {tgt : Nat} (hd : decode cc pc = .ok (.ifCond .gt off, 3)) (ht : (pc : Int) + off = (tgt : Int)) (kt : 0 < x → k_K P X Q tgt L (st) σ) (kf : ¬ 0 < x → k_K P X Q (pc + 3) L (st) σ) : k_K P X Q pc L (.int x :: st) σ := fun H locs ls hP hS hl => lv_if_gt C.1 C.2.1 hd ht (fun q => kt q H locs ls hP hS hl) (fun q => kf q H locs ls hP hS hl)
theorem k_icmp_gt (C : k_C P X cc own d nL) {x y : Int32} {off : Int} {tgt : Nat} (hd : decode cc pc = .ok (.if_icmp .gt off, 3)) (ht : (pc : Int) + off = (tgt : Int)) (kt : y < x → k_K P X Q tgt L (st) σ) (kf : ¬ y < x → k_K P X Q (pc + 3) L (st) σ) : k_K P X Q pc L (.int y :: .int x :: st) σ := fun H locs ls hP hS hl => lv_icmp_gt C.1 C.2.1 hd ht (fun q => kt q H locs ls hP hS hl) (fun q => kf q H locs ls hP hS hl)
theorem k_if_le (C : k_C P X cc own d nL) {x : Int32} {off : Int} {tgt : Nat} (hd : decode cc pc = .ok (.ifCond .le off, 3)) (ht : (pc : Int) + off = (tgt : Int)) (kt : x ≤ 0 → k_K P X Q tgt L (st) σ) (kf : ¬ x ≤ 0 → k_K P X Q (pc + 3) L (st) σ) : k_K P X Q pc L (.int x :: st) σ := fun H locs ls hP hS hl => lv_if_le C.1 C.2.1 hd ht (fun q => kt q H locs ls hP hS hl) (fun q => kf q H locs ls hP hS hl)
theorem k_icmp_le (C : k_C P X cc own d nL) {x y : Int32} {off : Int} {tgt : Nat} (hd : decode cc pc = .ok (.if_icmp .le off, 3)) (ht : (pc : Int) + off = (tgt : Int)) (kt : x ≤ y → k_K P X Q tgt L (st) σ) (kf : ¬ x ≤ y → k_K P X Q (pc + 3) L (st) σ) : k_K P X Q pc L (.int y :: .int x :: st) σ := fun H locs ls hP hS hl => lv_icmp_le C.1 C.2.1 hd ht (fun q => kt q H locs ls hP hS hl) (fun q => kf q H locs ls hP hS hl)
theorem k_lcmp (C : k_C P X cc own d nL) {x y : Int64} (hd : decode cc pc = .ok (.lcmp, 1))  (k : k_K P X Q (pc + 1) L (.int (lg_cmp x y) :: st) σ) : k_K P X Q pc L (.long y :: .long x :: st) σ := fun H locs ls hP hS hl => W.lcmp C.1 C.2.1 hd  (k H locs ls hP hS hl)
def k_ix (i : Int32) (n : Nat) : Bool := decide (0 ≤ i) && decide (i.toNatClampNeg < n)
theorem k_ix_vp {i : Int32} {n : Nat} (h : k_ix i n = true) : vp_in i n := by
  unfold k_ix at h
  rw [Bool.and_eq_true, decide_eq_true_eq, decide_eq_true_eq] at h
  unfold vp_in
  rw [not_or]
  exact ⟨Int32.not_lt.mpr h.1, Nat.not_le.mpr h.2⟩
/-- an int row: its cell's number, its address, its class, its length -/
def k_AI (P : k_WP) (ty : FieldType) (c a n : Nat) : Prop := ∃ (t0 : Nat) (cy : ClassId), P.2.2.2.1[t0]? = some (cy, ty) ∧ ∀ ρ : k_St, (P.2.1 ρ)[c]? = some (a, .inl (cy, n, .inl (ρ.1 c))) ∧ ∀ f : Nat → Int32, (P.2.1 ρ).set c (a, .inl (cy, n, .inl f)) = P.2.1 (k_wA ρ c f)
def k_AL (P : k_WP) (c a n : Nat) : Prop := ∃ (t0 : Nat) (cy : ClassId), P.2.2.2.1[t0]? = some (cy, .long) ∧ ∀ ρ : k_St, (P.2.1 ρ)[c]? = some (a, .inl (cy, n, .inr (.inl (ρ.2 c)))) ∧ ∀ f : Nat → Int64, (P.2.1 ρ).set c (a, .inl (cy, n, .inr (.inl f))) = P.2.1 (k_wB ρ c f)
theorem k_iald (C : k_C P X cc own d nL) {c a n : Nat} {i : Int32} (hd : decode cc pc = .ok (.iaload, 1)) (hA : k_AI P .int c a n) (hi : k_ix i n = true) (k : k_K P X Q (pc + 1) L (.int (k_rd σ c i.toNatClampNeg) :: st) σ) : k_K P X Q pc L (.int i :: .ref a :: st) σ := fun H locs ls hP hS hl => by
  obtain ⟨t0, cy, h0, hA⟩ := hA
  exact va_iald C.1 C.2.1 C.2.2.2.2.2.2.1 hP c t0 (hA σ).1 h0 (k_ix_vp hi) hd (k H locs ls hP hS hl)
theorem k_zald (C : k_C P X cc own d nL) {c a n : Nat} {i : Int32} (hd : decode cc pc = .ok (.baload, 1)) (hA : k_AI P .boolean c a n) (hi : k_ix i n = true) (k : k_K P X Q (pc + 1) L (.int (k_rd σ c i.toNatClampNeg) :: st) σ) : k_K P X Q pc L (.int i :: .ref a :: st) σ := fun H locs ls hP hS hl => by
  obtain ⟨t0, cy, h0, hA⟩ := hA
  exact va_zald C.1 C.2.1 C.2.2.2.2.2.2.1 hP c t0 (hA σ).1 h0 (k_ix_vp hi) hd (k H locs ls hP hS hl)
theorem k_lald (C : k_C P X cc own d nL) {c a n : Nat} {i : Int32} (hd : decode cc pc = .ok (.laload, 1)) (hA : k_AL P c a n) (hi : k_ix i n = true) (k : k_K P X Q (pc + 1) L (.long (k_rl σ c i.toNatClampNeg) :: st) σ) : k_K P X Q pc L (.int i :: .ref a :: st) σ := fun H locs ls hP hS hl => by
  obtain ⟨t0, cy, h0, hA⟩ := hA
  exact va_lald C.1 C.2.1 C.2.2.2.2.2.2.1 hP c t0 (hA σ).1 h0 (k_ix_vp hi) hd (k H locs ls hP hS hl)
theorem k_iast (C : k_C P X cc own d nL) {c a n : Nat} {i x : Int32} (hd : decode cc pc = .ok (.iastore, 1)) (hA : k_AI P .int c a n) (hi : k_ix i n = true) (k : k_K P X Q (pc + 1) L st (k_wr σ c i.toNatClampNeg x)) : k_K P X Q pc L (.int x :: .int i :: .ref a :: st) σ := fun H locs ls hP hS hl => by
  obtain ⟨t0, cy, h0, hA⟩ := hA
  refine va_iast C.1 C.2.1 C.2.2.2.2.2.2.1 hP (C.2.2.2.2.2.2.2.1 σ) hS c t0 (hA σ).1 h0 (k_ix_vp hi) hd (fun H1 locs1 hP1 hD1 hS1 => ?_)
  rw [(hA σ).2] at hP1
  exact k H1 locs1 ls hP1 hS1 hl
theorem k_zast (C : k_C P X cc own d nL) {c a n : Nat} {i x : Int32} (hd : decode cc pc = .ok (.bastore, 1)) (hA : k_AI P .boolean c a n) (hi : k_ix i n = true) (hx : vp_nar .boolean x = x) (k : k_K P X Q (pc + 1) L st (k_wr σ c i.toNatClampNeg x)) : k_K P X Q pc L (.int x :: .int i :: .ref a :: st) σ := fun H locs ls hP hS hl => by
  obtain ⟨t0, cy, h0, hA⟩ := hA
  refine va_zast C.1 C.2.1 C.2.2.2.2.2.2.1 hP (C.2.2.2.2.2.2.2.1 σ) hS c t0 (hA σ).1 h0 (k_ix_vp hi) hd (fun H1 locs1 hP1 hD1 hS1 => ?_)
  rw [hx, (hA σ).2] at hP1
  exact k H1 locs1 ls hP1 hS1 hl
theorem k_last (C : k_C P X cc own d nL) {c a n : Nat} {i : Int32} {x : Int64} (hd : decode cc pc = .ok (.lastore, 1)) (hA : k_AL P c a n) (hi : k_ix i n = true) (k : k_K P X Q (pc + 1) L st (k_wl σ c i.toNatClampNeg x)) : k_K P X Q pc L (.long x :: .int i :: .ref a :: st) σ := fun H locs ls hP hS hl => by
  obtain ⟨t0, cy, h0, hA⟩ := hA
  refine va_last C.1 C.2.1 C.2.2.2.2.2.2.1 hP (C.2.2.2.2.2.2.2.1 σ) hS c t0 (hA σ).1 h0 (k_ix_vp hi) hd (fun H1 locs1 hP1 hD1 hS1 => ?_)
  rw [(hA σ).2] at hP1
  exact k H1 locs1 ls hP1 hS1 hl
theorem k_alen (C : k_C P X cc own d nL) {ty : FieldType} {c a n : Nat} {v : Int32} (hd : decode cc pc = .ok (.arraylength, 1)) (hA : k_AI P ty c a n) (hv : Int32.ofNat n = v) (k : k_K P X Q (pc + 1) L (.int v :: st) σ) : k_K P X Q pc L (.ref a :: st) σ := fun H locs ls hP hS hl => by
  obtain ⟨t0, cy, h0, hA⟩ := hA
  exact va_alen C.1 C.2.1 C.2.2.2.2.2.2.1 hP c t0 (hA σ).1 h0 hv hd (k H locs ls hP hS hl)
theorem k_alenL (C : k_C P X cc own d nL) {c a n : Nat} {v : Int32} (hd : decode cc pc = .ok (.arraylength, 1)) (hA : k_AL P c a n) (hv : Int32.ofNat n = v) (k : k_K P X Q (pc + 1) L (.int v :: st) σ) : k_K P X Q pc L (.ref a :: st) σ := fun H locs ls hP hS hl => by
  obtain ⟨t0, cy, h0, hA⟩ := hA
  exact va_alen C.1 C.2.1 C.2.2.2.2.2.2.1 hP c t0 (hA σ).1 h0 hv hd (k H locs ls hP hS hl)
/-- an object: its cell's number, address, class; the field k of it holds v, and a write of x there is the world of ρ' -/
def k_OG (P : k_WP) (c a k : Nat) (C : String) (T : u_T) (N : Nat) (v : k_St → Value) : Prop := (∀ w ∈ u_ws C T N, w ∈ k_TT) ∧ k < N ∧ ∃ ci : Nat, vwCl[ci]? = some (C, T, N) ∧ ∀ ρ : k_St, ∃ fs : List Value, (P.2.1 ρ)[c]? = some (a, .inr (ci, fs)) ∧ fs[k]? = some (v ρ)
theorem k_get (C : k_C P X cc own d nL) {c a k idx : Nat} {K ref : String} {T : u_T} {N : Nat} {v : k_St → Value} (hd : decode cc pc = .ok (.getfield idx, 3)) (hO : k_OG P c a k K T N v) (hl : Cond.fieldLink own idx ref (T k).2.1 (T k).2.2.1 ∈ k_TT) (hs : ref = (T k).1 ∨ Cond.sameField ref (T k).1 (T k).2.1 (T k).2.2.1 ∈ k_TT) (kk : k_K P X Q (pc + 3) L (v σ :: st) σ) : k_K P X Q pc L (.ref a :: st) σ := fun H locs ls hP hS hl0 => by
  obtain ⟨hin, hk, ci, hc, hO⟩ := hO
  obtain ⟨fs, he, hv⟩ := hO σ
  exact va_get C.1 C.2.1 C.2.2.2.2.1 hin C.2.2.2.1 C.2.2.2.2.2.2.1 hP c he hc k hk (C.2.2.2.2.1 _ hl) (by
    rcases hs with hs | hs
    · subst hs; exact fun _ h => h
    · exact fun x9 h9 => u_same (C.2.2.2.2.1 _ hs) x9 h9) hv hd (kk H locs ls hP hS hl0)
/-- the same of a field that a nest mate's class has as its own -/
theorem k_getN (C : k_C P X cc own d nL) {c a k idx : Nat} {K ref host : String} {T : u_T} {N : Nat} {v : k_St → Value} (hd : decode cc pc = .ok (.getfield idx, 3)) (hO : k_OG P c a k K T N v) (hl : Cond.fieldLinkNest own idx ref (T k).2.1 (T k).2.2.1 host ∈ k_NT) (hs : ref = (T k).1) (kk : k_K P X Q (pc + 3) L (v σ :: st) σ) : k_K P X Q pc L (.ref a :: st) σ := fun H locs ls hP hS hl0 => by
  obtain ⟨hin, hk, ci, hc, hO⟩ := hO
  obtain ⟨fs, he, hv⟩ := hO σ
  subst hs
  exact va_getN C.1 C.2.1 C.2.2.2.2.1 hin C.2.2.2.1 C.2.2.2.2.2.2.1 hP c he hc k hk (va_Nw.use rfl (C.2.2.2.2.2.1 _ hl)) (fun _ h => h) hv hd (kk H locs ls hP hS hl0)
def k_OP (P : k_WP) (c a k : Nat) (C : String) (T : u_T) (N : Nat) (ty : FieldType) : Prop := (∀ w ∈ u_ws C T N, w ∈ k_TT) ∧ k < N ∧ (T k).2.2.2 = false ∧ parseFieldDescriptor (T k).2.2.1 = some ty ∧ (∀ a, a < N → ∀ b, b < N → a ≠ b → (T a).2.1 ≠ (T b).2.1) ∧ (∃ ty0 : Nat → FieldType, ∀ k, k < N → parseFieldDescriptor (T k).2.2.1 = some (ty0 k)) ∧ ∃ ci : Nat, vwCl[ci]? = some (C, T, N) ∧ ∀ ρ : k_St, ∃ fs : List Value, (P.2.1 ρ)[c]? = some (a, .inr (ci, fs)) ∧ k < fs.length ∧ (∀ x : Int32, ty ≠ .long → (P.2.1 ρ).set c (a, .inr (ci, fs.set k (.int x))) = P.2.1 (k_wr ρ c k x)) ∧ (∀ x : Int64, ty = .long → (P.2.1 ρ).set c (a, .inr (ci, fs.set k (.long x))) = P.2.1 (k_wl ρ c k x))
theorem k_puti (C : k_C P X cc own d nL) {c a k idx : Nat} {K ref : String} {T : u_T} {N : Nat} {x : Int32} {ty : FieldType} (hd : decode cc pc = .ok (.putfield idx, 3)) (hO : k_OP P c a k K T N ty) (hl : Cond.fieldLink own idx ref (T k).2.1 (T k).2.2.1 ∈ k_TT) (hs : ref = (T k).1 ∨ Cond.sameField ref (T k).1 (T k).2.1 (T k).2.2.1 ∈ k_TT) (hx : ty ≠ .long ∧ narrow ty (.int x) = .int x ∧ fits ty (.int x) = true) (kk : k_K P X Q (pc + 3) L st (k_wr σ c k x)) : k_K P X Q pc L (.int x :: .ref a :: st) σ := fun H locs ls hP hS hl0 => by
  obtain ⟨hin, hk, hf, hty, hnm, ⟨ty0, hty0⟩, ci, hc, hO⟩ := hO
  obtain ⟨fs, he, hlen, hw, -⟩ := hO σ
  refine va_put C.1 C.2.1 C.2.2.2.2.1 hin ty0 hty0 hnm C.2.2.2.1 C.2.2.2.2.2.2.1 hP (C.2.2.2.2.2.2.2.1 σ) hS c he hc k hk (C.2.2.2.2.1 _ hl) (by
    rcases hs with hs | hs
    · subst hs; exact fun _ h => h
    · exact fun x9 h9 => u_same (C.2.2.2.2.1 _ hs) x9 h9) hf hty hx.2.1 hx.2.2 hlen hd (fun H1 locs1 hP1 hD1 hS1 => ?_)
  rw [hw x hx.1] at hP1
  exact kk H1 locs1 ls hP1 hS1 hl0
theorem k_putl (C : k_C P X cc own d nL) {c a k idx : Nat} {K ref : String} {T : u_T} {N : Nat} {x : Int64} (hd : decode cc pc = .ok (.putfield idx, 3)) (hO : k_OP P c a k K T N .long) (hl : Cond.fieldLink own idx ref (T k).2.1 (T k).2.2.1 ∈ k_TT) (hs : ref = (T k).1) (kk : k_K P X Q (pc + 3) L st (k_wl σ c k x)) : k_K P X Q pc L (.long x :: .ref a :: st) σ := fun H locs ls hP hS hl0 => by
  obtain ⟨hin, hk, hf, hty, hnm, ⟨ty0, hty0⟩, ci, hc, hO⟩ := hO
  obtain ⟨fs, he, hlen, -, hw⟩ := hO σ
  subst hs
  refine va_put C.1 C.2.1 C.2.2.2.2.1 hin ty0 hty0 hnm C.2.2.2.1 C.2.2.2.2.2.2.1 hP (C.2.2.2.2.2.2.2.1 σ) hS c he hc k hk (C.2.2.2.2.1 _ hl) (fun _ h => h) hf hty rfl rfl hlen hd (fun H1 locs1 hP1 hD1 hS1 => ?_)
  rw [hw x rfl] at hP1
  exact kk H1 locs1 ls hP1 hS1 hl0
theorem k_ldc (C : k_C P X cc own d nL) {idx : Nat} {v : Int32} (hd : decode cc pc = .ok (.ldc idx, 2)) (hc : Cond.constant own idx v ∈ k_TT) (k : k_K P X Q (pc + 2) L (.int v :: st) σ) : k_K P X Q pc L st σ := fun H locs ls hP hS hl => lv_ldc C.1 C.2.1 C.2.2.2.1 (C.2.2.2.2.1 _ hc) hd (k H locs ls hP hS hl)
theorem k_ldc2 (C : k_C P X cc own d nL) {idx : Nat} {v : Int64} (hd : decode cc pc = .ok (.ldc2_w idx, 3)) (hc : Cond.constantLong own idx v ∈ k_TT) (k : k_K P X Q (pc + 3) L (.long v :: st) σ) : k_K P X Q pc L st σ := fun H locs ls hP hS hl => lv_ldc2 C.1 C.2.1 C.2.2.2.1 (C.2.2.2.2.1 _ hc) hd (k H locs ls hP hS hl)
end KR
section KC
variable {P : k_WP} {X : k_CT} {cc : ByteArray} {own : String} {d nL pc : Nat} {Q : State → Prop} {L : List (Nat × Value)} {st rest : List Value} {σ σ' : k_St} {x y : MethodName} {b : ByteArray} {ml d2 idx : Nat} {ret : Option FieldType} {As : List Value} {Qc : Array Value → State → Outcome → State → Prop}
def k_Run (P : k_WP) (X : k_CT) (pc : Nat) (L : List (Nat × Value)) (st rest : List Value) (σ : k_St) (Qa : State → Outcome → State → Prop) : Prop := ∀ (H : Heap) (locs : List Loc) (ls : Array Slot), va_P P.1 vwCl (P.2.1 σ) H → va_S P.2.2.1 X.2.2.2.2.1.heap H locs → lv_has ls X.2.2.2.2.2.2.2.2.2.maxLocals L → va_Run X.1 X.2.1 X.2.2.1 X.2.2.2.1 X.2.2.2.2.1 X.2.2.2.2.2.1 X.2.2.2.2.2.2.1 X.2.2.2.2.2.2.2.1 X.2.2.2.2.2.2.2.2.1 X.2.2.2.2.2.2.2.2.2 H locs 0 0 0 0 (F0 X.2.2.2.2.2.1 pc ls st) rest Qa P.2.2.1
theorem k_goI {r : Int32} {a : Array Value} (hR : k_Run P X pc L st rest σ (k_Qi P r σ' a)) (k : k_K P X Q (pc + 3) L (.int r :: rest) σ') : k_K P X Q pc L st σ := fun H locs ls hP hS hl => va_calli (hR H locs ls hP hS hl) hS (fun q _ h => h) (fun q h => h) (fun r u t H1 locs1 ht hvm hw hB hz hk hS1 => by
  obtain ⟨rfl, rfl⟩ := hw
  subst ht
  exact k _ locs1 ls hB hS1 hl)
theorem k_goL {r : Int64} {a : Array Value} (hR : k_Run P X pc L st rest σ (k_Ql P r σ' a)) (k : k_K P X Q (pc + 3) L (.long r :: rest) σ') : k_K P X Q pc L st σ := fun H locs ls hP hS hl => va_calll (hR H locs ls hP hS hl) hS (fun q _ h => h) (fun q h => h) (fun r u t H1 locs1 ht hvm hw hB hz hk hS1 => by
  obtain ⟨rfl, rfl⟩ := hw
  subst ht
  exact k _ locs1 ls hB hS1 hl)
theorem k_goV {a : Array Value} (hR : k_Run P X pc L st rest σ (k_Qv P σ' a)) (k : k_K P X Q (pc + 3) L rest σ') : k_K P X Q pc L st σ := fun H locs ls hP hS hl => va_callv (hR H locs ls hP hS hl) hS (fun q _ h => h) (fun q h => h) (fun u t H1 locs1 ht hvm hw hB hz hk hS1 => by
  cases hw
  subst ht
  exact k _ locs1 ls hB hS1 hl)
def k_Ly (y : MethodName) (b : ByteArray) (ml : Nat) (ret : Option FieldType) (n : Nat) : Prop := Cond.initialized y.cls ∈ k_TT ∧ Cond.code y b ml ret ∈ k_TT ∧ (y.cls ≠ "java/lang/invoke/MethodHandle" ∧ y.cls ≠ "java/lang/invoke/VarHandle" ∧ (parseMethodDescriptor y.desc).map (fun d => d.parameters.length) = some n) ∧ ml ≤ 21
theorem k_room {d d2 ml : Nat} (h : d2 < d) (hm : ml ≤ 21) : (k_rm d2).frames + 1 ≤ (k_rm d).frames ∧ 8 + (ml + 11) + (k_rm d2).locals ≤ (k_rm d).locals := by
  unfold k_rm
  refine ⟨h, ?_⟩
  show 8 + (ml + 11) + 40 * d2 ≤ 40 * d
  omega
theorem k_runS (C : k_C P X cc own d nL) (hd : decode cc pc = .ok (.invokestatic idx, 3)) (hM : Met X.2.1 y (k_ws y b ml ret) (k_rm d2) (va_Pc As (k_W P σ)) Qc 0 0 P.2.2.1) (hL : Cond.methodLink own idx y ∈ k_TT ∧ Cond.static y ∈ k_TT) (hy : k_Ly y b ml ret As.length) (hdd : d2 < d) (hst : As.reverse ++ rest = st) (hw : (rest.map fun v => v.category).sum ≤ 8) : k_Run P X pc L st rest σ (Qc As.toArray) := fun H locs ls hP hS hl => by
  subst hst
  obtain ⟨c1, c2, c3, c4, c5, c6, c7, c8, c9, c10, c11, c12⟩ := C
  obtain ⟨y1, y2, y3, y4⟩ := hy
  exact va_runS (Ts := k_TT) ⟨c1, c2, rfl, c4, c5⟩ hM ⟨callB_of _ c5 (k_goodIn y2) rfl rfl rfl (c5 _ y1) (c5 _ hL.1) y3 (by rw [c9]; exact k_room hdd y4), c5 _ hL.2⟩ ⟨k_blind, fun U hU hW => ⟨rfl, k_W.moved hW (by rw [hU]; exact hP) c7 c8 c6 c11 (by rw [hU]; exact hS) c12⟩⟩ rfl rfl hl.1 rfl (lv_room hw) hd ⟨Nat.zero_le _, Nat.zero_le _⟩
theorem k_runSN (C : k_C P X cc own d nL) {host : String} (hd : decode cc pc = .ok (.invokestatic idx, 3)) (hM : Met X.2.1 y (k_ws y b ml ret) (k_rm d2) (va_Pc As (k_W P σ)) Qc 0 0 P.2.2.1) (hL : Cond.methodLinkNest own idx y host ∈ k_NT ∧ Cond.static y ∈ k_TT) (hy : k_Ly y b ml ret As.length) (hdd : d2 < d) (hst : As.reverse ++ rest = st) (hw : (rest.map fun v => v.category).sum ≤ 8) : k_Run P X pc L st rest σ (Qc As.toArray) := fun H locs ls hP hS hl => by
  subst hst
  obtain ⟨c1, c2, c3, c4, c5, c6, c7, c8, c9, c10, c11, c12⟩ := C
  obtain ⟨y1, y2, y3, y4⟩ := hy
  exact va_runSN (Ts := k_TT) ⟨c1, c2, rfl, c4, c5⟩ hM ⟨va_cnB _ c5 (k_goodIn y2) rfl rfl rfl (c6 _ hL.1) (c5 _ y1) y3 (by rw [c9]; exact k_room hdd y4), c5 _ hL.2, trivial⟩ ⟨k_blind, fun U hU hW => ⟨rfl, k_W.moved hW (by rw [hU]; exact hP) c7 c8 c6 c11 (by rw [hU]; exact hS) c12⟩⟩ rfl rfl hl.1 rfl (lv_room hw) hd ⟨Nat.zero_le _, Nat.zero_le _⟩
/-- the object at a cell, by its class -/
def k_OB (P : k_WP) (c a : Nat) (K : String) : Prop := ∃ (ci : Nat) (T : u_T) (N : Nat), vwCl[ci]? = some (K, T, N) ∧ ∀ ρ : k_St, ∃ fs : List Value, (P.2.1 ρ)[c]? = some (a, .inr (ci, fs))
theorem k_runV (C : k_C P X cc own d nL) {c a : Nat} {K : String} (hd : decode cc pc = .ok (.invokevirtual idx, 3)) (hM : Met X.2.1 y (k_ws y b ml ret) (k_rm d2) (va_Pc (.ref a :: As) (k_W P σ)) Qc 0 0 P.2.2.1) (hL : Cond.methodLink own idx y ∈ k_TT ∧ Cond.instanceMethod y ∈ k_TT ∧ Cond.selects K y y ∈ k_TT) (hy : k_Ly y b ml ret As.length) (hO : k_OB P c a K) (hdd : d2 < d) (hst : As.reverse ++ .ref a :: rest = st) (hw : (rest.map fun v => v.category).sum ≤ 8) : k_Run P X pc L st rest σ (Qc (Value.ref a :: As).toArray) := fun H locs ls hP hS hl => by
  subst hst
  obtain ⟨c1, c2, c3, c4, c5, c6, c7, c8, c9, c10, c11, c12⟩ := C
  obtain ⟨y1, y2, y3, y4⟩ := hy
  obtain ⟨ci, T, N, hc, hO⟩ := hO
  obtain ⟨fs, he⟩ := hO σ
  exact va_runV (Ts := k_TT) ⟨c1, c2, rfl, c4, c5⟩ hM ⟨callB_of _ c5 (k_goodIn y2) rfl rfl rfl (c5 _ y1) (c5 _ hL.1) y3 (by rw [c9]; exact k_room hdd y4), c5 _ hL.2.1, c5 _ hL.2.2⟩ ⟨k_blind, va_recv c7 hP hc he, fun U hU hW => ⟨rfl, k_W.moved hW (by rw [hU]; exact hP) c7 c8 c6 c11 (by rw [hU]; exact hS) c12⟩⟩ rfl rfl hl.1 rfl (lv_room hw) hd ⟨Nat.zero_le _, Nat.zero_le _⟩
theorem k_runU (C : k_C P X cc own d nL) {c a : Nat} {K : String} (hd : decode cc pc = .ok (.invokevirtual idx, 3)) (hM : Met X.2.1 y (k_ws y b ml ret) (k_rm d2) (va_Pc (.ref a :: As) (k_W P σ)) Qc 0 0 P.2.2.1) (hL : Cond.methodLink own idx x ∈ k_TT ∧ Cond.sameMethod x.cls y.cls x.name x.desc ∈ k_TT ∧ Cond.selects K x y ∈ k_TT ∧ Cond.instanceMethod y ∈ k_TT) (hxy : y = ⟨y.cls, x.name, x.desc⟩) (hy : k_Ly y b ml ret As.length) (hO : k_OB P c a K) (hdd : d2 < d) (hst : As.reverse ++ .ref a :: rest = st) (hw : (rest.map fun v => v.category).sum ≤ 8) : k_Run P X pc L st rest σ (Qc (Value.ref a :: As).toArray) := fun H locs ls hP hS hl => by
  subst hst
  obtain ⟨c1, c2, c3, c4, c5, c6, c7, c8, c9, c10, c11, c12⟩ := C
  obtain ⟨y1, y2, y3, y4⟩ := hy
  obtain ⟨ci, T, N, hc, hO⟩ := hO
  obtain ⟨fs, he⟩ := hO σ
  have hG : GoodIn k_TT (va_wsU own idx K y.cls x y (k_ws y b ml ret)) := by
    intro w hw
    unfold va_wsU at hw
    rcases List.mem_append.mp hw with h | h
    · simp only [List.mem_cons, List.not_mem_nil, or_false] at h
      rcases h with rfl | rfl | rfl | rfl | rfl
      · exact k_good hL.1
      · exact k_good hL.2.1
      · exact k_good hL.2.2.1
      · exact k_good hL.2.2.2
      · exact k_good y1
    · exact k_goodIn y2 w h
  exact va_runU (Ts := k_TT) ⟨c1, c2, rfl, c4, c5⟩ hM (va_cwU _ c5 hG rfl rfl rfl hxy (by
    have e : x.desc = y.desc := by rw [hxy]
    rw [e]; exact y3) (by rw [c9]; exact k_room hdd y4)) ⟨k_blind, va_recv c7 hP hc he, fun U hU hW => ⟨rfl, k_W.moved hW (by rw [hU]; exact hP) c7 c8 c6 c11 (by rw [hU]; exact hS) c12⟩⟩ rfl rfl hl.1 rfl (lv_room hw) hd ⟨Nat.zero_le _, Nat.zero_le _⟩
end KC
theorem k_selP {args : Array Value} {s : State} {K : String} {y y0 : MethodName} (hy : y.cls ≠ "java/lang/invoke/MethodHandle" ∧ y.cls ≠ "java/lang/invoke/VarHandle") (e : y0.cls = y.cls) (h0 : (Cond.selects K y0 y0).before args s = true) (hi0 : (Cond.instanceMethod y0).before args s = true) (hpriv : (Cond.privateMethod y).before args s = true) (hinst : (Cond.instanceMethod y).before args s = true) : (Cond.selects K y y).before args s = true := by
  obtain ⟨mk, methM, hnamed, hmethM, -, -⟩ := Cond.instanceMethod_spec hinst
  obtain ⟨mk0, methM0, hnamed0, hmethM0, -, -⟩ := Cond.instanceMethod_spec hi0
  have hfound : s.methodFound? y.cls y.name y.desc = some mk := State.methodFound?_of_named hnamed hy
  have hfound0 : s.methodFound? y0.cls y0.name y0.desc = some mk0 := State.methodFound?_of_named hnamed0 (by rw [e]; exact hy)
  have hcls : mk.cls = mk0.cls := by
    have h1 := findClass_of_methodNamed hnamed
    have h2 := findClass_of_methodNamed hnamed0
    rw [e] at h2
    exact Option.some.inj (h1.symm.trans h2)
  cases hc : s.vm.findClass K with
  | none => simp only [Cond.before, Cond.holds, Cond.value, hc] at h0; cases h0
  | some c =>
    have hsel : selectMethod {} s.vm c mk = .method mk := selectMethod_private hmethM (Cond.privateMethod_at hpriv mk methM hnamed hmethM)
    simp only [Cond.before, Cond.holds, Cond.value, hc, hfound0, hnamed0] at h0
    simp only [Cond.before, Cond.holds, Cond.value, hc, hfound, hnamed, hsel, hcls]
    split at h0
    · simp at h0
      simp
      exact h0.2
    · simp at h0
section KD
variable {P : k_WP} {X : k_CT} {cc : ByteArray} {own : String} {d nL pc : Nat} {Q : State → Prop} {L : List (Nat × Value)} {st rest : List Value} {σ σ' : k_St} {x y : MethodName} {b : ByteArray} {ml d2 idx : Nat} {ret : Option FieldType} {As : List Value} {Qc : Array Value → State → Outcome → State → Prop}
theorem k_dup2 (C : k_C P X cc own d nL) {va vb : Value} (hd : decode cc pc = .ok (.dup2, 1)) (hva : va.category = 1) (hvb : vb.category = 1) (k : k_K P X Q (pc + 1) L (va :: vb :: va :: vb :: st) σ) : k_K P X Q pc L (va :: vb :: st) σ := fun H locs ls hP hS hl => lv_dup2_11 C.1 C.2.1 hd hva hvb (k H locs ls hP hS hl)
theorem k_ldcw (C : k_C P X cc own d nL) {idx : Nat} {v : Int32} (hd : decode cc pc = .ok (.ldc_w idx, 3)) (hc : Cond.constant own idx v ∈ k_TT) (k : k_K P X Q (pc + 3) L (.int v :: st) σ) : k_K P X Q pc L st σ := fun H locs ls hP hS hl => lv_ldcw C.1 C.2.1 C.2.2.2.1 (C.2.2.2.2.1 _ hc) hd (k H locs ls hP hS hl)
def o_max (x y : Int32) : Int32 := if x < y then y else x
def o_min (x y : Int32) : Int32 := if y < x then y else x
def o_lmax (x y : Int64) : Int64 := if y < x then x else y
def o_lmin (x y : Int64) : Int64 := if y < x then y else x
theorem k_mmax (C : k_C P X cc own d nL) {x y : Int32} (hd : decode cc pc = .ok (.invokestatic idx, 3)) (hL : Cond.methodLink own idx Lib.Math.max.name ∈ k_TT ∧ Cond.static Lib.Math.max.name ∈ k_TT) (hy : Cond.initialized "java/lang/Math" ∈ k_TT ∧ Cond.code Lib.Math.max.name Lib.Math.max.code 2 (some .int) ∈ k_TT) (hdd : 0 < d) (hw : (st.map fun v => v.category).sum ≤ 8) (k : k_K P X Q (pc + 3) L (.int (o_max x y) :: st) σ) : k_K P X Q pc L (.int y :: .int x :: st) σ := fun H locs ls hP hS hl => by
  obtain ⟨c1, c2, c3, c4, c5, c6, c7, c8, c9, c10, c11, c12⟩ := C
  refine va_mmax c1 c2 hl.1.symm c4 (c5 _ hL.1) (c5 _ hL.2) (c5 _ hy.1) (c5 _ hy.2) (by rw [c9]; exact hdd) (by rw [c9]; show _ ≤ 40 * d; omega) (Nat.zero_le _) (Nat.zero_le _) hd (k H locs ls hP hS hl)
theorem k_mmin (C : k_C P X cc own d nL) {x y : Int32} (hd : decode cc pc = .ok (.invokestatic idx, 3)) (hL : Cond.methodLink own idx Lib.Math.min.name ∈ k_TT ∧ Cond.static Lib.Math.min.name ∈ k_TT) (hy : Cond.initialized "java/lang/Math" ∈ k_TT ∧ Cond.code Lib.Math.min.name Lib.Math.min.code 2 (some .int) ∈ k_TT) (hdd : 0 < d) (hw : (st.map fun v => v.category).sum ≤ 8) (k : k_K P X Q (pc + 3) L (.int (o_min x y) :: st) σ) : k_K P X Q pc L (.int y :: .int x :: st) σ := fun H locs ls hP hS hl => by
  obtain ⟨c1, c2, c3, c4, c5, c6, c7, c8, c9, c10, c11, c12⟩ := C
  refine va_mmin c1 c2 hl.1.symm c4 (c5 _ hL.1) (c5 _ hL.2) (c5 _ hy.1) (c5 _ hy.2) (by rw [c9]; exact hdd) (by rw [c9]; show _ ≤ 40 * d; omega) (Nat.zero_le _) (Nat.zero_le _) hd (k H locs ls hP hS hl)
theorem k_mmax_long (C : k_C P X cc own d nL) {x y : Int64} (hd : decode cc pc = .ok (.invokestatic idx, 3)) (hL : Cond.methodLink own idx Lib.MathLoose.max_long.x ∈ k_TT ∧ Cond.static Lib.MathLoose.max_long.x ∈ k_TT) (hy : Cond.initialized "java/lang/Math" ∈ k_TT ∧ Cond.code Lib.MathLoose.max_long.x Lib.MathLoose.max_long.code 4 (some .long) ∈ k_TT) (hdd : 0 < d) (hw : (st.map fun v => v.category).sum ≤ 8) (k : k_K P X Q (pc + 3) L (.long (o_lmax x y) :: st) σ) : k_K P X Q pc L (.long y :: .long x :: st) σ := fun H locs ls hP hS hl => by
  obtain ⟨c1, c2, c3, c4, c5, c6, c7, c8, c9, c10, c11, c12⟩ := C
  refine va_mmax_long c1 c2 hl.1.symm c4 (c5 _ hL.1) (c5 _ hL.2) (c5 _ hy.1) (c5 _ hy.2) (by rw [c9]; exact hdd) (by rw [c9]; show _ ≤ 40 * d; omega) (Nat.zero_le _) (Nat.zero_le _) hd (k H locs ls hP hS hl)
theorem k_mmin_long (C : k_C P X cc own d nL) {x y : Int64} (hd : decode cc pc = .ok (.invokestatic idx, 3)) (hL : Cond.methodLink own idx Lib.MathLoose.min_long.x ∈ k_TT ∧ Cond.static Lib.MathLoose.min_long.x ∈ k_TT) (hy : Cond.initialized "java/lang/Math" ∈ k_TT ∧ Cond.code Lib.MathLoose.min_long.x Lib.MathLoose.min_long.code 4 (some .long) ∈ k_TT) (hdd : 0 < d) (hw : (st.map fun v => v.category).sum ≤ 8) (k : k_K P X Q (pc + 3) L (.long (o_lmin x y) :: st) σ) : k_K P X Q pc L (.long y :: .long x :: st) σ := fun H locs ls hP hS hl => by
  obtain ⟨c1, c2, c3, c4, c5, c6, c7, c8, c9, c10, c11, c12⟩ := C
  refine va_mmin_long c1 c2 hl.1.symm c4 (c5 _ hL.1) (c5 _ hL.2) (c5 _ hy.1) (c5 _ hy.2) (by rw [c9]; exact hdd) (by rw [c9]; show _ ≤ 40 * d; omega) (Nat.zero_le _) (Nat.zero_le _) hd (k H locs ls hP hS hl)
def o_cp (sp dp n : Int32) (n0 n1 : Nat) : Bool := decide (0 ≤ sp) && decide (0 ≤ dp) && decide (0 ≤ n) && decide (sp.toNatClampNeg + n.toNatClampNeg ≤ n0) && decide (dp.toNatClampNeg + n.toNatClampNeg ≤ n1)
def k_cpI (σ : k_St) (c0 c1 : Nat) (sp dp n : Int32) : k_St := k_wA σ c1 (va_cpy (σ.1 c0) (σ.1 c1) sp.toNatClampNeg dp.toNatClampNeg n.toNatClampNeg)
def k_cpL (σ : k_St) (c0 c1 : Nat) (sp dp n : Int32) : k_St := k_wB σ c1 (va_cpy (σ.2 c0) (σ.2 c1) sp.toNatClampNeg dp.toNatClampNeg n.toNatClampNeg)
theorem o_cp_e {sp dp n : Int32} {n0 n1 : Nat} (h : o_cp sp dp n n0 n1 = true) : ¬ sp < 0 ∧ ¬ dp < 0 ∧ ¬ n < 0 ∧ sp.toNatClampNeg + n.toNatClampNeg ≤ n0 ∧ dp.toNatClampNeg + n.toNatClampNeg ≤ n1 := by
  unfold o_cp at h
  simp only [Bool.and_eq_true, decide_eq_true_eq] at h
  exact ⟨Int32.not_lt.mpr h.1.1.1.1, Int32.not_lt.mpr h.1.1.1.2, Int32.not_lt.mpr h.1.1.2, h.1.2, h.2⟩
theorem k_copyi (C : k_C P X cc own d nL) {c0 a0 n0 c1 a1 n1 : Nat} {sp dp n : Int32} (hd : decode cc pc = .ok (.invokestatic idx, 3)) (hL : Cond.methodLink own idx arraycopyName ∈ k_TT ∧ Cond.native arraycopyName ∈ k_TT ∧ Cond.static arraycopyName ∈ k_TT ∧ Cond.initialized "java/lang/System" ∈ k_TT) (hA0 : k_AI P .int c0 a0 n0) (hA1 : k_AI P .int c1 a1 n1) (hg : o_cp sp dp n n0 n1 = true) (hdd : 0 < d) (hw : (st.map fun v => v.category).sum ≤ 8) (k : k_K P X Q (pc + 3) L st (k_cpI σ c0 c1 sp dp n)) : k_K P X Q pc L (.int n :: .int dp :: .ref a1 :: .int sp :: .ref a0 :: st) σ := fun H locs ls hP hS hl => by
  obtain ⟨c1', c2, c3, c4, c5, c6, c7, c8, c9, c10, c11, c12⟩ := C
  obtain ⟨t0, cy0, h0, hA0⟩ := hA0
  obtain ⟨t1, cy1, h1, hA1⟩ := hA1
  obtain ⟨g1, g2, g3, g4, g5⟩ := o_cp_e hg
  refine va_copyi c1' c2 hl.1.symm c4 (c5 _ hL.1) (c5 _ hL.2.1) (c5 _ hL.2.2.1) (c5 _ hL.2.2.2) c7 hP (c8 σ) hS c0 c1 t0 t1 (hA0 σ).1 (hA1 σ).1 h0 h1 rfl g1 g2 g3 g4 g5 (fun i _ => rfl) (by rw [c9]; exact hdd) (by
    have e9 : nativeFrameWords "java/lang/System" "arraycopy" 5 ≤ 20 := by decide +kernel
    rw [c9]; show _ ≤ 40 * d; omega) hd (fun H1 locs1 hP1 hD1 hS1 => ?_)
  rw [(hA1 σ).2] at hP1
  exact k H1 locs1 ls hP1 hS1 hl
theorem k_copyl (C : k_C P X cc own d nL) {c0 a0 n0 c1 a1 n1 : Nat} {sp dp n : Int32} (hd : decode cc pc = .ok (.invokestatic idx, 3)) (hL : Cond.methodLink own idx arraycopyName ∈ k_TT ∧ Cond.native arraycopyName ∈ k_TT ∧ Cond.static arraycopyName ∈ k_TT ∧ Cond.initialized "java/lang/System" ∈ k_TT) (hA0 : k_AL P c0 a0 n0) (hA1 : k_AL P c1 a1 n1) (hg : o_cp sp dp n n0 n1 = true) (hdd : 0 < d) (hw : (st.map fun v => v.category).sum ≤ 8) (k : k_K P X Q (pc + 3) L st (k_cpL σ c0 c1 sp dp n)) : k_K P X Q pc L (.int n :: .int dp :: .ref a1 :: .int sp :: .ref a0 :: st) σ := fun H locs ls hP hS hl => by
  obtain ⟨c1', c2, c3, c4, c5, c6, c7, c8, c9, c10, c11, c12⟩ := C
  obtain ⟨t0, cy0, h0, hA0⟩ := hA0
  obtain ⟨t1, cy1, h1, hA1⟩ := hA1
  obtain ⟨g1, g2, g3, g4, g5⟩ := o_cp_e hg
  refine va_copyl c1' c2 hl.1.symm c4 (c5 _ hL.1) (c5 _ hL.2.1) (c5 _ hL.2.2.1) (c5 _ hL.2.2.2) c7 hP (c8 σ) hS c0 c1 t0 t1 (hA0 σ).1 (hA1 σ).1 h0 h1 rfl g1 g2 g3 g4 g5 (fun i _ => rfl) (by rw [c9]; exact hdd) (by
    have e9 : nativeFrameWords "java/lang/System" "arraycopy" 5 ≤ 20 := by decide +kernel
    rw [c9]; show _ ≤ 40 * d; omega) hd (fun H1 locs1 hP1 hD1 hS1 => ?_)
  rw [(hA1 σ).2] at hP1
  exact k H1 locs1 ls hP1 hS1 hl
def o_isB (x : Int32) : Bool := x == 0 || x == 1
theorem o_isB_e {x : Int32} (h : o_isB x = true) : x = 0 ∨ x = 1 := by
  unfold o_isB at h
  rw [Bool.or_eq_true, beq_iff_eq, beq_iff_eq] at h
  exact h
theorem k_nz {x : Int32} (h : o_isB x = true) : narrow .boolean (.int x) = .int x := by rcases o_isB_e h with rfl | rfl <;> rfl
theorem k_vz {x : Int32} (h : o_isB x = true) : vp_nar .boolean x = x := by rcases o_isB_e h with rfl | rfl <;> rfl
theorem k_xz {x : Int32} (h : o_isB x = true) : FieldType.boolean ≠ .long ∧ narrow .boolean (.int x) = .int x ∧ fits .boolean (.int x) = true := ⟨(by intro h; cases h), k_nz h, by rcases o_isB_e h with rfl | rfl <;> rfl⟩
theorem k_xi {x : Int32} : FieldType.int ≠ .long ∧ narrow .int (.int x) = .int x ∧ fits .int (.int x) = true := ⟨(by intro h; cases h), rfl, rfl⟩
theorem k_p1 {α : Type} {v r : α} {σ : k_St} (h : some v = some r) : (v, σ) = (r, σ) := by cases h; rfl
end KD
