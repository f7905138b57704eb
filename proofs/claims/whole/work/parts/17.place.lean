def g_isD : Cond → Bool
  | .castable .. => true
  | .declares .. => true
  | _ => false
def g_DN : List Cond := lw_tbl.filter g_isD
theorem g_dw {w : Cond} (h : w ∈ g_DN) {s U : State} (hW : s.WarmedH U.vm) (hZ : va_Nw w s) : va_Nw w U := by
  have h1 := (List.mem_filter.mp h).2
  cases w <;> first | exact va_Nw.warmC hW hZ | exact va_Nw.warmD hW hZ | (exact absurd h1 (by simp [g_isD]))
theorem g_dc {w : Cond} (h : w ∈ g_DN) {U U' : State} (hv : U'.vm = U.vm) (hZ : va_Nw w U) : va_Nw w U' := va_Nw.same (u := U) (U := U') (by
    have h1 := (List.mem_filter.mp h).2
    cases w <;> first | rfl | (exact absurd h1 (by simp [g_isD]))) hv.symm hZ
theorem g_du {w : Cond} (h : w ∈ g_DN) {args : Array Value} {s : State} (hZ : va_Nw w s) : w.before args s = true := va_Nw.use (by
    have h1 := (List.mem_filter.mp h).2
    cases w <;> first | rfl | (exact absurd h1 (by simp [g_isD]))) hZ
def g_Ex (A : Nat → Prop) (U : State) (H : Heap) : Prop := vx_Zq Bundle.tN "UNASSIGNED_STACK" Bundle.steD A U H ∧ vx_Zq Bundle.tN "SUPPRESSED_SENTINEL" Bundle.listD A U H
theorem g_Ex.go {A B : Nat → Prop} {s U : State} {H H1 : Heap} (h : g_Ex A s H) (hW : s.WarmedH U.vm) (hk : ∀ a : Nat, a < H.size → ¬ A a → H1[a]? = H[a]?) (hAB : ∀ q, B q → A q) : g_Ex B U H1 := ⟨((h.1.kept hk).narrow hAB).moved hW.alike, ((h.2.kept hk).narrow hAB).moved hW.alike⟩
def g_W (P : k_WP) (σ : k_St) (U : State) : Prop := k_W P σ U ∧ (∀ w ∈ g_DN, va_Nw w U) ∧ g_Ex P.2.2.1 U U.heap
theorem g_blind {P : k_WP} {σ : k_St} {av : List Value} : FrameBlind (va_Pc av (g_W P σ)) := fun a U g mk q => by
  obtain ⟨q0, qW, qD, qE⟩ := q
  exact ⟨q0, (k_blind (P := P) (σ := σ) (av := av) a U g mk ⟨q0, qW⟩).2, fun w h => g_dc (U := U) (U' := U.calling g mk a) h rfl (qD w h), ⟨vx_Zq.moved (u := U) (U := U.calling g mk a) (Vm.Alike.refl U.vm) qE.1, vx_Zq.moved (u := U) (U := U.calling g mk a) (Vm.Alike.refl U.vm) qE.2⟩⟩
section GC
variable {p : Program} {l : Launch} {e : Env} {R : Room} {s : State} {m : MethodId} {args : Array Value} {below : List Frame} {meth : Method} {c : Code} {H : Heap} {locs : List Loc} {cells slots : Nat} {Q : State → Prop} {cc : ByteArray} {own : String} {nL pc : Nat} {ls : Array Slot} {rest : List Value}
variable {P : k_WP} {σ : k_St} {y : MethodName} {b : ByteArray} {ml d2 idx : Nat} {ret : Option FieldType} {As : List Value} {Qc : Array Value → State → Outcome → State → Prop}
/-- what a caller has of a world: its cells in the heap as it is, the tables' words, what stands outside -/
def g_H (P : k_WP) (σ : k_St) (s : State) (H : Heap) : Prop := va_P P.1 vwCl (P.2.1 σ) H ∧ va_K P.1 vwCl P.2.2.2.1 s ∧ (∀ ρ : k_St, va_D P.2.2.1 (P.2.1 ρ)) ∧ (∀ w ∈ k_NT, va_Nw w s) ∧ k_FP P ∧ P.2.2.2.2 s s.heap ∧ ∀ q : Nat, q < s.heap.size → ¬ P.2.2.1 q → H[q]? = s.heap[q]?
theorem g_H.W {U : State} (h : g_H P σ s H) (hU : U.heap = H) (hW : s.WarmedH U.vm) : k_W P σ U := ⟨by rw [hU]; exact h.1, va_K.moved hW.alike h.2.1, h.2.2.1, fun w hw => k_nw hw hW (h.2.2.2.1 w hw), h.2.2.2.2.1, h.2.2.2.2.1 s U s.heap U.heap hW (by rw [hU]; exact h.2.2.2.2.2.2) h.2.2.2.2.2.1⟩
theorem g_runV (S : CallFix p m c cc nL s args k_TT own) (hH : g_H P σ s H) {cI a : Nat} {K : String} (hO : k_OB P cI a K) (hM : Met l y (k_ws y b ml ret) (k_rm d2) (va_Pc (.ref a :: As) (k_W P σ)) Qc 0 0 P.2.2.1) (hL : Cond.methodLink own idx y ∈ k_TT ∧ Cond.instanceMethod y ∈ k_TT ∧ Cond.selects K y y ∈ k_TT) (hy : k_Ly y b ml ret As.length) (hR : d2 + 1 ≤ R.frames ∧ 8 + (ml + 11) + 40 * d2 ≤ R.locals) (hd : decode cc pc = .ok (.invokevirtual idx, 3)) (hls : ls.size = nL) (hw : (rest.map fun v => v.category).sum ≤ 8) (hc : cells ≤ R.cells) (hs : slots ≤ R.slots) : va_Run p l e R s m args below meth c H locs cells slots 0 0 (F0 m pc ls (As.reverse ++ .ref a :: rest)) rest (Qc (Value.ref a :: As).toArray) P.2.2.1 := by
  obtain ⟨y1, y2, y3, y4⟩ := hy
  obtain ⟨ci, T, N, hcl, hO⟩ := hO
  obtain ⟨fs, he⟩ := hO σ
  have hT := S.2.2.2.2
  exact va_runV (Ts := k_TT) S hM ⟨callB_of _ hT (k_goodIn y2) rfl rfl rfl (hT _ y1) (hT _ hL.1) y3 hR, hT _ hL.2.1, hT _ hL.2.2⟩ ⟨k_blind, va_recv hH.2.1 hH.1 hcl he, fun U hU hW => ⟨rfl, hH.W hU hW⟩⟩ rfl rfl hls rfl (lv_room hw) hd ⟨hc, hs⟩
theorem g_runS (S : CallFix p m c cc nL s args k_TT own) (hH : g_H P σ s H) (hM : Met l y (k_ws y b ml ret) (k_rm d2) (va_Pc As (k_W P σ)) Qc 0 0 P.2.2.1) (hL : Cond.methodLink own idx y ∈ k_TT ∧ Cond.static y ∈ k_TT) (hy : k_Ly y b ml ret As.length) (hR : d2 + 1 ≤ R.frames ∧ 8 + (ml + 11) + 40 * d2 ≤ R.locals) (hd : decode cc pc = .ok (.invokestatic idx, 3)) (hls : ls.size = nL) (hw : (rest.map fun v => v.category).sum ≤ 8) (hc : cells ≤ R.cells) (hs : slots ≤ R.slots) : va_Run p l e R s m args below meth c H locs cells slots 0 0 (F0 m pc ls (As.reverse ++ rest)) rest (Qc As.toArray) P.2.2.1 := by
  obtain ⟨y1, y2, y3, y4⟩ := hy
  have hT := S.2.2.2.2
  exact va_runS (Ts := k_TT) S hM ⟨callB_of _ hT (k_goodIn y2) rfl rfl rfl (hT _ y1) (hT _ hL.1) y3 hR, hT _ hL.2⟩ ⟨k_blind, fun U hU hW => ⟨rfl, hH.W hU hW⟩⟩ rfl rfl hls rfl (lv_room hw) hd ⟨hc, hs⟩
theorem g_H.next {σ' : k_St} {H1 : Heap} (h : g_H P σ s H) (hP : va_P P.1 vwCl (P.2.1 σ') H1) (hz : s.heap.size ≤ H.size) (hk : ∀ q : Nat, q < H.size → ¬ P.2.2.1 q → H1[q]? = H[q]?) : g_H P σ' s H1 := ⟨hP, h.2.1, h.2.2.1, h.2.2.2.1, h.2.2.2.2.1, h.2.2.2.2.2.1, fun q hq hn => (hk q (Nat.lt_of_lt_of_le hq hz) hn).trans (h.2.2.2.2.2.2 q hq hn)⟩
end GC
theorem g_get {p : Program} {l : Launch} {e : Env} {R : Room} {s : State} {m : MethodId} {args : Array Value} {below : List Frame} {meth : Method} {c : Code} {H : Heap} {locs : List Loc} {cells slots : Nat} {Q : State → Prop} {cc : ByteArray} {own : String} {pc : Nat} {ls : Array Slot} {rest : List Value} {P : k_WP} {σ : k_St} (hx : p.tables.exec = Jvm.exec) (hb : c.code = cc) (hT : ∀ w ∈ k_TT, w.before args s = true) (hown : s.vm.findClass own = some m.cls) (hH : g_H P σ s H) {cI a k idx : Nat} {K ref : String} {T : u_T} {N : Nat} {v : k_St → Value} (hd : decode cc pc = .ok (.getfield idx, 3)) (hO : k_OG P cI a k K T N v) (hl : Cond.fieldLink own idx ref (T k).2.1 (T k).2.2.1 ∈ k_TT) (hs : ref = (T k).1 ∨ Cond.sameField ref (T k).1 (T k).2.1 (T k).2.2.1 ∈ k_TT) (kk : W p l e R s m args below meth c H locs cells slots Q (F0 m (pc + 3) ls (v σ :: rest))) : W p l e R s m args below meth c H locs cells slots Q (F0 m pc ls (.ref a :: rest)) := by
  obtain ⟨hin, hk, ci, hc, hO⟩ := hO
  obtain ⟨fs, he, hv⟩ := hO σ
  exact va_get hx hb hT hin hown hH.2.1 hH.1 cI he hc k hk (hT _ hl) (by
    rcases hs with hs | hs
    · subst hs; exact fun _ h => h
    · exact fun x9 h9 => u_same (hT _ hs) x9 h9) hv hd kk
def f_X11_place (x1 x2 : Int32) (σ : k_St) : Option (Option Int32) :=
  k_bd (f_X11_isPlace x1 σ) fun v2 =>
  k_if (v2 = (0 : Int32)) (some none)
    (k_bd (f_X11_within x2 (0 : Int32) (4 : Int32)) fun v11 =>
    k_if (v11 = (0 : Int32)) (some none)
      (k_if (x2 = (4 : Int32)) (k_bd (f_X1_worthOf x1 σ) fun v => some (some v)) (k_bd (f_X1_told x1 x2 σ) fun v => some (some v))))
set_option maxRecDepth 100000 in
theorem g_xg : ∀ w ∈ (vx_at0 RX11 164 "java/util/NoSuchElementException" ["java/lang/RuntimeException", "java/lang/Exception"]).filter goodWord, w ∈ k_TT := k_inT [125, 1464, 1473, 1475, 1478, 1480, 1465, 1466, 136, 137, 1467, 1472, 1476, 1492, 1454, 1493, 1456, 1494, 1458, 1468, 1470, 1460, 1482, 1483, 1484, 1485, 1485, 1486, 1487, 1488, 1488, 1489, 1490, 1465, 1481, 1443, 1451, 1452, 1453, 1455, 1457, 1459, 1463, 1462, 1461] (by decide +kernel) (by decide +kernel)
theorem g_dm {w : Cond} (j : Nat) (h : lw_tbl[j]? = some w) (hg : g_isD w = true) : w ∈ g_DN := List.mem_filter.mpr ⟨List.mem_of_getElem? h, hg⟩
def g_xl : List Cond := [.declares ⟨"java/lang/RuntimeException", "<init>", "()V"⟩, .declares ⟨"java/lang/Exception", "<init>", "()V"⟩, .declares ⟨"java/lang/Throwable", "<init>", "()V"⟩, .castable "java/util/NoSuchElementException" "java/util/NoSuchElementException"]
set_option maxRecDepth 100000 in
theorem g_xb : ∀ w ∈ (vx_at0 RX11 164 "java/util/NoSuchElementException" ["java/lang/RuntimeException", "java/lang/Exception"]).filter (fun w => !goodWord w), w ∈ g_xl := by decide +kernel
theorem g_x0 : g_xl[0]? = lw_tbl[1445]? := by decide +kernel
theorem g_x1 : g_xl[1]? = lw_tbl[1447]? := by decide +kernel
theorem g_x2 : g_xl[2]? = lw_tbl[1449]? := by decide +kernel
theorem g_x3 : g_xl[3]? = lw_tbl[1444]? := by decide +kernel
theorem g_xd : ∀ w ∈ g_xl, w ∈ g_DN := fun w h => by
  obtain ⟨k, hk⟩ := List.getElem?_of_mem h
  have hl : k < 4 := (List.getElem?_eq_some_iff.mp hk).1
  have hg : g_isD w = true := by
    have : g_xl.all g_isD = true := by decide +kernel
    exact List.all_eq_true.mp this w h
  rcases (show k = 0 ∨ k = 1 ∨ k = 2 ∨ k = 3 by omega) with rfl | rfl | rfl | rfl
  · exact g_dm 1445 (g_x0 ▸ hk) hg
  · exact g_dm 1447 (g_x1 ▸ hk) hg
  · exact g_dm 1449 (g_x2 ▸ hk) hg
  · exact g_dm 1444 (g_x3 ▸ hk) hg
set_option maxRecDepth 100000 in
theorem g_xo : ∀ w ∈ Cond.classLink RX11 162 "java/util/NoSuchElementException" :: Cond.initialized "java/util/NoSuchElementException" :: vx_at0 RX11 164 "java/util/NoSuchElementException" ["java/lang/RuntimeException", "java/lang/Exception"], vx_ot w = true := by decide +kernel
theorem g_xk : Cond.classLink RX11 162 "java/util/NoSuchElementException" ∈ k_TT := k_tt (k_s6 139 (by decide +kernel)) rfl
theorem g_xi : Cond.initialized "java/util/NoSuchElementException" ∈ k_TT := k_tt (k_s1 25 (by decide +kernel)) rfl
set_option maxHeartbeats 4000000 in
set_option maxRecDepth 100000 in
theorem e_X11_place {l : Launch} (hfl : l.stackTraces = false) {w : k_WC} {x1 x2 : Int32} {σ : k_St} {r : Option Int32} (h : f_X11_place x1 x2 σ = some r) : vx_Met l yX11_place (k_ws yX11_place cX11_place 3 (some .int)) { frames := 8, cells := 1, slots := 6, locals := 320 } (va_Pc [.ref (w.2.1 0), .int x1, .int x2] (g_W (k_PX w) σ)) (va_Qi (fun (a : Int32) (u : k_St) => r = some a ∧ u = σ) (fun u t => va_P (k_PX w).1 vwCl ((k_PX w).2.1 u) t.heap) (k_PX w).2.2.1) (vx_X (fun u : k_St => r = none ∧ u = σ) (fun E u t => E = "java/util/NoSuchElementException" ∧ va_P (k_PX w).1 vwCl ((k_PX w).2.1 u) t.heap) (k_PX w).2.2.1) 1 6 (k_PX w).2.2.1 := by
  refine vx_ofW (cc := cX11_place) (maxL := 3) (ret := some .int) (by decide) rfl ?_
  intro p e s m args below meth c s₁ B hml hnt hv
  obtain ⟨rfl, hW0, hDN, hEx⟩ := hv
  have hx := B.exec
  have hb := B.bytes
  have hr := B.returns
  have hts := atoms_spec (ws := k_ws yX11_place cX11_place 3 (some .int)) B.pre
  have hT : ∀ w ∈ k_TT, w.before _ s = true := fun w h => hts w (List.mem_cons_of_mem _ h)
  have hown : s.vm.findClass RX11 = some m.cls := findClass_of_methodNamed B.named
  have hlocks := B.notSynchronized
  have hH : g_H (k_PX w) σ s s.heap := ⟨hW0.1, hW0.2.1, hW0.2.2.1, hW0.2.2.2.1, hW0.2.2.2.2.1, hW0.2.2.2.2.2, fun _ _ _ => rfl⟩
  have hS : va_S (k_PX w).2.2.1 s.heap s.heap [] := va_S.rf
  have hl := lv_entry ([.ref (w.2.1 0), .int x1, .int x2]) (n := 3) (Nat.le_of_ble_eq_true rfl)
  rw [lg_entry_eq]
  generalize (lg_sl ([.ref (w.2.1 0), .int x1, .int x2]) ++ List.replicate (3 - (lg_sl ([.ref (w.2.1 0), .int x1, .int x2])).length) Slot.unset).toArray = ls at hl ⊢
  have hl : lv_has ls 3 [(0, .ref (w.2.1 0)), (1, .int x1), (2, .int x2)] := hl
  have SF : CallFix p m c cX11_place 3 s _ k_TT RX11 := ⟨hx, hb, hml, hown, hT⟩
  have hat := vx_hat (args := ([Value.ref (w.2.1 0), .int x1, .int x2] : List Value).toArray) (s := s) (L := vx_at0 RX11 164 "java/util/NoSuchElementException" ["java/lang/RuntimeException", "java/lang/Exception"]) (B := g_xl) (fun w h => hT w (g_xg w h)) g_xb (fun w h => g_du (g_xd w h) (hDN w (g_xd w h)))
  unfold f_X11_place at h
  have throwK : r = none → ∀ (H : Heap) (locs : List Loc), g_H (k_PX w) σ s H → va_S (k_PX w).2.2.1 s.heap H locs → W p l e ({ frames := 8, cells := 1, slots := 6, locals := 320 } : Room) s m _ below meth c H locs 0 0 (vx_MQ below (va_Qi (fun (a : Int32) (u : k_St) => r = some a ∧ u = σ) (fun u t => va_P (k_PX w).1 vwCl ((k_PX w).2.1 u) t.heap) (k_PX w).2.2.1) (vx_X (fun u : k_St => r = none ∧ u = σ) (fun E u t => E = "java/util/NoSuchElementException" ∧ va_P (k_PX w).1 vwCl ((k_PX w).2.1 u) t.heap) (k_PX w).2.2.1) ([Value.ref (w.2.1 0), .int x1, .int x2] : List Value).toArray s 1 6 (k_PX w).2.2.1) (F0 m 17 ls []) := fun hr0 H locs hH hS =>
    vx_throw0 (own := RX11) (cls := "java/util/NoSuchElementException") (names := ["java/lang/RuntimeException", "java/lang/Exception"]) (A := (k_PX w).2.2.1) hx hb hfl hown (by decide) (by decide) (hT _ g_xk) (hT _ g_xi) hat g_xo hEx.1 hEx.2 hS (by rw [hml]; exact hl.1) dX11_place_17 dX11_place_20 dX11_place_21 dX11_place_24 (fun x h => absurd h (fun h => hnt x h)) (Nat.le_of_ble_eq_true rfl) (Nat.le_of_ble_eq_true rfl) (Nat.le_of_ble_eq_true rfl) (Nat.le_of_ble_eq_true rfl) hlocks (fun t hal hsz hk => ⟨σ, ⟨hr0, rfl⟩, ⟨rfl, va_P.kept hH.1 (fun k x hx => hk x.1 (hH.1 k x hx).lt)⟩, Nat.le_trans hS.1 hsz, fun q hq hn => (hk q (Nat.lt_of_lt_of_le hq hS.1)).trans (hS.2.1 q hq hn)⟩) hS.2.2 (Nat.le_of_ble_eq_true rfl) (Nat.le_of_ble_eq_true rfl)
  refine lv_aload_n hx hb dX11_place_0 rfl (lv_at hl 0 rfl) ?_
  refine lv_iload_n hx hb dX11_place_1 rfl (lv_at hl 1 rfl) ?_
  obtain ⟨v2, h2, h⟩ := k_bd_e h
  refine va_calli (g_runV (As := [.int x1]) (rest := []) SF hH (k_oX0 w) (e_X11_isPlace (d := 3) (Nat.le_refl _) h2) k_lX11_158 k_yX11_isPlace ⟨Nat.le_of_ble_eq_true rfl, Nat.le_of_ble_eq_true rfl⟩ dX11_place_2 hl.1 (Nat.le_of_ble_eq_true rfl) (Nat.zero_le _) (Nat.zero_le _)) hS (fun _ _ h => h) (fun _ h => h) (fun r1 u t H locs ht hvm hw hB1 hz hk hS1 => ?_)
  obtain ⟨rfl, rfl⟩ := hw
  subst ht
  have hH1 := hH.next hB1 (Nat.le_refl _) hk
  clear hS
  refine lv_if_eq (tgt := 17) hx hb dX11_place_5 (by decide) (fun c5 => ?_) (fun c5 => ?_)
  · exact throwK (Option.some.inj (k_if_t h c5)).symm _ _ hH1 hS1
  · replace h := k_if_f h c5
    obtain ⟨v11, h11, h⟩ := k_bd_e h
    refine lv_iload_n hx hb dX11_place_8 rfl (lv_at hl 2 rfl) ?_
    refine lv_iconst (v := 0) hx hb dX11_place_9 rfl ?_
    refine lv_iconst (v := 4) hx hb dX11_place_10 rfl ?_
    refine va_calli (g_runS (As := [.int x2, .int 0, .int 4]) (rest := []) SF hH1 (e_X11_within (w := w) (d := 2) (Nat.le_refl _) h11) k_lX11_118 k_yX11_within ⟨Nat.le_of_ble_eq_true rfl, Nat.le_of_ble_eq_true rfl⟩ dX11_place_11 hl.1 (Nat.le_of_ble_eq_true rfl) (Nat.zero_le _) (Nat.zero_le _)) hS1 (fun _ _ h => h) (fun _ h => h) (fun r2 u t2 H locs ht hvm hw hB2 hz2 hk2 hS2 => ?_)
    obtain ⟨rfl, rfl⟩ := hw
    subst ht
    have hH2 := hH1.next hB2 hz hk2
    clear hS1
    refine lv_if_ne (tgt := 25) hx hb dX11_place_14 (by decide) (fun c14 => ?_) (fun c14 => ?_)
    · replace h := k_if_f h c14
      refine lv_iload_n hx hb dX11_place_25 rfl (lv_at hl 2 rfl) ?_
      refine lv_iconst (v := 4) hx hb dX11_place_26 rfl ?_
      refine lv_icmp_ne (tgt := 41) hx hb dX11_place_27 (by decide) (fun c27 => ?_) (fun c27 => ?_)
      · replace h := k_if_f h c27
        obtain ⟨v, h3, h9⟩ := k_bd_e h
        refine lv_aload_n hx hb dX11_place_41 rfl (lv_at hl 0 rfl) ?_
        refine g_get hx hb hT hown hH2 dX11_place_42 (k_gX0_3 w) k_fX11_33 (Or.inl rfl) ?_
        refine lv_iload_n hx hb dX11_place_45 rfl (lv_at hl 1 rfl) ?_
        refine lv_iload_n hx hb dX11_place_46 rfl (lv_at hl 2 rfl) ?_
        refine va_calli (g_runV (As := [.int x1, .int x2]) (rest := []) SF hH2 (k_oX12 w) (e_X1_told (d := 2) (Nat.le_refl _) h3) k_lX11_168 k_yX1_told ⟨Nat.le_of_ble_eq_true rfl, Nat.le_of_ble_eq_true rfl⟩ dX11_place_47 hl.1 (Nat.le_of_ble_eq_true rfl) (Nat.zero_le _) (Nat.zero_le _)) hS2 (fun _ _ h => h) (fun _ h => h) (fun r3 u t3 H locs ht hvm hw hB3 hz3 hk3 hS3 => ?_)
        obtain ⟨rfl, rfl⟩ := hw
        subst ht
        exact vx_ret (W.widen (k := 1) (n := 6) (Nat.le_of_ble_eq_true rfl) (Nat.le_of_ble_eq_true rfl) (W.iret (v := r3) hx hb hr (fun t ht hW => ⟨⟨r3, _, rfl, ⟨(Option.some.inj h9).symm, rfl⟩, by show va_P _ _ _ t.heap; rw [ht]; exact hB3⟩, hS3.F ht⟩) hS3.2.2 dX11_place_50))
      · replace h := k_if_t h c27
        obtain ⟨v, h3, h9⟩ := k_bd_e h
        refine lv_aload_n hx hb dX11_place_30 rfl (lv_at hl 0 rfl) ?_
        refine g_get hx hb hT hown hH2 dX11_place_31 (k_gX0_3 w) k_fX11_33 (Or.inl rfl) ?_
        refine lv_iload_n hx hb dX11_place_34 rfl (lv_at hl 1 rfl) ?_
        refine va_calli (g_runV (As := [.int x1]) (rest := []) SF hH2 (k_oX12 w) (e_X1_worthOf (d := 2) (Nat.le_refl _) h3) k_lX11_165 k_yX1_worthOf ⟨Nat.le_of_ble_eq_true rfl, Nat.le_of_ble_eq_true rfl⟩ dX11_place_35 hl.1 (Nat.le_of_ble_eq_true rfl) (Nat.zero_le _) (Nat.zero_le _)) hS2 (fun _ _ h => h) (fun _ h => h) (fun r3 u t3 H locs ht hvm hw hB3 hz3 hk3 hS3 => ?_)
        obtain ⟨rfl, rfl⟩ := hw
        subst ht
        refine lv_goto (tgt := 50) hx hb dX11_place_38 (by decide) ?_
        exact vx_ret (W.widen (k := 1) (n := 6) (Nat.le_of_ble_eq_true rfl) (Nat.le_of_ble_eq_true rfl) (W.iret (v := r3) hx hb hr (fun t ht hW => ⟨⟨r3, _, rfl, ⟨(Option.some.inj h9).symm, rfl⟩, by show va_P _ _ _ t.heap; rw [ht]; exact hB3⟩, hS3.F ht⟩) hS3.2.2 dX11_place_50))
    · exact throwK (Option.some.inj (k_if_t h c14)).symm _ _ hH2 hS2
