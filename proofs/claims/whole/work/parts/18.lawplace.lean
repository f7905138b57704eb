theorem dL_place_0 : decode cL_place 0 = .ok (.aload_n 3, 1) := by decide +kernel
theorem dL_place_1 : decode cL_place 1 = .ok (.iconst 0, 1) := by decide +kernel
theorem dL_place_2 : decode cL_place 2 = .ok (.aload_n 0, 1) := by decide +kernel
theorem dL_place_3 : decode cL_place 3 = .ok (.iload_n 1, 1) := by decide +kernel
theorem dL_place_4 : decode cL_place 4 = .ok (.iload_n 2, 1) := by decide +kernel
theorem dL_place_5 : decode cL_place 5 = .ok (.invokevirtual 7, 3) := by decide +kernel
theorem dL_place_8 : decode cL_place 8 = .ok (.i2l, 1) := by decide +kernel
theorem dL_place_9 : decode cL_place 9 = .ok (.lastore, 1) := by decide +kernel
theorem dL_place_10 : decode cL_place 10 = .ok (.goto 7, 3) := by decide +kernel
theorem dL_place_13 : decode cL_place 13 = .ok (.astore 4, 2) := by decide +kernel
theorem dL_place_15 : decode cL_place 15 = .ok (.iconst 1, 1) := by decide +kernel
theorem dL_place_16 : decode cL_place 16 = .ok (.ireturn, 1) := by decide +kernel
theorem dL_place_17 : decode cL_place 17 = .ok (.iconst 0, 1) := by decide +kernel
theorem dL_place_18 : decode cL_place 18 = .ok (.ireturn, 1) := by decide +kernel
theorem g_p1 : Cond.codeWith yL_place cL_place 5 (some .int) [(0, 10, 13, 13)] ∈ k_TT := k_tt (k_s6 133 (by rfl)) rfl
theorem g_p2 : Cond.methodLink RL 7 yX11_place ∈ k_TT ∧ Cond.instanceMethod yX11_place ∈ k_TT ∧ Cond.selects RX11 yX11_place yX11_place ∈ k_TT := ⟨k_tt (k_s6 135 (by decide +kernel)) rfl, k_tt (k_s6 136 (by decide +kernel)) rfl, k_tt (k_s6 137 (by decide +kernel)) rfl⟩
theorem g_p3 : Cond.classLink RL 13 "java/util/NoSuchElementException" ∈ k_TT := k_tt (k_s6 134 (by decide +kernel)) rfl
theorem g_p4 : Cond.initialized RL ∈ k_TT := k_tt (k_s1 0 (by decide +kernel)) rfl
theorem g_p5 : Cond.methodLink RL 38 yL_place ∈ k_TT ∧ Cond.static yL_place ∈ k_TT := ⟨k_tt (k_s6 131 (by decide +kernel)) rfl, k_tt (k_s6 132 (by decide +kernel)) rfl⟩
def g_wsL : List Cond := Cond.codeWith yL_place cL_place 5 (some .int) [(0, 10, 13, 13)] :: k_TT
theorem g_cons {D : va_G} {cl : List vw_C} {a : Nat} {v : va_E} {ws : va_W} {H : Heap} (h1 : va_P D cl [(a, v)] H) (h2 : va_P D cl ws H) : va_P D cl ((a, v) :: ws) H := fun k q hk => by
  cases k with
  | zero => exact h1 0 q hk
  | succ k => exact h2 k q hk
theorem g_consD {A B : Nat → Prop} {ws : va_W} {a : Nat} {v : va_E} (hD : va_D A ws) (ha : ¬ A a) (hB : ∀ q, A q → B q) (hb : B a) : va_D B ((a, v) :: ws) := ⟨fun i j p q hi hj e => by
    cases i with
    | zero => cases j with
      | zero => rfl
      | succ j =>
        have h1 : (a, v) = p := Option.some.inj hi
        subst h1
        have h2 := hD.2 j q hj
        rw [← e] at h2
        exact absurd h2 ha
    | succ i => cases j with
      | zero =>
        have h1 : (a, v) = q := Option.some.inj hj
        subst h1
        have h2 := hD.2 i p hi
        rw [e] at h2
        exact absurd h2 ha
      | succ j => exact congrArg Nat.succ (hD.1 i j p q hi hj e), fun k q hk => by
    cases k with
    | zero =>
      have h1 : (a, v) = q := Option.some.inj hk
      subst h1
      exact hb
    | succ k => exact hB _ (hD.2 k q hk)⟩
def g_post (r : Option Int32) (fo : Nat → Int64) (a : Int32) (u : Nat → Int64) : Prop := match r with
  | some v => a = 0 ∧ u = vp_updL fo 0 v.toInt64
  | none => a = 1 ∧ u = fo
set_option maxHeartbeats 4000000 in
set_option maxRecDepth 100000 in
theorem e_L_place {l : Launch} (hfl : l.stackTraces = false) {w : k_WC} {x1 x2 : Int32} {σ : k_St} {r : Option Int32} (h : f_X11_place x1 x2 σ = some r) {ao : Nat} {fo : Nat → Int64} (hao : ¬ (k_PX w).2.2.1 ao) : Met l yL_place g_wsL { frames := 10, cells := 1, slots := 6, locals := 400 } (va_Pc [.ref (w.2.1 0), .int x1, .int x2, .ref ao] (fun U => g_W (k_PX w) σ U ∧ va_P (k_PX w).1 vwCl [(ao, .inl (w.2.2.2.1, 1, .inr (.inl fo)))] U.heap)) (va_Qi (g_post r fo) (fun u t => va_P (k_PX w).1 vwCl ((k_PX w).2.1 σ) t.heap ∧ va_P (k_PX w).1 vwCl [(ao, .inl (w.2.2.2.1, 1, .inr (.inl u)))] t.heap) (fun q => (k_PX w).2.2.1 q ∨ q = ao)) 1 6 (fun q => (k_PX w).2.2.1 q ∨ q = ao) := by
  refine va_MetW (cc := cL_place) (maxL := 5) (ret := some .int) (hh := [(0, 10, 13, 13)]) (by decide) rfl ?_
  intro p e s m args below meth c s₁ B hml hv
  obtain ⟨rfl, ⟨hW0, hDN, hEx⟩, hO⟩ := hv
  have hx := B.exec
  have hb := B.bytes
  have hr := B.returns
  have hts := atoms_spec (ws := g_wsL) B.pre
  have hT : ∀ w ∈ k_TT, w.before _ s = true := fun w h => hts w (List.mem_cons_of_mem _ h)
  have htb := vx_table (x := yL_place) B (hts _ List.mem_cons_self)
  have hown : s.vm.findClass RL = some m.cls := findClass_of_methodNamed B.named
  have hH : g_H (k_PX w) σ s s.heap := ⟨hW0.1, hW0.2.1, hW0.2.2.1, hW0.2.2.2.1, hW0.2.2.2.2.1, hW0.2.2.2.2.2, fun _ _ _ => rfl⟩
  have hS : va_S (fun q => (k_PX w).2.2.1 q ∨ q = ao) s.heap s.heap [] := va_S.rf
  have hl := lv_entry ([.ref (w.2.1 0), .int x1, .int x2, .ref ao]) (n := 5) (Nat.le_of_ble_eq_true rfl)
  rw [lg_entry_eq]
  generalize (lg_sl ([.ref (w.2.1 0), .int x1, .int x2, .ref ao]) ++ List.replicate (5 - (lg_sl ([.ref (w.2.1 0), .int x1, .int x2, .ref ao])).length) Slot.unset).toArray = ls at hl ⊢
  have hl : lv_has ls 5 [(0, .ref (w.2.1 0)), (1, .int x1), (2, .int x2), (3, .ref ao)] := hl
  have SF : CallFix p m c cL_place 5 s _ k_TT RL := ⟨hx, hb, hml, hown, hT⟩
  have hlt : ao < s.heap.size := (hO 0 _ rfl).lt
  refine lv_aload_n hx hb dL_place_0 rfl (lv_at hl 3 rfl) ?_
  refine lv_iconst (v := 0) hx hb dL_place_1 rfl ?_
  refine lv_aload_n hx hb dL_place_2 rfl (lv_at hl 0 rfl) ?_
  refine lv_iload_n hx hb dL_place_3 rfl (lv_at hl 1 rfl) ?_
  refine lv_iload_n hx hb dL_place_4 rfl (lv_at hl 2 rfl) ?_
  have cw := callB_of (R := ({ frames := 10, cells := 1, slots := 6, locals := 400 } : Room)) (rm := { frames := 8, cells := 1, slots := 6, locals := 320 }) (own := RL) (index := 7) (y := yX11_place) (bytes := cX11_place) (maxL := 3) (ret := some .int) 2 hT (k_goodIn k_yX11_place.2.1) rfl rfl rfl (hT _ k_yX11_place.1) (hT _ g_p2.1) k_yX11_place.2.2.1 ⟨Nat.le_of_ble_eq_true rfl, Nat.le_of_ble_eq_true rfl⟩
  refine vx_calli (vx_runV (As := [.int x1, .int x2]) (rest := [.int 0, .ref ao]) SF (e_X11_place hfl h) ⟨cw, hT _ g_p2.2.1, hT _ g_p2.2.2⟩ ⟨g_blind, va_recv hH.2.1 hH.1 (ci := 10) (q0 := 0) rfl rfl, fun U hU hW => ⟨rfl, hH.W hU hW, fun w h => g_dw h hW (hDN w h), hEx.go hW (fun a _ _ => by rw [hU]) (fun _ h => h)⟩⟩ rfl rfl hl.1 rfl (lv_room (Nat.le_of_ble_eq_true rfl)) dL_place_5 ⟨Nat.le_of_ble_eq_true rfl, Nat.le_of_ble_eq_true rfl⟩) hS (fun _ _ h => Or.inl h) (fun _ h => Or.inl h) (fun _ _ h => Or.inl h) (fun E ce q9 u t H1 locs ht hvm hpx hBX hz hk hS1 hce hcv hcl => ?_) (fun r1 u t H1 locs ht hvm hw hB hz hk hS1 => ?_)
  · obtain ⟨hE, hB⟩ := hBX
    subst hE
    subst ht
    obtain ⟨hr0, hu⟩ := hpx
    subst hu
    have hO1 : va_P (k_PX w).1 vwCl [(ao, .inl (w.2.2.2.1, 1, .inr (.inl fo)))] t.heap := va_P.kept hO (fun k x hx => by
      have hx2 := hx
      have h1 : k = 0 := by
        have := (List.getElem?_eq_some_iff.mp hx).1
        simp at this
        exact this
      subst h1
      cases hx2
      exact hk ao hlt hao)
    refine vx_catch (own := RL) (name := "java/util/NoSuchElementException") hown [] { startPc := 0, endPc := 10, handlerPc := 13, catchType := 13 } [] (by rw [htb]; rfl) (fun z h => by cases h) (by decide) (by decide) (hT _ g_p3) (g_du (g_xd _ (List.mem_of_getElem? (i := 3) rfl)) (hDN _ (g_xd _ (List.mem_of_getElem? (i := 3) rfl)))) hce hcv hcl ?_
    refine lv_astore (lv' := [(4, .ref q9), (0, .ref (w.2.1 0)), (1, .int x1), (2, .int x2), (3, .ref ao)]) hx hb dL_place_13 hl (by decide) rfl (fun ls hl => ?_)
    refine lv_iconst (v := 1) hx hb dL_place_15 rfl ?_
    refine W.widen (k := 1) (n := 6) (Nat.le_of_ble_eq_true rfl) (Nat.le_of_ble_eq_true rfl) ?_
    exact W.iret (v := 1) hx hb hr (fun t2 ht2 hW => ⟨⟨1, fo, rfl, by rw [hr0]; exact ⟨rfl, rfl⟩, by rw [ht2]; exact hB, by rw [ht2]; exact hO1⟩, hS1.F ht2⟩) hS1.2.2 dL_place_16
  · obtain ⟨hr1, hu⟩ := hw
    subst ht
    subst hu
    have hO1 : va_P (k_PX w).1 vwCl [(ao, .inl (w.2.2.2.1, 1, .inr (.inl fo)))] t.heap := va_P.kept hO (fun k x hx => by
      have hx2 := hx
      have h1 : k = 0 := by
        have := (List.getElem?_eq_some_iff.mp hx).1
        simp at this
        exact this
      subst h1
      cases hx2
      exact hk ao hlt hao)
    have hJ := g_cons hO1 hB
    have hJD : va_D (fun q => (k_PX w).2.2.1 q ∨ q = ao) ((ao, .inl (w.2.2.2.1, 1, .inr (.inl fo))) :: (k_PX w).2.1 u) := g_consD (hH.2.2.1 u) hao (fun q h => Or.inl h) (Or.inr rfl)
    refine lv_i2l (v := r1.toInt64) hx hb dL_place_8 rfl ?_
    refine va_last hx hb hH.2.1 hJ hJD hS1 0 1 rfl rfl (k_ix_vp (by decide)) dL_place_9 (fun H2 locs2 hJ2 hJD2 hS2 => ?_)
    refine lv_goto (tgt := 17) hx hb dL_place_10 (by decide) ?_
    refine lv_iconst (v := 0) hx hb dL_place_17 rfl ?_
    refine W.widen (k := 1) (n := 6) (Nat.le_of_ble_eq_true rfl) (Nat.le_of_ble_eq_true rfl) ?_
    exact W.iret (v := 0) hx hb hr (fun t2 ht2 hW => ⟨⟨0, vp_updL fo 0 r1.toInt64, rfl, by rw [hr1]; exact ⟨rfl, rfl⟩, fun k q hk9 => by rw [ht2]; exact hJ2 (k + 1) q hk9, fun k q hk9 => by
      have h1 : k = 0 := by
        have := (List.getElem?_eq_some_iff.mp hk9).1
        simp at this
        exact this
      subst h1
      rw [ht2]
      exact hJ2 0 q hk9⟩, hS2.F ht2⟩) hS2.2.2 dL_place_18
