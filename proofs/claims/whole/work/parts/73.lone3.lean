/-! lone, the sums -/
theorem n_loneSX {σ x m : k_St} {n A B : Nat} {w z : Int} {R : Int32} (hx : x_c σ = x) (hk : n_mk m n (fun p => vI x 14 p)) (hn : 1 ≤ n) (hl : r_lak x m) (hv : r_val x m) (hfg : x.1 16 3 = m.1 0 26) (hth : x.1 16 4 = m.1 0 27) (hw : 0 ≤ w ∧ w ≤ 2) (hA : A ≤ 4) (hB : B ≤ 4) (hR : f_X11_plainMean (iL (100 * n_sum (fun i => n_sum (fun j => n_G m (fun p => vI x 14 p) w n (n_kn w i j).toNat) B) A)) (iI z) σ = some R) : k_loop (fun (g53 : Int64 × Int32 → Option (Int32)) (z53 : Int64 × Int32) => match z53 with
              | (v5_53, v7_53) =>
                k_if (iI A ≤ v7_53)
                  (k_bd (f_X11_plainMean v5_53 (iI z) σ) fun v107 =>
                  some v107)
                  (k_loop (fun (g62 : Int64 × Int32 → Option (Int32)) (z62 : Int64 × Int32) => match z62 with
                    | (v5_62, v8_62) =>
                      k_if (iI B ≤ v8_62)
                        (k_nm (v7_53 + iI 1) fun y97 =>
                        g53 (v5_62, y97))
                        (k_bd (f_X0_loneStake (iI w) v7_53 v8_62 σ) fun v83 =>
                        k_nm ((v5_62 + (iL 100 * v83.toInt64))) fun y89 =>
                        k_nm (v8_62 + iI 1) fun y91 =>
                        g62 (y89, y91))) 100000 (v5_53, iI 0))) 100000 (iL 0, iI 0) = some R := by
  refine ok_eq.mp (ok_for A (fun i (y : Int64 × Int32) => y = (iL (100 * n_sum (fun i => n_sum (fun j => n_G m (fun p => vI x 14 p) w n (n_kn w i j).toNat) B) i), iI i)) ?_ (by omega) (j := 0) rfl (by omega))
  rintro g i _ rfl hi hg
  show k_OK (k_if _ _ _) _
  rw [n_ile (by omega) (by omega)]
  by_cases c1 : (A : Int) ≤ i
  · rw [if_pos c1, show i = A by omega, hR, n_bd, ok_some]
  rw [if_neg c1]
  refine ok_for B (fun j (y : Int64 × Int32) => y = (iL (100 * n_sum (fun i => n_sum (fun j => n_G m (fun p => vI x 14 p) w n (n_kn w i j).toNat) B) i + 100 * n_sum (fun j => n_G m (fun p => vI x 14 p) w n (n_kn w i j).toNat) j), iI j)) ?_ (by omega) (j := 0) (by
    show _ = (iL (_ + 100 * 0), _)
    rw [Int.mul_zero, Int.add_zero]
    rfl) (by omega)
  rintro g2 j _ rfl hj hg2
  show k_OK (k_if _ _ _) _
  rw [n_ile (by omega) (by omega)]
  by_cases c2 : (B : Int) ≤ j
  · rw [if_pos c2, ok_nm, iI_add]
    refine hg _ (by omega) ?_
    rw [show j = B by omega, ← Int.mul_add]
    rfl
  have hK := n_knr hw (show 0 ≤ (i : Int) ∧ (i : Int) ≤ 3 by omega) (show 0 ≤ (j : Int) ∧ (j : Int) ≤ 3 by omega)
  have hGr := n_Gr hk hn w (n_kn w i j).toNat
  rw [if_neg c2, n_loneSt hx hk hn hl hv hfg hth hw (by omega) (by omega) (show n_kn w i j = (((n_kn w i j).toNat : Nat) : Int) by omega), n_bd, iI_l (by omega), ok_nm, ok_nm, iI_add, iL_mul, iL_add]
  refine hg2 _ (by omega) ?_
  rw [Int.add_assoc, ← Int.mul_add]
  rfl
theorem n_loneSM {s m : k_St} {n : Nat} {V : Nat → Int} {w z : Int} {R : Int32} (hm : m_c s = m) (hk : n_mk m n V) (hn : 1 ≤ n) (hB : ∀ c, c < 16 → ∀ p, p < n → s.1 26 (6 * c + p) = iI (n_Lo m V w c p)) (hR : f_X12_plain (iI (100 * n_sum (n_G m V w n) 16)) (iI z) s = some R) : k_loop (fun (g37 : Int32 × Int32 → Option (Int32 × k_St)) (z37 : Int32 × Int32) => match z37 with
          | (v3_37, v4_37) =>
            k_if (iI 16 ≤ v4_37)
              (k_bd (f_X12_plain (iI 100 * v3_37) (iI z) s) fun v76 =>
              some (v76, s))
              (k_bd (f_X12_loneBest v4_37 s) fun v57 =>
              k_gd (k_ix ((iI 6 * v4_37) + v57) 96 = true) <|
              k_nm ((v3_37 + (k_rd s 26 ((iI 6 * v4_37) + v57).toNatClampNeg))) fun y63 =>
              k_nm (v4_37 + iI 1) fun y64 =>
              g37 (y63, y64))) 100000 (iI 0, iI 0) = some (R, s) := by
  have h6 := hk.2.1
  refine ok_eq.mp (ok_for 16 (fun c (y : Int32 × Int32) => y = (iI (n_sum (n_G m V w n) c), iI c)) ?_ (by omega) (j := 0) rfl (by omega))
  rintro g c _ rfl hc hg
  show k_OK (k_if _ _ _) _
  rw [n_ile (by omega) (by omega)]
  by_cases c1 : (16 : Int) ≤ c
  · rw [if_pos c1, show c = 16 by omega, iI_mul, hR, n_bd, ok_some]
  have ham := n_am_r (n_Lo m V w c) n
  rw [if_neg c1, n_loneBest hm hk hn (by omega) (hB c (by omega)), n_bd, iI_mul, iI_add, n_gix (by omega) (by omega), iI_cl (by omega), ok_nm, ok_nm, show (6 * (c : Int) + ((n_am (n_Lo m V w c) n : Nat) : Int)).toNat = 6 * c + n_am (n_Lo m V w c) n by omega, show k_rd s 26 (6 * c + n_am (n_Lo m V w c) n) = _ from hB c (by omega) _ (by omega), iI_add, iI_add]
  exact hg _ (by omega) rfl
