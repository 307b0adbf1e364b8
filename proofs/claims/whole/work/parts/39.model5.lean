set_option maxHeartbeats 4000000 in
set_option maxRecDepth 100000 in
theorem k_M_distance (l : Launch) (G : va_G) (z : tz3) (w : Nat → Nat) (it : Int) (cd : Int) (now : Int) (gr : Int) (md : Int) (dO : Int) (pcn : Int → Int) (prt : Int → Int) (pnt : Int → Int) (pco : Int → Int) (pus : Int → Int) (pfa : Int → Int) (a : Int) (ha : inR a) (rcn : ∀ i : Int, 0 ≤ pcn i ∧ pcn i ≤ 24) (rrt : ∀ i : Int, -1 ≤ prt i ∧ prt i ≤ 63) (rnt : ∀ i : Int, 0 ≤ pnt i ∧ pnt i ≤ 63) (rco : ∀ i : Int, 0 ≤ pco i ∧ pco i ≤ 1000) (rus : ∀ i : Int, 0 ≤ pus i ∧ pus i ≤ 1) (rfa : ∀ i : Int, -1 ≤ pfa i ∧ pfa i ≤ 64000) (hAK : AOK pcn prt pco) (hit : 0 ≤ it ∧ it < 64) : Ki l y_M_distance c_M_distance 2 (some .int) (rmD 2) G z [.ref (w 0), .int (iI a)] [(w 0, .inr (4, [.int (iI it), .int (iI cd), .int (iI now), .ref (w 1), .ref (w 2), .int (iI gr), .int (iI md), .ref (w 3), .ref (w 4), .ref (w 5), .ref (w 6), .ref (w 7), .ref (w 8), .int (iI dO), .ref (w 9), .ref (w 10)])), (w 5, .inl (z.1, 66, .inl (aI pcn))), (w 6, .inl (z.1, 1584, .inl (aI prt))), (w 7, .inl (z.1, 1584, .inl (aI pnt))), (w 8, .inl (z.1, 1584, .inl (aI pco))), (w 9, .inl (z.2.1, 1536, .inl (aI pus))), (w 10, .inl (z.1, 64, .inl (aI pfa)))] (fun r9 u9 => ∃ (rv : Int) (c2 : Int) (gus : Int → Int) (gfa : Int → Int), u9 = [(w 0, .inr (4, [.int (iI it), .int (iI c2), .int (iI now), .ref (w 1), .ref (w 2), .int (iI gr), .int (iI md), .ref (w 3), .ref (w 4), .ref (w 5), .ref (w 6), .ref (w 7), .ref (w 8), .int (iI dO), .ref (w 9), .ref (w 10)])), (w 5, .inl (z.1, 66, .inl (aI pcn))), (w 6, .inl (z.1, 1584, .inl (aI prt))), (w 7, .inl (z.1, 1584, .inl (aI pnt))), (w 8, .inl (z.1, 1584, .inl (aI pco))), (w 9, .inl (z.2.1, 1536, .inl (aI gus))), (w 10, .inl (z.1, 64, .inl (aI gfa)))] ∧ r9 = iI rv ∧ (∀ i : Int, 0 ≤ gus i ∧ gus i ≤ 1) ∧ (∀ i : Int, -1 ≤ gfa i ∧ gfa i ≤ 64000) ∧ ((¬ (0 ≤ a ∧ a < 64) ∧ c2 = 1) ∨ ((0 ≤ a ∧ a < 64) ∧ c2 = 0 ∧ rv = gfa a ∧ isD (eg pcn prt pnt pco) it gfa))) := by
  refine Ki.of (by decide) (Nat.le_of_ble_eq_true rfl) ?_
  intro p e s m below meth c A hB hP hD ls hl
  obtain ⟨hx, hb, hRt, hml, hown, hlocks, hg, hE, hA, hin⟩ := hB
  have hown : s.vm.findClass R_M = some m.cls := hown
  have hl : lv_has ls 2 [(0, .ref (w 0)), (1, .int (iI a))] := hl
  obtain ⟨H, hH⟩ : ∃ H, H = s.heap := ⟨_, rfl⟩
  have hS : va_S A s.heap H [] := by rw [hH]; exact va_S.rf
  rw [← hH] at hP
  rw [← hH]
  have hP : va_P G cls0 [(w 0, .inr (4, [.int (iI it), .int (iI cd), .int (iI now), .ref (w 1), .ref (w 2), .int (iI gr), .int (iI md), .ref (w 3), .ref (w 4), .ref (w 5), .ref (w 6), .ref (w 7), .ref (w 8), .int (iI dO), .ref (w 9), .ref (w 10)])), (w 5, .inl (z.1, 66, .inl (aI pcn))), (w 6, .inl (z.1, 1584, .inl (aI prt))), (w 7, .inl (z.1, 1584, .inl (aI pnt))), (w 8, .inl (z.1, 1584, .inl (aI pco))), (w 9, .inl (z.2.1, 1536, .inl (aI pus))), (w 10, .inl (z.1, 64, .inl (aI pfa)))] H := hP
  have hD : va_D A [(w 0, .inr (4, [.int (iI it), .int (iI cd), .int (iI now), .ref (w 1), .ref (w 2), .int (iI gr), .int (iI md), .ref (w 3), .ref (w 4), .ref (w 5), .ref (w 6), .ref (w 7), .ref (w 8), .int (iI dO), .ref (w 9), .ref (w 10)])), (w 5, .inl (z.1, 66, .inl (aI pcn))), (w 6, .inl (z.1, 1584, .inl (aI prt))), (w 7, .inl (z.1, 1584, .inl (aI pnt))), (w 8, .inl (z.1, 1584, .inl (aI pco))), (w 9, .inl (z.2.1, 1536, .inl (aI pus))), (w 10, .inl (z.1, 64, .inl (aI pfa)))] := hD
  refine lv_aload_n hx hb d_M_distance_0 rfl (lv_at hl 0 rfl) ?_
  refine lv_iload_n hx hb d_M_distance_1 rfl (lv_at hl 1 rfl) ?_
  refine lv_iconst (v := iI 0) hx hb d_M_distance_2 rfl ?_
  refine lv_bipush (v := iI 63) hx hb d_M_distance_3 (by decide +kernel) ?_
  refine qS_i (As := [.int (iI a), .int (iI 0), .int (iI 63)]) (rest := [.ref (w 0)]) (wr := [(w 0, .inr (4, [.int (iI it), .int (iI cd), .int (iI now), .ref (w 1), .ref (w 2), .int (iI gr), .int (iI md), .ref (w 3), .ref (w 4), .ref (w 5), .ref (w 6), .ref (w 7), .ref (w 8), .int (iI dO), .ref (w 9), .ref (w 10)])), (w 5, .inl (z.1, 66, .inl (aI pcn))), (w 6, .inl (z.1, 1584, .inl (aI prt))), (w 7, .inl (z.1, 1584, .inl (aI pnt))), (w 8, .inl (z.1, 1584, .inl (aI pco))), (w 9, .inl (z.2.1, 1536, .inl (aI pus))), (w 10, .inl (z.1, 64, .inl (aI pfa)))]) hx hb hml hown hg hE hA hS hP hD (k_M_in l G z a 0 63 (by omega) (by omega) (by omega)) [] [0, 1, 2, 3, 4, 5, 6] rfl rfl (by decide) (by decide) (by decide) ml_M_51 st_M_in in_M co_M_in ok_M_in ⟨Nat.le_of_ble_eq_true rfl, Nat.le_of_ble_eq_true rfl⟩ hl.1 rfl (Nat.le_of_ble_eq_true rfl) d_M_distance_5 ⟨Nat.le_of_ble_eq_true rfl, Nat.le_of_ble_eq_true rfl⟩ (fun r9 u9 H locs hw hP hD hS => ?_)
  obtain ⟨rb_1, rfl, rfl, fb_2⟩ := hw
  have hP : va_P G cls0 [(w 0, .inr (4, [.int (iI it), .int (iI cd), .int (iI now), .ref (w 1), .ref (w 2), .int (iI gr), .int (iI md), .ref (w 3), .ref (w 4), .ref (w 5), .ref (w 6), .ref (w 7), .ref (w 8), .int (iI dO), .ref (w 9), .ref (w 10)])), (w 5, .inl (z.1, 66, .inl (aI pcn))), (w 6, .inl (z.1, 1584, .inl (aI prt))), (w 7, .inl (z.1, 1584, .inl (aI pnt))), (w 8, .inl (z.1, 1584, .inl (aI pco))), (w 9, .inl (z.2.1, 1536, .inl (aI pus))), (w 10, .inl (z.1, 64, .inl (aI pfa)))] H := hP
  have hD : va_D A [(w 0, .inr (4, [.int (iI it), .int (iI cd), .int (iI now), .ref (w 1), .ref (w 2), .int (iI gr), .int (iI md), .ref (w 3), .ref (w 4), .ref (w 5), .ref (w 6), .ref (w 7), .ref (w 8), .int (iI dO), .ref (w 9), .ref (w 10)])), (w 5, .inl (z.1, 66, .inl (aI pcn))), (w 6, .inl (z.1, 1584, .inl (aI prt))), (w 7, .inl (z.1, 1584, .inl (aI pnt))), (w 8, .inl (z.1, 1584, .inl (aI pco))), (w 9, .inl (z.2.1, 1536, .inl (aI pus))), (w 10, .inl (z.1, 64, .inl (aI pfa)))] := hD
  refine rv_if_eq (tgt := 15) hx hb d_M_distance_8 (by decide) (by constructor <;> omega) (fun c_3 => ?_) (fun c_3 => ?_)
  · skip
    refine lv_iconst (v := iI 1) hx hb d_M_distance_15 rfl ?_
    refine va_put (D := G) (ci := 4) (v := .int (iI 1)) (ty := .int) (C := R_M) (T := T_M) (N := 16) hx hb hg iw_M ty_M ty_M_ok nm_M hown hE.1 hP hD hS 0 rfl rfl 1 (by decide) (hg _ fl_M_48) (fun _ h9 => h9) rfl (by decide +kernel) rfl rfl (Nat.le_of_ble_eq_true rfl) d_M_distance_16 (fun H locs hP hD hS => ?_)
    have hP : va_P G cls0 [(w 0, .inr (4, [.int (iI it), .int (iI 1), .int (iI now), .ref (w 1), .ref (w 2), .int (iI gr), .int (iI md), .ref (w 3), .ref (w 4), .ref (w 5), .ref (w 6), .ref (w 7), .ref (w 8), .int (iI dO), .ref (w 9), .ref (w 10)])), (w 5, .inl (z.1, 66, .inl (aI pcn))), (w 6, .inl (z.1, 1584, .inl (aI prt))), (w 7, .inl (z.1, 1584, .inl (aI pnt))), (w 8, .inl (z.1, 1584, .inl (aI pco))), (w 9, .inl (z.2.1, 1536, .inl (aI pus))), (w 10, .inl (z.1, 64, .inl (aI pfa)))] H := hP
    have hD : va_D A [(w 0, .inr (4, [.int (iI it), .int (iI 1), .int (iI now), .ref (w 1), .ref (w 2), .int (iI gr), .int (iI md), .ref (w 3), .ref (w 4), .ref (w 5), .ref (w 6), .ref (w 7), .ref (w 8), .int (iI dO), .ref (w 9), .ref (w 10)])), (w 5, .inl (z.1, 66, .inl (aI pcn))), (w 6, .inl (z.1, 1584, .inl (aI prt))), (w 7, .inl (z.1, 1584, .inl (aI pnt))), (w 8, .inl (z.1, 1584, .inl (aI pco))), (w 9, .inl (z.2.1, 1536, .inl (aI pus))), (w 10, .inl (z.1, 64, .inl (aI pfa)))] := hD
    refine lv_aload_n hx hb d_M_distance_19 rfl (lv_at hl 0 rfl) ?_
    refine va_get (D := G) (ci := 4) (v := .int (iI 1)) (C := R_M) (T := T_M) (N := 16) hx hb hg iw_M hown hE.1 hP 0 rfl rfl 1 (by decide) (hg _ fl_M_48) (fun _ h9 => h9) rfl d_M_distance_20 ?_
    refine rv_if_le (tgt := 28) hx hb d_M_distance_23 (by decide) ⟨by decide, by decide⟩ (fun c_4 => ?_) (fun c_4 => ?_)
    · exact absurd c_4 (by decide)
    · skip
      refine lv_iconst (v := iI 0) hx hb d_M_distance_26 rfl ?_
      have hP9 : va_P G cls0 [(w 0, .inr (4, [.int (iI it), .int (iI 1), .int (iI now), .ref (w 1), .ref (w 2), .int (iI gr), .int (iI md), .ref (w 3), .ref (w 4), .ref (w 5), .ref (w 6), .ref (w 7), .ref (w 8), .int (iI dO), .ref (w 9), .ref (w 10)])), (w 5, .inl (z.1, 66, .inl (aI pcn))), (w 6, .inl (z.1, 1584, .inl (aI prt))), (w 7, .inl (z.1, 1584, .inl (aI pnt))), (w 8, .inl (z.1, 1584, .inl (aI pco))), (w 9, .inl (z.2.1, 1536, .inl (aI pus))), (w 10, .inl (z.1, 64, .inl (aI pfa)))] H := hP.sub [0, 1, 2, 3, 4, 5, 6] rfl
      have hD9 : va_D A [(w 0, .inr (4, [.int (iI it), .int (iI 1), .int (iI now), .ref (w 1), .ref (w 2), .int (iI gr), .int (iI md), .ref (w 3), .ref (w 4), .ref (w 5), .ref (w 6), .ref (w 7), .ref (w 8), .int (iI dO), .ref (w 9), .ref (w 10)])), (w 5, .inl (z.1, 66, .inl (aI pcn))), (w 6, .inl (z.1, 1584, .inl (aI prt))), (w 7, .inl (z.1, 1584, .inl (aI pnt))), (w 8, .inl (z.1, 1584, .inl (aI pco))), (w 9, .inl (z.2.1, 1536, .inl (aI pus))), (w 10, .inl (z.1, 64, .inl (aI pfa)))] := hD.sub [0, 1, 2, 3, 4, 5, 6] (by decide) rfl
      refine rv_iret hx hb hRt (nar_int _) hlocks (Nat.le_of_ble_eq_true rfl) (Nat.le_of_ble_eq_true rfl) hP9 hD9 hS d_M_distance_27 ?_
      exact ⟨0, 1, pus, pfa, rfl, rfl, rus, rfa, (Or.inl ⟨by omega, rfl⟩)⟩
  · skip
    refine lv_iconst (v := iI 0) hx hb d_M_distance_11 rfl ?_
    refine lv_goto (tgt := 16) hx hb d_M_distance_12 (by decide) ?_
    refine va_put (D := G) (ci := 4) (v := .int (iI 0)) (ty := .int) (C := R_M) (T := T_M) (N := 16) hx hb hg iw_M ty_M ty_M_ok nm_M hown hE.1 hP hD hS 0 rfl rfl 1 (by decide) (hg _ fl_M_48) (fun _ h9 => h9) rfl (by decide +kernel) rfl rfl (Nat.le_of_ble_eq_true rfl) d_M_distance_16 (fun H locs hP hD hS => ?_)
    have hP : va_P G cls0 [(w 0, .inr (4, [.int (iI it), .int (iI 0), .int (iI now), .ref (w 1), .ref (w 2), .int (iI gr), .int (iI md), .ref (w 3), .ref (w 4), .ref (w 5), .ref (w 6), .ref (w 7), .ref (w 8), .int (iI dO), .ref (w 9), .ref (w 10)])), (w 5, .inl (z.1, 66, .inl (aI pcn))), (w 6, .inl (z.1, 1584, .inl (aI prt))), (w 7, .inl (z.1, 1584, .inl (aI pnt))), (w 8, .inl (z.1, 1584, .inl (aI pco))), (w 9, .inl (z.2.1, 1536, .inl (aI pus))), (w 10, .inl (z.1, 64, .inl (aI pfa)))] H := hP
    have hD : va_D A [(w 0, .inr (4, [.int (iI it), .int (iI 0), .int (iI now), .ref (w 1), .ref (w 2), .int (iI gr), .int (iI md), .ref (w 3), .ref (w 4), .ref (w 5), .ref (w 6), .ref (w 7), .ref (w 8), .int (iI dO), .ref (w 9), .ref (w 10)])), (w 5, .inl (z.1, 66, .inl (aI pcn))), (w 6, .inl (z.1, 1584, .inl (aI prt))), (w 7, .inl (z.1, 1584, .inl (aI pnt))), (w 8, .inl (z.1, 1584, .inl (aI pco))), (w 9, .inl (z.2.1, 1536, .inl (aI pus))), (w 10, .inl (z.1, 64, .inl (aI pfa)))] := hD
    refine lv_aload_n hx hb d_M_distance_19 rfl (lv_at hl 0 rfl) ?_
    refine va_get (D := G) (ci := 4) (v := .int (iI 0)) (C := R_M) (T := T_M) (N := 16) hx hb hg iw_M hown hE.1 hP 0 rfl rfl 1 (by decide) (hg _ fl_M_48) (fun _ h9 => h9) rfl d_M_distance_20 ?_
    refine rv_if_le (tgt := 28) hx hb d_M_distance_23 (by decide) ⟨by decide, by decide⟩ (fun c_5 => ?_) (fun c_5 => ?_)
    · skip
      refine lv_aload_n hx hb d_M_distance_28 rfl (lv_at hl 0 rfl) ?_
      refine qV_v (As := []) (rest := []) (wr := [(w 8, .inl (z.1, 1584, .inl (aI pco))), (w 10, .inl (z.1, 64, .inl (aI pfa)))]) hx hb hml hown hg hE hA hS hP hD (k_M_check l G z w it 0 now gr md dO pcn prt pnt pus (by assumption) (by assumption) (by assumption) (by assumption)) [0, 1, 2, 3, 5] [4, 6] rfl rfl (by decide) (by decide) (by decide) (q0 := 0) rfl rfl ml_M_92 im_M_check se_M_check in_M co_M_check ok_M_check ⟨Nat.le_of_ble_eq_true rfl, Nat.le_of_ble_eq_true rfl⟩ hl.1 rfl (Nat.le_of_ble_eq_true rfl) d_M_distance_29 ⟨Nat.le_of_ble_eq_true rfl, Nat.le_of_ble_eq_true rfl⟩ (fun u9 H locs hw hP hD hS => ?_)
      obtain ⟨gus, rfl, rgus, fck⟩ := hw
      have hP : va_P G cls0 [(w 8, .inl (z.1, 1584, .inl (aI pco))), (w 10, .inl (z.1, 64, .inl (aI pfa))), (w 0, .inr (4, [.int (iI it), .int (iI 0), .int (iI now), .ref (w 1), .ref (w 2), .int (iI gr), .int (iI md), .ref (w 3), .ref (w 4), .ref (w 5), .ref (w 6), .ref (w 7), .ref (w 8), .int (iI dO), .ref (w 9), .ref (w 10)])), (w 5, .inl (z.1, 66, .inl (aI pcn))), (w 6, .inl (z.1, 1584, .inl (aI prt))), (w 7, .inl (z.1, 1584, .inl (aI pnt))), (w 9, .inl (z.2.1, 1536, .inl (aI gus)))] H := hP
      have hD : va_D A [(w 8, .inl (z.1, 1584, .inl (aI pco))), (w 10, .inl (z.1, 64, .inl (aI pfa))), (w 0, .inr (4, [.int (iI it), .int (iI 0), .int (iI now), .ref (w 1), .ref (w 2), .int (iI gr), .int (iI md), .ref (w 3), .ref (w 4), .ref (w 5), .ref (w 6), .ref (w 7), .ref (w 8), .int (iI dO), .ref (w 9), .ref (w 10)])), (w 5, .inl (z.1, 66, .inl (aI pcn))), (w 6, .inl (z.1, 1584, .inl (aI prt))), (w 7, .inl (z.1, 1584, .inl (aI pnt))), (w 9, .inl (z.2.1, 1536, .inl (aI gus)))] := hD
      refine lv_aload_n hx hb d_M_distance_32 rfl (lv_at hl 0 rfl) ?_
      refine lv_aload_n hx hb d_M_distance_33 rfl (lv_at hl 0 rfl) ?_
      refine va_get (D := G) (ci := 4) (v := .int (iI it)) (C := R_M) (T := T_M) (N := 16) hx hb hg iw_M hown hE.1 hP 2 rfl rfl 0 (by decide) (hg _ fl_M_45) (fun _ h9 => h9) rfl d_M_distance_34 ?_
      refine qV_v (As := [.int (iI it)]) (rest := []) (wr := []) hx hb hml hown hg hE hA hS hP hD (k_M_spread l G z w it 0 now gr md dO pcn prt pnt pco gus pfa it (by assumption) (by assumption) (by assumption) (by assumption) (by assumption) (by assumption) hAK fck (by omega)) [2, 3, 4, 5, 0, 6, 1] [] rfl rfl (by decide) (by decide) (by decide) (q0 := 0) rfl rfl ml_M_95 im_M_spread se_M_spread in_M co_M_spread ok_M_spread ⟨Nat.le_of_ble_eq_true rfl, Nat.le_of_ble_eq_true rfl⟩ hl.1 rfl (Nat.le_of_ble_eq_true rfl) d_M_distance_37 ⟨Nat.le_of_ble_eq_true rfl, Nat.le_of_ble_eq_true rfl⟩ (fun u9 H locs hw hP hD hS => ?_)
      obtain ⟨gfa, rfl, rgfa, fD⟩ := hw
      have hP : va_P G cls0 [(w 0, .inr (4, [.int (iI it), .int (iI 0), .int (iI now), .ref (w 1), .ref (w 2), .int (iI gr), .int (iI md), .ref (w 3), .ref (w 4), .ref (w 5), .ref (w 6), .ref (w 7), .ref (w 8), .int (iI dO), .ref (w 9), .ref (w 10)])), (w 5, .inl (z.1, 66, .inl (aI pcn))), (w 6, .inl (z.1, 1584, .inl (aI prt))), (w 7, .inl (z.1, 1584, .inl (aI pnt))), (w 8, .inl (z.1, 1584, .inl (aI pco))), (w 9, .inl (z.2.1, 1536, .inl (aI gus))), (w 10, .inl (z.1, 64, .inl (aI gfa)))] H := hP
      have hD : va_D A [(w 0, .inr (4, [.int (iI it), .int (iI 0), .int (iI now), .ref (w 1), .ref (w 2), .int (iI gr), .int (iI md), .ref (w 3), .ref (w 4), .ref (w 5), .ref (w 6), .ref (w 7), .ref (w 8), .int (iI dO), .ref (w 9), .ref (w 10)])), (w 5, .inl (z.1, 66, .inl (aI pcn))), (w 6, .inl (z.1, 1584, .inl (aI prt))), (w 7, .inl (z.1, 1584, .inl (aI pnt))), (w 8, .inl (z.1, 1584, .inl (aI pco))), (w 9, .inl (z.2.1, 1536, .inl (aI gus))), (w 10, .inl (z.1, 64, .inl (aI gfa)))] := hD
      refine lv_aload_n hx hb d_M_distance_40 rfl (lv_at hl 0 rfl) ?_
      refine va_get (D := G) (ci := 4) (v := .ref (w 10)) (C := R_M) (T := T_M) (N := 16) hx hb hg iw_M hown hE.1 hP 0 rfl rfl 15 (by decide) (hg _ fl_M_42) (fun _ h9 => h9) rfl d_M_distance_41 ?_
      refine lv_iload_n hx hb d_M_distance_44 rfl (lv_at hl 1 rfl) ?_
      refine rv_iald hx hb hE hP 6 rfl (i := a) (by omega) (by omega) (by decide) d_M_distance_45 ?_
      have hP9 : va_P G cls0 [(w 0, .inr (4, [.int (iI it), .int (iI 0), .int (iI now), .ref (w 1), .ref (w 2), .int (iI gr), .int (iI md), .ref (w 3), .ref (w 4), .ref (w 5), .ref (w 6), .ref (w 7), .ref (w 8), .int (iI dO), .ref (w 9), .ref (w 10)])), (w 5, .inl (z.1, 66, .inl (aI pcn))), (w 6, .inl (z.1, 1584, .inl (aI prt))), (w 7, .inl (z.1, 1584, .inl (aI pnt))), (w 8, .inl (z.1, 1584, .inl (aI pco))), (w 9, .inl (z.2.1, 1536, .inl (aI gus))), (w 10, .inl (z.1, 64, .inl (aI gfa)))] H := hP.sub [0, 1, 2, 3, 4, 5, 6] rfl
      have hD9 : va_D A [(w 0, .inr (4, [.int (iI it), .int (iI 0), .int (iI now), .ref (w 1), .ref (w 2), .int (iI gr), .int (iI md), .ref (w 3), .ref (w 4), .ref (w 5), .ref (w 6), .ref (w 7), .ref (w 8), .int (iI dO), .ref (w 9), .ref (w 10)])), (w 5, .inl (z.1, 66, .inl (aI pcn))), (w 6, .inl (z.1, 1584, .inl (aI prt))), (w 7, .inl (z.1, 1584, .inl (aI pnt))), (w 8, .inl (z.1, 1584, .inl (aI pco))), (w 9, .inl (z.2.1, 1536, .inl (aI gus))), (w 10, .inl (z.1, 64, .inl (aI gfa)))] := hD.sub [0, 1, 2, 3, 4, 5, 6] (by decide) rfl
      refine rv_iret hx hb hRt (nar_int _) hlocks (Nat.le_of_ble_eq_true rfl) (Nat.le_of_ble_eq_true rfl) hP9 hD9 hS d_M_distance_46 ?_
      exact ⟨(gfa a), 0, gus, gfa, rfl, rfl, rgus, rgfa, (Or.inr ⟨by omega, rfl, rfl, fD⟩)⟩
    · exact absurd c_5 (by decide)
set_option maxHeartbeats 4000000 in
set_option maxRecDepth 100000 in
theorem k_M_cost (l : Launch) (G : va_G) (z : tz3) (w : Nat → Nat) (it : Int) (cd : Int) (now : Int) (gr : Int) (md : Int) (dO : Int) (pcn : Int → Int) (prt : Int → Int) (pnt : Int → Int) (pco : Int → Int) (pus : Int → Int) (pfa : Int → Int) (a : Int) (ha : inR a) (rcn : ∀ i : Int, 0 ≤ pcn i ∧ pcn i ≤ 24) (rrt : ∀ i : Int, -1 ≤ prt i ∧ prt i ≤ 63) (rnt : ∀ i : Int, 0 ≤ pnt i ∧ pnt i ≤ 63) (rco : ∀ i : Int, 0 ≤ pco i ∧ pco i ≤ 1000) (rus : ∀ i : Int, 0 ≤ pus i ∧ pus i ≤ 1) (rfa : ∀ i : Int, -1 ≤ pfa i ∧ pfa i ≤ 64000) (hAK : AOK pcn prt pco) (hit : 0 ≤ it ∧ it < 64) (hUQ : UNQ pcn prt pnt) : Ki l y_M_cost c_M_cost 2 (some .int) (rmD 2) G z [.ref (w 0), .int (iI a)] [(w 0, .inr (4, [.int (iI it), .int (iI cd), .int (iI now), .ref (w 1), .ref (w 2), .int (iI gr), .int (iI md), .ref (w 3), .ref (w 4), .ref (w 5), .ref (w 6), .ref (w 7), .ref (w 8), .int (iI dO), .ref (w 9), .ref (w 10)])), (w 5, .inl (z.1, 66, .inl (aI pcn))), (w 6, .inl (z.1, 1584, .inl (aI prt))), (w 7, .inl (z.1, 1584, .inl (aI pnt))), (w 8, .inl (z.1, 1584, .inl (aI pco))), (w 9, .inl (z.2.1, 1536, .inl (aI pus))), (w 10, .inl (z.1, 64, .inl (aI pfa)))] (fun r9 u9 => ∃ (rv : Int) (c2 : Int) (gus : Int → Int) (gfa : Int → Int), u9 = [(w 0, .inr (4, [.int (iI it), .int (iI c2), .int (iI now), .ref (w 1), .ref (w 2), .int (iI gr), .int (iI md), .ref (w 3), .ref (w 4), .ref (w 5), .ref (w 6), .ref (w 7), .ref (w 8), .int (iI dO), .ref (w 9), .ref (w 10)])), (w 5, .inl (z.1, 66, .inl (aI pcn))), (w 6, .inl (z.1, 1584, .inl (aI prt))), (w 7, .inl (z.1, 1584, .inl (aI pnt))), (w 8, .inl (z.1, 1584, .inl (aI pco))), (w 9, .inl (z.2.1, 1536, .inl (aI gus))), (w 10, .inl (z.1, 64, .inl (aI gfa)))] ∧ r9 = iI rv ∧ (∀ i : Int, 0 ≤ gus i ∧ gus i ≤ 1) ∧ (∀ i : Int, -1 ≤ gfa i ∧ gfa i ≤ 64000) ∧ ((¬ (0 ≤ a ∧ a < 64) ∧ c2 = 1) ∨ ((0 ≤ a ∧ a < 64) ∧ c2 = 0 ∧ LST pcn prt pnt pco gfa a 64 rv ∧ isD (eg pcn prt pnt pco) it gfa))) := by
  refine Ki.of (by decide) (Nat.le_of_ble_eq_true rfl) ?_
  intro p e s m below meth c A hB hP hD ls hl
  obtain ⟨hx, hb, hRt, hml, hown, hlocks, hg, hE, hA, hin⟩ := hB
  have hown : s.vm.findClass R_M = some m.cls := hown
  have hl : lv_has ls 2 [(0, .ref (w 0)), (1, .int (iI a))] := hl
  obtain ⟨H, hH⟩ : ∃ H, H = s.heap := ⟨_, rfl⟩
  have hS : va_S A s.heap H [] := by rw [hH]; exact va_S.rf
  rw [← hH] at hP
  rw [← hH]
  have hP : va_P G cls0 [(w 0, .inr (4, [.int (iI it), .int (iI cd), .int (iI now), .ref (w 1), .ref (w 2), .int (iI gr), .int (iI md), .ref (w 3), .ref (w 4), .ref (w 5), .ref (w 6), .ref (w 7), .ref (w 8), .int (iI dO), .ref (w 9), .ref (w 10)])), (w 5, .inl (z.1, 66, .inl (aI pcn))), (w 6, .inl (z.1, 1584, .inl (aI prt))), (w 7, .inl (z.1, 1584, .inl (aI pnt))), (w 8, .inl (z.1, 1584, .inl (aI pco))), (w 9, .inl (z.2.1, 1536, .inl (aI pus))), (w 10, .inl (z.1, 64, .inl (aI pfa)))] H := hP
  have hD : va_D A [(w 0, .inr (4, [.int (iI it), .int (iI cd), .int (iI now), .ref (w 1), .ref (w 2), .int (iI gr), .int (iI md), .ref (w 3), .ref (w 4), .ref (w 5), .ref (w 6), .ref (w 7), .ref (w 8), .int (iI dO), .ref (w 9), .ref (w 10)])), (w 5, .inl (z.1, 66, .inl (aI pcn))), (w 6, .inl (z.1, 1584, .inl (aI prt))), (w 7, .inl (z.1, 1584, .inl (aI pnt))), (w 8, .inl (z.1, 1584, .inl (aI pco))), (w 9, .inl (z.2.1, 1536, .inl (aI pus))), (w 10, .inl (z.1, 64, .inl (aI pfa)))] := hD
  refine lv_aload_n hx hb d_M_cost_0 rfl (lv_at hl 0 rfl) ?_
  refine lv_iload_n hx hb d_M_cost_1 rfl (lv_at hl 1 rfl) ?_
  refine lv_iconst (v := iI 0) hx hb d_M_cost_2 rfl ?_
  refine lv_bipush (v := iI 63) hx hb d_M_cost_3 (by decide +kernel) ?_
  refine qS_i (As := [.int (iI a), .int (iI 0), .int (iI 63)]) (rest := [.ref (w 0)]) (wr := [(w 0, .inr (4, [.int (iI it), .int (iI cd), .int (iI now), .ref (w 1), .ref (w 2), .int (iI gr), .int (iI md), .ref (w 3), .ref (w 4), .ref (w 5), .ref (w 6), .ref (w 7), .ref (w 8), .int (iI dO), .ref (w 9), .ref (w 10)])), (w 5, .inl (z.1, 66, .inl (aI pcn))), (w 6, .inl (z.1, 1584, .inl (aI prt))), (w 7, .inl (z.1, 1584, .inl (aI pnt))), (w 8, .inl (z.1, 1584, .inl (aI pco))), (w 9, .inl (z.2.1, 1536, .inl (aI pus))), (w 10, .inl (z.1, 64, .inl (aI pfa)))]) hx hb hml hown hg hE hA hS hP hD (k_M_in l G z a 0 63 (by omega) (by omega) (by omega)) [] [0, 1, 2, 3, 4, 5, 6] rfl rfl (by decide) (by decide) (by decide) ml_M_51 st_M_in in_M co_M_in ok_M_in ⟨Nat.le_of_ble_eq_true rfl, Nat.le_of_ble_eq_true rfl⟩ hl.1 rfl (Nat.le_of_ble_eq_true rfl) d_M_cost_5 ⟨Nat.le_of_ble_eq_true rfl, Nat.le_of_ble_eq_true rfl⟩ (fun r9 u9 H locs hw hP hD hS => ?_)
  obtain ⟨rb_1, rfl, rfl, fb_2⟩ := hw
  have hP : va_P G cls0 [(w 0, .inr (4, [.int (iI it), .int (iI cd), .int (iI now), .ref (w 1), .ref (w 2), .int (iI gr), .int (iI md), .ref (w 3), .ref (w 4), .ref (w 5), .ref (w 6), .ref (w 7), .ref (w 8), .int (iI dO), .ref (w 9), .ref (w 10)])), (w 5, .inl (z.1, 66, .inl (aI pcn))), (w 6, .inl (z.1, 1584, .inl (aI prt))), (w 7, .inl (z.1, 1584, .inl (aI pnt))), (w 8, .inl (z.1, 1584, .inl (aI pco))), (w 9, .inl (z.2.1, 1536, .inl (aI pus))), (w 10, .inl (z.1, 64, .inl (aI pfa)))] H := hP
  have hD : va_D A [(w 0, .inr (4, [.int (iI it), .int (iI cd), .int (iI now), .ref (w 1), .ref (w 2), .int (iI gr), .int (iI md), .ref (w 3), .ref (w 4), .ref (w 5), .ref (w 6), .ref (w 7), .ref (w 8), .int (iI dO), .ref (w 9), .ref (w 10)])), (w 5, .inl (z.1, 66, .inl (aI pcn))), (w 6, .inl (z.1, 1584, .inl (aI prt))), (w 7, .inl (z.1, 1584, .inl (aI pnt))), (w 8, .inl (z.1, 1584, .inl (aI pco))), (w 9, .inl (z.2.1, 1536, .inl (aI pus))), (w 10, .inl (z.1, 64, .inl (aI pfa)))] := hD
  refine rv_if_eq (tgt := 15) hx hb d_M_cost_8 (by decide) (by constructor <;> omega) (fun c_3 => ?_) (fun c_3 => ?_)
  · skip
    refine lv_iconst (v := iI 1) hx hb d_M_cost_15 rfl ?_
    refine va_put (D := G) (ci := 4) (v := .int (iI 1)) (ty := .int) (C := R_M) (T := T_M) (N := 16) hx hb hg iw_M ty_M ty_M_ok nm_M hown hE.1 hP hD hS 0 rfl rfl 1 (by decide) (hg _ fl_M_48) (fun _ h9 => h9) rfl (by decide +kernel) rfl rfl (Nat.le_of_ble_eq_true rfl) d_M_cost_16 (fun H locs hP hD hS => ?_)
    have hP : va_P G cls0 [(w 0, .inr (4, [.int (iI it), .int (iI 1), .int (iI now), .ref (w 1), .ref (w 2), .int (iI gr), .int (iI md), .ref (w 3), .ref (w 4), .ref (w 5), .ref (w 6), .ref (w 7), .ref (w 8), .int (iI dO), .ref (w 9), .ref (w 10)])), (w 5, .inl (z.1, 66, .inl (aI pcn))), (w 6, .inl (z.1, 1584, .inl (aI prt))), (w 7, .inl (z.1, 1584, .inl (aI pnt))), (w 8, .inl (z.1, 1584, .inl (aI pco))), (w 9, .inl (z.2.1, 1536, .inl (aI pus))), (w 10, .inl (z.1, 64, .inl (aI pfa)))] H := hP
    have hD : va_D A [(w 0, .inr (4, [.int (iI it), .int (iI 1), .int (iI now), .ref (w 1), .ref (w 2), .int (iI gr), .int (iI md), .ref (w 3), .ref (w 4), .ref (w 5), .ref (w 6), .ref (w 7), .ref (w 8), .int (iI dO), .ref (w 9), .ref (w 10)])), (w 5, .inl (z.1, 66, .inl (aI pcn))), (w 6, .inl (z.1, 1584, .inl (aI prt))), (w 7, .inl (z.1, 1584, .inl (aI pnt))), (w 8, .inl (z.1, 1584, .inl (aI pco))), (w 9, .inl (z.2.1, 1536, .inl (aI pus))), (w 10, .inl (z.1, 64, .inl (aI pfa)))] := hD
    refine lv_aload_n hx hb d_M_cost_19 rfl (lv_at hl 0 rfl) ?_
    refine va_get (D := G) (ci := 4) (v := .int (iI 1)) (C := R_M) (T := T_M) (N := 16) hx hb hg iw_M hown hE.1 hP 0 rfl rfl 1 (by decide) (hg _ fl_M_48) (fun _ h9 => h9) rfl d_M_cost_20 ?_
    refine rv_if_le (tgt := 28) hx hb d_M_cost_23 (by decide) ⟨by decide, by decide⟩ (fun c_4 => ?_) (fun c_4 => ?_)
    · exact absurd c_4 (by decide)
    · skip
      refine lv_iconst (v := iI 0) hx hb d_M_cost_26 rfl ?_
      have hP9 : va_P G cls0 [(w 0, .inr (4, [.int (iI it), .int (iI 1), .int (iI now), .ref (w 1), .ref (w 2), .int (iI gr), .int (iI md), .ref (w 3), .ref (w 4), .ref (w 5), .ref (w 6), .ref (w 7), .ref (w 8), .int (iI dO), .ref (w 9), .ref (w 10)])), (w 5, .inl (z.1, 66, .inl (aI pcn))), (w 6, .inl (z.1, 1584, .inl (aI prt))), (w 7, .inl (z.1, 1584, .inl (aI pnt))), (w 8, .inl (z.1, 1584, .inl (aI pco))), (w 9, .inl (z.2.1, 1536, .inl (aI pus))), (w 10, .inl (z.1, 64, .inl (aI pfa)))] H := hP.sub [0, 1, 2, 3, 4, 5, 6] rfl
      have hD9 : va_D A [(w 0, .inr (4, [.int (iI it), .int (iI 1), .int (iI now), .ref (w 1), .ref (w 2), .int (iI gr), .int (iI md), .ref (w 3), .ref (w 4), .ref (w 5), .ref (w 6), .ref (w 7), .ref (w 8), .int (iI dO), .ref (w 9), .ref (w 10)])), (w 5, .inl (z.1, 66, .inl (aI pcn))), (w 6, .inl (z.1, 1584, .inl (aI prt))), (w 7, .inl (z.1, 1584, .inl (aI pnt))), (w 8, .inl (z.1, 1584, .inl (aI pco))), (w 9, .inl (z.2.1, 1536, .inl (aI pus))), (w 10, .inl (z.1, 64, .inl (aI pfa)))] := hD.sub [0, 1, 2, 3, 4, 5, 6] (by decide) rfl
      refine rv_iret hx hb hRt (nar_int _) hlocks (Nat.le_of_ble_eq_true rfl) (Nat.le_of_ble_eq_true rfl) hP9 hD9 hS d_M_cost_27 ?_
      exact ⟨0, 1, pus, pfa, rfl, rfl, rus, rfa, (Or.inl ⟨by omega, rfl⟩)⟩
  · skip
    refine lv_iconst (v := iI 0) hx hb d_M_cost_11 rfl ?_
    refine lv_goto (tgt := 16) hx hb d_M_cost_12 (by decide) ?_
    refine va_put (D := G) (ci := 4) (v := .int (iI 0)) (ty := .int) (C := R_M) (T := T_M) (N := 16) hx hb hg iw_M ty_M ty_M_ok nm_M hown hE.1 hP hD hS 0 rfl rfl 1 (by decide) (hg _ fl_M_48) (fun _ h9 => h9) rfl (by decide +kernel) rfl rfl (Nat.le_of_ble_eq_true rfl) d_M_cost_16 (fun H locs hP hD hS => ?_)
    have hP : va_P G cls0 [(w 0, .inr (4, [.int (iI it), .int (iI 0), .int (iI now), .ref (w 1), .ref (w 2), .int (iI gr), .int (iI md), .ref (w 3), .ref (w 4), .ref (w 5), .ref (w 6), .ref (w 7), .ref (w 8), .int (iI dO), .ref (w 9), .ref (w 10)])), (w 5, .inl (z.1, 66, .inl (aI pcn))), (w 6, .inl (z.1, 1584, .inl (aI prt))), (w 7, .inl (z.1, 1584, .inl (aI pnt))), (w 8, .inl (z.1, 1584, .inl (aI pco))), (w 9, .inl (z.2.1, 1536, .inl (aI pus))), (w 10, .inl (z.1, 64, .inl (aI pfa)))] H := hP
    have hD : va_D A [(w 0, .inr (4, [.int (iI it), .int (iI 0), .int (iI now), .ref (w 1), .ref (w 2), .int (iI gr), .int (iI md), .ref (w 3), .ref (w 4), .ref (w 5), .ref (w 6), .ref (w 7), .ref (w 8), .int (iI dO), .ref (w 9), .ref (w 10)])), (w 5, .inl (z.1, 66, .inl (aI pcn))), (w 6, .inl (z.1, 1584, .inl (aI prt))), (w 7, .inl (z.1, 1584, .inl (aI pnt))), (w 8, .inl (z.1, 1584, .inl (aI pco))), (w 9, .inl (z.2.1, 1536, .inl (aI pus))), (w 10, .inl (z.1, 64, .inl (aI pfa)))] := hD
    refine lv_aload_n hx hb d_M_cost_19 rfl (lv_at hl 0 rfl) ?_
    refine va_get (D := G) (ci := 4) (v := .int (iI 0)) (C := R_M) (T := T_M) (N := 16) hx hb hg iw_M hown hE.1 hP 0 rfl rfl 1 (by decide) (hg _ fl_M_48) (fun _ h9 => h9) rfl d_M_cost_20 ?_
    refine rv_if_le (tgt := 28) hx hb d_M_cost_23 (by decide) ⟨by decide, by decide⟩ (fun c_5 => ?_) (fun c_5 => ?_)
    · skip
      refine lv_aload_n hx hb d_M_cost_28 rfl (lv_at hl 0 rfl) ?_
      refine qV_v (As := []) (rest := []) (wr := [(w 8, .inl (z.1, 1584, .inl (aI pco))), (w 10, .inl (z.1, 64, .inl (aI pfa)))]) hx hb hml hown hg hE hA hS hP hD (k_M_check l G z w it 0 now gr md dO pcn prt pnt pus (by assumption) (by assumption) (by assumption) (by assumption)) [0, 1, 2, 3, 5] [4, 6] rfl rfl (by decide) (by decide) (by decide) (q0 := 0) rfl rfl ml_M_92 im_M_check se_M_check in_M co_M_check ok_M_check ⟨Nat.le_of_ble_eq_true rfl, Nat.le_of_ble_eq_true rfl⟩ hl.1 rfl (Nat.le_of_ble_eq_true rfl) d_M_cost_29 ⟨Nat.le_of_ble_eq_true rfl, Nat.le_of_ble_eq_true rfl⟩ (fun u9 H locs hw hP hD hS => ?_)
      obtain ⟨gus, rfl, rgus, fck⟩ := hw
      have hP : va_P G cls0 [(w 8, .inl (z.1, 1584, .inl (aI pco))), (w 10, .inl (z.1, 64, .inl (aI pfa))), (w 0, .inr (4, [.int (iI it), .int (iI 0), .int (iI now), .ref (w 1), .ref (w 2), .int (iI gr), .int (iI md), .ref (w 3), .ref (w 4), .ref (w 5), .ref (w 6), .ref (w 7), .ref (w 8), .int (iI dO), .ref (w 9), .ref (w 10)])), (w 5, .inl (z.1, 66, .inl (aI pcn))), (w 6, .inl (z.1, 1584, .inl (aI prt))), (w 7, .inl (z.1, 1584, .inl (aI pnt))), (w 9, .inl (z.2.1, 1536, .inl (aI gus)))] H := hP
      have hD : va_D A [(w 8, .inl (z.1, 1584, .inl (aI pco))), (w 10, .inl (z.1, 64, .inl (aI pfa))), (w 0, .inr (4, [.int (iI it), .int (iI 0), .int (iI now), .ref (w 1), .ref (w 2), .int (iI gr), .int (iI md), .ref (w 3), .ref (w 4), .ref (w 5), .ref (w 6), .ref (w 7), .ref (w 8), .int (iI dO), .ref (w 9), .ref (w 10)])), (w 5, .inl (z.1, 66, .inl (aI pcn))), (w 6, .inl (z.1, 1584, .inl (aI prt))), (w 7, .inl (z.1, 1584, .inl (aI pnt))), (w 9, .inl (z.2.1, 1536, .inl (aI gus)))] := hD
      refine lv_aload_n hx hb d_M_cost_32 rfl (lv_at hl 0 rfl) ?_
      refine lv_aload_n hx hb d_M_cost_33 rfl (lv_at hl 0 rfl) ?_
      refine va_get (D := G) (ci := 4) (v := .int (iI it)) (C := R_M) (T := T_M) (N := 16) hx hb hg iw_M hown hE.1 hP 2 rfl rfl 0 (by decide) (hg _ fl_M_45) (fun _ h9 => h9) rfl d_M_cost_34 ?_
      refine qV_v (As := [.int (iI it)]) (rest := []) (wr := []) hx hb hml hown hg hE hA hS hP hD (k_M_spread l G z w it 0 now gr md dO pcn prt pnt pco gus pfa it (by assumption) (by assumption) (by assumption) (by assumption) (by assumption) (by assumption) hAK fck (by omega)) [2, 3, 4, 5, 0, 6, 1] [] rfl rfl (by decide) (by decide) (by decide) (q0 := 0) rfl rfl ml_M_95 im_M_spread se_M_spread in_M co_M_spread ok_M_spread ⟨Nat.le_of_ble_eq_true rfl, Nat.le_of_ble_eq_true rfl⟩ hl.1 rfl (Nat.le_of_ble_eq_true rfl) d_M_cost_37 ⟨Nat.le_of_ble_eq_true rfl, Nat.le_of_ble_eq_true rfl⟩ (fun u9 H locs hw hP hD hS => ?_)
      obtain ⟨gfa, rfl, rgfa, fD⟩ := hw
      have hP : va_P G cls0 [(w 0, .inr (4, [.int (iI it), .int (iI 0), .int (iI now), .ref (w 1), .ref (w 2), .int (iI gr), .int (iI md), .ref (w 3), .ref (w 4), .ref (w 5), .ref (w 6), .ref (w 7), .ref (w 8), .int (iI dO), .ref (w 9), .ref (w 10)])), (w 5, .inl (z.1, 66, .inl (aI pcn))), (w 6, .inl (z.1, 1584, .inl (aI prt))), (w 7, .inl (z.1, 1584, .inl (aI pnt))), (w 8, .inl (z.1, 1584, .inl (aI pco))), (w 9, .inl (z.2.1, 1536, .inl (aI gus))), (w 10, .inl (z.1, 64, .inl (aI gfa)))] H := hP
      have hD : va_D A [(w 0, .inr (4, [.int (iI it), .int (iI 0), .int (iI now), .ref (w 1), .ref (w 2), .int (iI gr), .int (iI md), .ref (w 3), .ref (w 4), .ref (w 5), .ref (w 6), .ref (w 7), .ref (w 8), .int (iI dO), .ref (w 9), .ref (w 10)])), (w 5, .inl (z.1, 66, .inl (aI pcn))), (w 6, .inl (z.1, 1584, .inl (aI prt))), (w 7, .inl (z.1, 1584, .inl (aI pnt))), (w 8, .inl (z.1, 1584, .inl (aI pco))), (w 9, .inl (z.2.1, 1536, .inl (aI gus))), (w 10, .inl (z.1, 64, .inl (aI gfa)))] := hD
      refine lv_aload_n hx hb d_M_cost_40 rfl (lv_at hl 0 rfl) ?_
      refine lv_iload_n hx hb d_M_cost_41 rfl (lv_at hl 1 rfl) ?_
      refine qV_i (As := [.int (iI a)]) (rest := []) (wr := [(w 9, .inl (z.2.1, 1536, .inl (aI gus)))]) hx hb hml hown hg hE hA hS hP hD (k_M_reach l G z w it 0 now gr md dO pcn prt pnt pco gfa a (by assumption) (by assumption) (by assumption) (by assumption) (by assumption) (by assumption) (by assumption) (by omega)) [0, 1, 2, 3, 4, 6] [5] rfl rfl (by decide) (by decide) (by decide) (q0 := 0) rfl rfl ml_M_99 im_M_reach se_M_reach in_M co_M_reach ok_M_reach ⟨Nat.le_of_ble_eq_true rfl, Nat.le_of_ble_eq_true rfl⟩ hl.1 rfl (Nat.le_of_ble_eq_true rfl) d_M_cost_42 ⟨Nat.le_of_ble_eq_true rfl, Nat.le_of_ble_eq_true rfl⟩ (fun r9 u9 H locs hw hP hD hS => ?_)
      obtain ⟨rc, rfl, rfl, frc, fLc⟩ := hw
      have hP : va_P G cls0 [(w 9, .inl (z.2.1, 1536, .inl (aI gus))), (w 0, .inr (4, [.int (iI it), .int (iI 0), .int (iI now), .ref (w 1), .ref (w 2), .int (iI gr), .int (iI md), .ref (w 3), .ref (w 4), .ref (w 5), .ref (w 6), .ref (w 7), .ref (w 8), .int (iI dO), .ref (w 9), .ref (w 10)])), (w 5, .inl (z.1, 66, .inl (aI pcn))), (w 6, .inl (z.1, 1584, .inl (aI prt))), (w 7, .inl (z.1, 1584, .inl (aI pnt))), (w 8, .inl (z.1, 1584, .inl (aI pco))), (w 10, .inl (z.1, 64, .inl (aI gfa)))] H := hP
      have hD : va_D A [(w 9, .inl (z.2.1, 1536, .inl (aI gus))), (w 0, .inr (4, [.int (iI it), .int (iI 0), .int (iI now), .ref (w 1), .ref (w 2), .int (iI gr), .int (iI md), .ref (w 3), .ref (w 4), .ref (w 5), .ref (w 6), .ref (w 7), .ref (w 8), .int (iI dO), .ref (w 9), .ref (w 10)])), (w 5, .inl (z.1, 66, .inl (aI pcn))), (w 6, .inl (z.1, 1584, .inl (aI prt))), (w 7, .inl (z.1, 1584, .inl (aI pnt))), (w 8, .inl (z.1, 1584, .inl (aI pco))), (w 10, .inl (z.1, 64, .inl (aI gfa)))] := hD
      have hP9 : va_P G cls0 [(w 0, .inr (4, [.int (iI it), .int (iI 0), .int (iI now), .ref (w 1), .ref (w 2), .int (iI gr), .int (iI md), .ref (w 3), .ref (w 4), .ref (w 5), .ref (w 6), .ref (w 7), .ref (w 8), .int (iI dO), .ref (w 9), .ref (w 10)])), (w 5, .inl (z.1, 66, .inl (aI pcn))), (w 6, .inl (z.1, 1584, .inl (aI prt))), (w 7, .inl (z.1, 1584, .inl (aI pnt))), (w 8, .inl (z.1, 1584, .inl (aI pco))), (w 9, .inl (z.2.1, 1536, .inl (aI gus))), (w 10, .inl (z.1, 64, .inl (aI gfa)))] H := hP.sub [1, 2, 3, 4, 5, 0, 6] rfl
      have hD9 : va_D A [(w 0, .inr (4, [.int (iI it), .int (iI 0), .int (iI now), .ref (w 1), .ref (w 2), .int (iI gr), .int (iI md), .ref (w 3), .ref (w 4), .ref (w 5), .ref (w 6), .ref (w 7), .ref (w 8), .int (iI dO), .ref (w 9), .ref (w 10)])), (w 5, .inl (z.1, 66, .inl (aI pcn))), (w 6, .inl (z.1, 1584, .inl (aI prt))), (w 7, .inl (z.1, 1584, .inl (aI pnt))), (w 8, .inl (z.1, 1584, .inl (aI pco))), (w 9, .inl (z.2.1, 1536, .inl (aI gus))), (w 10, .inl (z.1, 64, .inl (aI gfa)))] := hD.sub [1, 2, 3, 4, 5, 0, 6] (by decide) rfl
      refine rv_iret hx hb hRt (nar_int _) hlocks (Nat.le_of_ble_eq_true rfl) (Nat.le_of_ble_eq_true rfl) hP9 hD9 hS d_M_cost_45 ?_
      exact ⟨rc, 0, gus, gfa, rfl, rfl, rgus, rgfa, (Or.inr ⟨by omega, rfl, fLc, fD⟩)⟩
    · exact absurd c_5 (by decide)
set_option maxHeartbeats 4000000 in
set_option maxRecDepth 100000 in
theorem k_M_step (l : Launch) (G : va_G) (z : tz3) (w : Nat → Nat) (it : Int) (cd : Int) (now : Int) (gr : Int) (md : Int) (dO : Int) (pcn : Int → Int) (prt : Int → Int) (pnt : Int → Int) (pco : Int → Int) (pus : Int → Int) (pfa : Int → Int) (net : Int) (k : Int) (hk : inR k) (hnet : 0 ≤ net ∧ net < 64) (rcn : ∀ i : Int, 0 ≤ pcn i ∧ pcn i ≤ 24) (rrt : ∀ i : Int, -1 ≤ prt i ∧ prt i ≤ 63) (rnt : ∀ i : Int, 0 ≤ pnt i ∧ pnt i ≤ 63) (rco : ∀ i : Int, 0 ≤ pco i ∧ pco i ≤ 1000) (rus : ∀ i : Int, 0 ≤ pus i ∧ pus i ≤ 1) (rfa : ∀ i : Int, -1 ≤ pfa i ∧ pfa i ≤ 64000) (hAK : AOK pcn prt pco) (hit : 0 ≤ it ∧ it < 64) (hUQ : UNQ pcn prt pnt) : Ki l y_M_step c_M_step 11 (some .int) (rmD 2) G z [.ref (w 0), .int (iI net), .int (iI k)] [(w 0, .inr (4, [.int (iI it), .int (iI cd), .int (iI now), .ref (w 1), .ref (w 2), .int (iI gr), .int (iI md), .ref (w 3), .ref (w 4), .ref (w 5), .ref (w 6), .ref (w 7), .ref (w 8), .int (iI dO), .ref (w 9), .ref (w 10)])), (w 5, .inl (z.1, 66, .inl (aI pcn))), (w 6, .inl (z.1, 1584, .inl (aI prt))), (w 7, .inl (z.1, 1584, .inl (aI pnt))), (w 8, .inl (z.1, 1584, .inl (aI pco))), (w 9, .inl (z.2.1, 1536, .inl (aI pus))), (w 10, .inl (z.1, 64, .inl (aI pfa)))] (fun r9 u9 => ∃ (rv : Int) (gus : Int → Int) (gfa : Int → Int), u9 = [(w 0, .inr (4, [.int (iI it), .int (iI cd), .int (iI now), .ref (w 1), .ref (w 2), .int (iI gr), .int (iI md), .ref (w 3), .ref (w 4), .ref (w 5), .ref (w 6), .ref (w 7), .ref (w 8), .int (iI dO), .ref (w 9), .ref (w 10)])), (w 5, .inl (z.1, 66, .inl (aI pcn))), (w 6, .inl (z.1, 1584, .inl (aI prt))), (w 7, .inl (z.1, 1584, .inl (aI pnt))), (w 8, .inl (z.1, 1584, .inl (aI pco))), (w 9, .inl (z.2.1, 1536, .inl (aI gus))), (w 10, .inl (z.1, 64, .inl (aI gfa)))] ∧ r9 = iI rv ∧ (∀ i : Int, 0 ≤ gus i ∧ gus i ≤ 1) ∧ (∀ i : Int, -1 ≤ gfa i ∧ gfa i ≤ 64000) ∧ (-1 ≤ rv ∧ rv ≤ 4095) ∧ (∃ (fa1 : Int → Int) (L : Int), isD (eg pcn prt pnt pco) it fa1 ∧ LST pcn prt pnt pco fa1 net 64 L ∧ STP pcn prt pnt pco fa1 it net k L rv)) := by
  refine Ki.of (by decide) (Nat.le_of_ble_eq_true rfl) ?_
  intro p e s m below meth c A hB hP hD ls hl
  obtain ⟨hx, hb, hRt, hml, hown, hlocks, hg, hE, hA, hin⟩ := hB
  have hown : s.vm.findClass R_M = some m.cls := hown
  have hl : lv_has ls 11 [(0, .ref (w 0)), (1, .int (iI net)), (2, .int (iI k))] := hl
  obtain ⟨H, hH⟩ : ∃ H, H = s.heap := ⟨_, rfl⟩
  have hS : va_S A s.heap H [] := by rw [hH]; exact va_S.rf
  rw [← hH] at hP
  rw [← hH]
  have hP : va_P G cls0 [(w 0, .inr (4, [.int (iI it), .int (iI cd), .int (iI now), .ref (w 1), .ref (w 2), .int (iI gr), .int (iI md), .ref (w 3), .ref (w 4), .ref (w 5), .ref (w 6), .ref (w 7), .ref (w 8), .int (iI dO), .ref (w 9), .ref (w 10)])), (w 5, .inl (z.1, 66, .inl (aI pcn))), (w 6, .inl (z.1, 1584, .inl (aI prt))), (w 7, .inl (z.1, 1584, .inl (aI pnt))), (w 8, .inl (z.1, 1584, .inl (aI pco))), (w 9, .inl (z.2.1, 1536, .inl (aI pus))), (w 10, .inl (z.1, 64, .inl (aI pfa)))] H := hP
  have hD : va_D A [(w 0, .inr (4, [.int (iI it), .int (iI cd), .int (iI now), .ref (w 1), .ref (w 2), .int (iI gr), .int (iI md), .ref (w 3), .ref (w 4), .ref (w 5), .ref (w 6), .ref (w 7), .ref (w 8), .int (iI dO), .ref (w 9), .ref (w 10)])), (w 5, .inl (z.1, 66, .inl (aI pcn))), (w 6, .inl (z.1, 1584, .inl (aI prt))), (w 7, .inl (z.1, 1584, .inl (aI pnt))), (w 8, .inl (z.1, 1584, .inl (aI pco))), (w 9, .inl (z.2.1, 1536, .inl (aI pus))), (w 10, .inl (z.1, 64, .inl (aI pfa)))] := hD
  refine lv_aload_n hx hb d_M_step_0 rfl (lv_at hl 0 rfl) ?_
  refine qV_v (As := []) (rest := []) (wr := [(w 8, .inl (z.1, 1584, .inl (aI pco))), (w 10, .inl (z.1, 64, .inl (aI pfa)))]) hx hb hml hown hg hE hA hS hP hD (k_M_check l G z w it cd now gr md dO pcn prt pnt pus (by assumption) (by assumption) (by assumption) (by assumption)) [0, 1, 2, 3, 5] [4, 6] rfl rfl (by decide) (by decide) (by decide) (q0 := 0) rfl rfl ml_M_92 im_M_check se_M_check in_M co_M_check ok_M_check ⟨Nat.le_of_ble_eq_true rfl, Nat.le_of_ble_eq_true rfl⟩ hl.1 rfl (Nat.le_of_ble_eq_true rfl) d_M_step_1 ⟨Nat.le_of_ble_eq_true rfl, Nat.le_of_ble_eq_true rfl⟩ (fun u9 H locs hw hP hD hS => ?_)
  obtain ⟨gus, rfl, rgus, fck⟩ := hw
  have hP : va_P G cls0 [(w 8, .inl (z.1, 1584, .inl (aI pco))), (w 10, .inl (z.1, 64, .inl (aI pfa))), (w 0, .inr (4, [.int (iI it), .int (iI cd), .int (iI now), .ref (w 1), .ref (w 2), .int (iI gr), .int (iI md), .ref (w 3), .ref (w 4), .ref (w 5), .ref (w 6), .ref (w 7), .ref (w 8), .int (iI dO), .ref (w 9), .ref (w 10)])), (w 5, .inl (z.1, 66, .inl (aI pcn))), (w 6, .inl (z.1, 1584, .inl (aI prt))), (w 7, .inl (z.1, 1584, .inl (aI pnt))), (w 9, .inl (z.2.1, 1536, .inl (aI gus)))] H := hP
  have hD : va_D A [(w 8, .inl (z.1, 1584, .inl (aI pco))), (w 10, .inl (z.1, 64, .inl (aI pfa))), (w 0, .inr (4, [.int (iI it), .int (iI cd), .int (iI now), .ref (w 1), .ref (w 2), .int (iI gr), .int (iI md), .ref (w 3), .ref (w 4), .ref (w 5), .ref (w 6), .ref (w 7), .ref (w 8), .int (iI dO), .ref (w 9), .ref (w 10)])), (w 5, .inl (z.1, 66, .inl (aI pcn))), (w 6, .inl (z.1, 1584, .inl (aI prt))), (w 7, .inl (z.1, 1584, .inl (aI pnt))), (w 9, .inl (z.2.1, 1536, .inl (aI gus)))] := hD
  refine lv_aload_n hx hb d_M_step_4 rfl (lv_at hl 0 rfl) ?_
  refine lv_aload_n hx hb d_M_step_5 rfl (lv_at hl 0 rfl) ?_
  refine va_get (D := G) (ci := 4) (v := .int (iI it)) (C := R_M) (T := T_M) (N := 16) hx hb hg iw_M hown hE.1 hP 2 rfl rfl 0 (by decide) (hg _ fl_M_45) (fun _ h9 => h9) rfl d_M_step_6 ?_
  refine qV_v (As := [.int (iI it)]) (rest := []) (wr := []) hx hb hml hown hg hE hA hS hP hD (k_M_spread l G z w it cd now gr md dO pcn prt pnt pco gus pfa it (by assumption) (by assumption) (by assumption) (by assumption) (by assumption) (by assumption) hAK fck (by omega)) [2, 3, 4, 5, 0, 6, 1] [] rfl rfl (by decide) (by decide) (by decide) (q0 := 0) rfl rfl ml_M_95 im_M_spread se_M_spread in_M co_M_spread ok_M_spread ⟨Nat.le_of_ble_eq_true rfl, Nat.le_of_ble_eq_true rfl⟩ hl.1 rfl (Nat.le_of_ble_eq_true rfl) d_M_step_9 ⟨Nat.le_of_ble_eq_true rfl, Nat.le_of_ble_eq_true rfl⟩ (fun u9 H locs hw hP hD hS => ?_)
  obtain ⟨fa1, rfl, rfa1, fD1⟩ := hw
  have hP : va_P G cls0 [(w 0, .inr (4, [.int (iI it), .int (iI cd), .int (iI now), .ref (w 1), .ref (w 2), .int (iI gr), .int (iI md), .ref (w 3), .ref (w 4), .ref (w 5), .ref (w 6), .ref (w 7), .ref (w 8), .int (iI dO), .ref (w 9), .ref (w 10)])), (w 5, .inl (z.1, 66, .inl (aI pcn))), (w 6, .inl (z.1, 1584, .inl (aI prt))), (w 7, .inl (z.1, 1584, .inl (aI pnt))), (w 8, .inl (z.1, 1584, .inl (aI pco))), (w 9, .inl (z.2.1, 1536, .inl (aI gus))), (w 10, .inl (z.1, 64, .inl (aI fa1)))] H := hP
  have hD : va_D A [(w 0, .inr (4, [.int (iI it), .int (iI cd), .int (iI now), .ref (w 1), .ref (w 2), .int (iI gr), .int (iI md), .ref (w 3), .ref (w 4), .ref (w 5), .ref (w 6), .ref (w 7), .ref (w 8), .int (iI dO), .ref (w 9), .ref (w 10)])), (w 5, .inl (z.1, 66, .inl (aI pcn))), (w 6, .inl (z.1, 1584, .inl (aI prt))), (w 7, .inl (z.1, 1584, .inl (aI pnt))), (w 8, .inl (z.1, 1584, .inl (aI pco))), (w 9, .inl (z.2.1, 1536, .inl (aI gus))), (w 10, .inl (z.1, 64, .inl (aI fa1)))] := hD
  refine lv_aload_n hx hb d_M_step_12 rfl (lv_at hl 0 rfl) ?_
  refine lv_iload_n hx hb d_M_step_13 rfl (lv_at hl 1 rfl) ?_
  refine qV_i (As := [.int (iI net)]) (rest := []) (wr := [(w 9, .inl (z.2.1, 1536, .inl (aI gus)))]) hx hb hml hown hg hE hA hS hP hD (k_M_reach l G z w it cd now gr md dO pcn prt pnt pco fa1 net (by assumption) (by assumption) (by assumption) (by assumption) (by assumption) (by assumption) (by assumption) (by omega)) [0, 1, 2, 3, 4, 6] [5] rfl rfl (by decide) (by decide) (by decide) (q0 := 0) rfl rfl ml_M_99 im_M_reach se_M_reach in_M co_M_reach ok_M_reach ⟨Nat.le_of_ble_eq_true rfl, Nat.le_of_ble_eq_true rfl⟩ hl.1 rfl (Nat.le_of_ble_eq_true rfl) d_M_step_14 ⟨Nat.le_of_ble_eq_true rfl, Nat.le_of_ble_eq_true rfl⟩ (fun r9 u9 H locs hw hP hD hS => ?_)
  obtain ⟨L, rfl, rfl, fLv, fL⟩ := hw
  have hP : va_P G cls0 [(w 9, .inl (z.2.1, 1536, .inl (aI gus))), (w 0, .inr (4, [.int (iI it), .int (iI cd), .int (iI now), .ref (w 1), .ref (w 2), .int (iI gr), .int (iI md), .ref (w 3), .ref (w 4), .ref (w 5), .ref (w 6), .ref (w 7), .ref (w 8), .int (iI dO), .ref (w 9), .ref (w 10)])), (w 5, .inl (z.1, 66, .inl (aI pcn))), (w 6, .inl (z.1, 1584, .inl (aI prt))), (w 7, .inl (z.1, 1584, .inl (aI pnt))), (w 8, .inl (z.1, 1584, .inl (aI pco))), (w 10, .inl (z.1, 64, .inl (aI fa1)))] H := hP
  have hD : va_D A [(w 9, .inl (z.2.1, 1536, .inl (aI gus))), (w 0, .inr (4, [.int (iI it), .int (iI cd), .int (iI now), .ref (w 1), .ref (w 2), .int (iI gr), .int (iI md), .ref (w 3), .ref (w 4), .ref (w 5), .ref (w 6), .ref (w 7), .ref (w 8), .int (iI dO), .ref (w 9), .ref (w 10)])), (w 5, .inl (z.1, 66, .inl (aI pcn))), (w 6, .inl (z.1, 1584, .inl (aI prt))), (w 7, .inl (z.1, 1584, .inl (aI pnt))), (w 8, .inl (z.1, 1584, .inl (aI pco))), (w 10, .inl (z.1, 64, .inl (aI fa1)))] := hD
  refine lv_istore_n (lv' := [(3, .int (iI L)), (0, .ref (w 0)), (1, .int (iI net)), (2, .int (iI k))]) hx hb d_M_step_17 rfl hl (by decide) rfl (fun ls hl => ?_)
  refine lv_aload_n hx hb d_M_step_18 rfl (lv_at hl 1 rfl) ?_
  refine lv_aload_n hx hb d_M_step_19 rfl (lv_at hl 1 rfl) ?_
  refine va_get (D := G) (ci := 4) (v := .int (iI it)) (C := R_M) (T := T_M) (N := 16) hx hb hg iw_M hown hE.1 hP 1 rfl rfl 0 (by decide) (hg _ fl_M_45) (fun _ h9 => h9) rfl d_M_step_20 ?_
  refine lv_iconst (v := iI (-1)) hx hb d_M_step_23 rfl ?_
  refine lv_iload_n hx hb d_M_step_24 rfl (lv_at hl 2 rfl) ?_
  refine qV_i (As := [.int (iI it), .int (iI ((-1))), .int (iI net)]) (rest := []) (wr := [(w 9, .inl (z.2.1, 1536, .inl (aI gus))), (w 8, .inl (z.1, 1584, .inl (aI pco))), (w 10, .inl (z.1, 64, .inl (aI fa1)))]) hx hb hml hown hg hE hA hS hP hD (k_M_find l G z w it cd now gr md dO pcn prt pnt it ((-1)) net (by assumption) (by assumption) (by assumption) (by omega) (by omega) (by omega)) [1, 2, 3, 4] [0, 5, 6] rfl rfl (by decide) (by decide) (by decide) (q0 := 0) rfl rfl ml_M_70 im_M_find se_M_find in_M co_M_find ok_M_find ⟨Nat.le_of_ble_eq_true rfl, Nat.le_of_ble_eq_true rfl⟩ hl.1 rfl (Nat.le_of_ble_eq_true rfl) d_M_step_25 ⟨Nat.le_of_ble_eq_true rfl, Nat.le_of_ble_eq_true rfl⟩ (fun r9 u9 H locs hw hP hD hS => ?_)
  obtain ⟨ow, rfl, rfl, fw0, fw1⟩ := hw
  have hP : va_P G cls0 [(w 9, .inl (z.2.1, 1536, .inl (aI gus))), (w 8, .inl (z.1, 1584, .inl (aI pco))), (w 10, .inl (z.1, 64, .inl (aI fa1))), (w 0, .inr (4, [.int (iI it), .int (iI cd), .int (iI now), .ref (w 1), .ref (w 2), .int (iI gr), .int (iI md), .ref (w 3), .ref (w 4), .ref (w 5), .ref (w 6), .ref (w 7), .ref (w 8), .int (iI dO), .ref (w 9), .ref (w 10)])), (w 5, .inl (z.1, 66, .inl (aI pcn))), (w 6, .inl (z.1, 1584, .inl (aI prt))), (w 7, .inl (z.1, 1584, .inl (aI pnt)))] H := hP
  have hD : va_D A [(w 9, .inl (z.2.1, 1536, .inl (aI gus))), (w 8, .inl (z.1, 1584, .inl (aI pco))), (w 10, .inl (z.1, 64, .inl (aI fa1))), (w 0, .inr (4, [.int (iI it), .int (iI cd), .int (iI now), .ref (w 1), .ref (w 2), .int (iI gr), .int (iI md), .ref (w 3), .ref (w 4), .ref (w 5), .ref (w 6), .ref (w 7), .ref (w 8), .int (iI dO), .ref (w 9), .ref (w 10)])), (w 5, .inl (z.1, 66, .inl (aI pcn))), (w 6, .inl (z.1, 1584, .inl (aI prt))), (w 7, .inl (z.1, 1584, .inl (aI pnt)))] := hD
  have hz0 := isD_self fD1 hit.1 (by omega)
  have hpo : ps pcn prt pnt pco fa1 it net L → 0 ≤ ow ∧ pco ow = L := by
    rintro ⟨-, j, j0, j1, j2, j3, j4⟩
    rcases fw1 with ⟨-, w⟩ | ⟨j', j0', j1', j2', j3', w⟩
    · exact absurd ⟨j2, j3⟩ (w j j0 j1)
    · have hjj := hUQ it j j' hit.1 (by omega) j0 j1 j0' j1' (by omega) (by omega)
      subst hjj
      rw [w]
      exact ⟨by omega, by omega⟩
  have hop : 0 ≤ ow → pco ow = L → ps pcn prt pnt pco fa1 it net L := by
    intro w0 w1
    rcases fw1 with ⟨w, -⟩ | ⟨j', j0', j1', j2', j3', w⟩
    · omega
    · exact ⟨by omega, j', j0', j1', j2', j3', by rw [← w, w1]; omega⟩
  clear fw1
  refine lv_istore (lv' := [(4, .int (iI ow)), (3, .int (iI L)), (0, .ref (w 0)), (1, .int (iI net)), (2, .int (iI k))]) hx hb d_M_step_28 hl (by decide) rfl (fun ls hl => ?_)
  refine lv_iconst (v := iI 0) hx hb d_M_step_30 rfl ?_
  refine lv_istore (lv' := [(5, .int (iI 0)), (4, .int (iI ow)), (3, .int (iI L)), (0, .ref (w 0)), (1, .int (iI net)), (2, .int (iI k))]) hx hb d_M_step_31 hl (by decide) rfl (fun ls hl => ?_)
  refine lv_iconst (v := iI (-1)) hx hb d_M_step_33 rfl ?_
  refine lv_istore (lv' := [(6, .int (iI ((-1)))), (5, .int (iI 0)), (4, .int (iI ow)), (3, .int (iI L)), (0, .ref (w 0)), (1, .int (iI net)), (2, .int (iI k))]) hx hb d_M_step_34 hl (by decide) rfl (fun ls hl => ?_)
  refine lv_iload_n hx hb d_M_step_36 rfl (lv_at hl 3 rfl) ?_
  refine rv_if_lt (tgt := 56) hx hb d_M_step_37 (by decide) (by constructor <;> omega) (fun c_1 => ?_) (fun c_1 => ?_)
  · skip
    have hthr : ((1 : Int) = 1 ∧ (L = -1 ∨ ps pcn prt pnt pco fa1 it net L)) ∨ ((1 : Int) = 0 ∧ ¬ (L = -1 ∨ ps pcn prt pnt pco fa1 it net L)) := Or.inl ⟨rfl, Or.inl (by omega)⟩
    refine lv_iconst (v := iI 1) hx hb d_M_step_56 rfl ?_
    refine lv_goto (tgt := 61) hx hb d_M_step_57 (by decide) ?_
    refine lv_istore (lv' := [(7, .int (iI 1)), (6, .int (iI ((-1)))), (5, .int (iI 0)), (4, .int (iI ow)), (3, .int (iI L)), (0, .ref (w 0)), (1, .int (iI net)), (2, .int (iI k))]) hx hb d_M_step_61 hl (by decide) rfl (fun ls hl => ?_)
    refine lv_bipush (v := iI 24) hx hb d_M_step_63 (by decide +kernel) ?_
    refine lv_aload_n hx hb d_M_step_65 rfl (lv_at hl 5 rfl) ?_
    refine va_get (D := G) (ci := 4) (v := .int (iI it)) (C := R_M) (T := T_M) (N := 16) hx hb hg iw_M hown hE.1 hP 3 rfl rfl 0 (by decide) (hg _ fl_M_45) (fun _ h9 => h9) rfl d_M_step_66 ?_
    refine rv_imul hx hb d_M_step_69 ?_
    refine lv_istore (lv' := [(8, .int (iI (24 * it))), (7, .int (iI 1)), (6, .int (iI ((-1)))), (5, .int (iI 0)), (4, .int (iI ow)), (3, .int (iI L)), (0, .ref (w 0)), (1, .int (iI net)), (2, .int (iI k))]) hx hb d_M_step_70 hl (by decide) rfl (fun ls hl => ?_)
    have L72 : ∀ n9 : Nat, ∀ (gfa : Int → Int) (sn : Int) (tl : Int) (th : Int) (jx : Int), (24 * it + pcn it - jx : Int).toNat < n9 → (∀ i : Int, -1 ≤ gfa i ∧ gfa i ≤ 64000) → ((th = 1 ∧ (L = -1 ∨ ps pcn prt pnt pco fa1 it net L)) ∨ (th = 0 ∧ ¬ (L = -1 ∨ ps pcn prt pnt pco fa1 it net L))) → (24 * it ≤ jx ∧ jx ≤ 24 * it + pcn it ∧ (th = 0 ∨ th = 1) ∧ (th = 1 → jx = 24 * it)) → (sn = cI (fsF pcn prt pnt pco it net L) (jx - 24 * it)) → (TLD (fsF pcn prt pnt pco it net L) pnt prt it k (jx - 24 * it) tl) → ∀ (H : Heap) (locs : List Loc), va_P G cls0 [(w 9, .inl (z.2.1, 1536, .inl (aI gus))), (w 8, .inl (z.1, 1584, .inl (aI pco))), (w 10, .inl (z.1, 64, .inl (aI gfa))), (w 0, .inr (4, [.int (iI it), .int (iI cd), .int (iI now), .ref (w 1), .ref (w 2), .int (iI gr), .int (iI md), .ref (w 3), .ref (w 4), .ref (w 5), .ref (w 6), .ref (w 7), .ref (w 8), .int (iI dO), .ref (w 9), .ref (w 10)])), (w 5, .inl (z.1, 66, .inl (aI pcn))), (w 6, .inl (z.1, 1584, .inl (aI prt))), (w 7, .inl (z.1, 1584, .inl (aI pnt)))] H → va_D A [(w 9, .inl (z.2.1, 1536, .inl (aI gus))), (w 8, .inl (z.1, 1584, .inl (aI pco))), (w 10, .inl (z.1, 64, .inl (aI gfa))), (w 0, .inr (4, [.int (iI it), .int (iI cd), .int (iI now), .ref (w 1), .ref (w 2), .int (iI gr), .int (iI md), .ref (w 3), .ref (w 4), .ref (w 5), .ref (w 6), .ref (w 7), .ref (w 8), .int (iI dO), .ref (w 9), .ref (w 10)])), (w 5, .inl (z.1, 66, .inl (aI pcn))), (w 6, .inl (z.1, 1584, .inl (aI prt))), (w 7, .inl (z.1, 1584, .inl (aI pnt)))] → va_S A s.heap H locs → ∀ ls : Array Slot, lv_has ls 11 [(0, .ref (w 0)), (1, .int (iI net)), (2, .int (iI k)), (3, .int (iI L)), (5, .int (iI sn)), (6, .int (iI tl)), (7, .int (iI th)), (8, .int (iI jx))] → W p l e (rmD 2) s m [.ref (w 0), .int (iI net), .int (iI k)].toArray below meth c H locs 0 0 (Zi below [.ref (w 0), .int (iI net), .int (iI k)].toArray s (rmD 2) G A (fun r9 u9 => ∃ (rv : Int) (gus : Int → Int) (gfa : Int → Int), u9 = [(w 0, .inr (4, [.int (iI it), .int (iI cd), .int (iI now), .ref (w 1), .ref (w 2), .int (iI gr), .int (iI md), .ref (w 3), .ref (w 4), .ref (w 5), .ref (w 6), .ref (w 7), .ref (w 8), .int (iI dO), .ref (w 9), .ref (w 10)])), (w 5, .inl (z.1, 66, .inl (aI pcn))), (w 6, .inl (z.1, 1584, .inl (aI prt))), (w 7, .inl (z.1, 1584, .inl (aI pnt))), (w 8, .inl (z.1, 1584, .inl (aI pco))), (w 9, .inl (z.2.1, 1536, .inl (aI gus))), (w 10, .inl (z.1, 64, .inl (aI gfa)))] ∧ r9 = iI rv ∧ (∀ i : Int, 0 ≤ gus i ∧ gus i ≤ 1) ∧ (∀ i : Int, -1 ≤ gfa i ∧ gfa i ≤ 64000) ∧ (-1 ≤ rv ∧ rv ≤ 4095) ∧ (∃ (fa1 : Int → Int) (L : Int), isD (eg pcn prt pnt pco) it fa1 ∧ LST pcn prt pnt pco fa1 net 64 L ∧ STP pcn prt pnt pco fa1 it net k L rv))) (F0 m 72 ls []) := by
      intro n9
      induction n9 with
      | zero => intro gfa sn tl th jx hmu; exact absurd hmu (Nat.not_lt_zero _)
      | succ n9 ih72 =>
        intro gfa sn tl th jx hmu rgfa hth he hc hT H locs hP hD hS ls hl
        refine lv_iload hx hb d_M_step_72 (lv_at hl 7 rfl) ?_
        refine lv_bipush (v := iI 24) hx hb d_M_step_74 (by decide +kernel) ?_
        refine lv_aload_n hx hb d_M_step_76 rfl (lv_at hl 0 rfl) ?_
        refine va_get (D := G) (ci := 4) (v := .int (iI it)) (C := R_M) (T := T_M) (N := 16) hx hb hg iw_M hown hE.1 hP 3 rfl rfl 0 (by decide) (hg _ fl_M_45) (fun _ h9 => h9) rfl d_M_step_77 ?_
        refine rv_imul hx hb d_M_step_80 ?_
        refine lv_aload_n hx hb d_M_step_81 rfl (lv_at hl 0 rfl) ?_
        refine va_get (D := G) (ci := 4) (v := .ref (w 5)) (C := R_M) (T := T_M) (N := 16) hx hb hg iw_M hown hE.1 hP 3 rfl rfl 9 (by decide) (hg _ fl_M_27) (fun _ h9 => h9) rfl d_M_step_82 ?_
        refine lv_aload_n hx hb d_M_step_85 rfl (lv_at hl 0 rfl) ?_
        refine va_get (D := G) (ci := 4) (v := .int (iI it)) (C := R_M) (T := T_M) (N := 16) hx hb hg iw_M hown hE.1 hP 3 rfl rfl 0 (by decide) (hg _ fl_M_45) (fun _ h9 => h9) rfl d_M_step_86 ?_
        refine rv_iald hx hb hE hP 4 rfl (i := it) (by omega) (by omega) (by decide) d_M_step_89 ?_
        refine rv_iadd hx hb d_M_step_90 ?_
        refine rv_icmp_ge (tgt := 210) hx hb d_M_step_91 (by decide) (by (try have := rcn it); constructor <;> omega) (by (try have := rcn it); (try have := rcn it); constructor <;> omega) (fun c_2 => ?_) (fun c_2 => ?_)
        · skip
          have hxe : (jx - 24 * it) = pcn it ∨ th = 1 := by have := rcn it; omega
          refine lv_iload_n hx hb d_M_step_210 rfl (lv_at hl 2 rfl) ?_
          refine rv_if_ge (tgt := 219) hx hb d_M_step_211 (by decide) (by constructor <;> omega) (fun c_3 => ?_) (fun c_3 => ?_)
          · skip
            have hend := STP_2 (k := k) hth (fun q => by have := he.2.2.2 q; omega) hxe hT (by omega)
            refine lv_iload hx hb d_M_step_219 (lv_at hl 5 rfl) ?_
            have hP9 : va_P G cls0 [(w 0, .inr (4, [.int (iI it), .int (iI cd), .int (iI now), .ref (w 1), .ref (w 2), .int (iI gr), .int (iI md), .ref (w 3), .ref (w 4), .ref (w 5), .ref (w 6), .ref (w 7), .ref (w 8), .int (iI dO), .ref (w 9), .ref (w 10)])), (w 5, .inl (z.1, 66, .inl (aI pcn))), (w 6, .inl (z.1, 1584, .inl (aI prt))), (w 7, .inl (z.1, 1584, .inl (aI pnt))), (w 8, .inl (z.1, 1584, .inl (aI pco))), (w 9, .inl (z.2.1, 1536, .inl (aI gus))), (w 10, .inl (z.1, 64, .inl (aI gfa)))] H := hP.sub [3, 4, 5, 6, 1, 0, 2] rfl
            have hD9 : va_D A [(w 0, .inr (4, [.int (iI it), .int (iI cd), .int (iI now), .ref (w 1), .ref (w 2), .int (iI gr), .int (iI md), .ref (w 3), .ref (w 4), .ref (w 5), .ref (w 6), .ref (w 7), .ref (w 8), .int (iI dO), .ref (w 9), .ref (w 10)])), (w 5, .inl (z.1, 66, .inl (aI pcn))), (w 6, .inl (z.1, 1584, .inl (aI prt))), (w 7, .inl (z.1, 1584, .inl (aI pnt))), (w 8, .inl (z.1, 1584, .inl (aI pco))), (w 9, .inl (z.2.1, 1536, .inl (aI gus))), (w 10, .inl (z.1, 64, .inl (aI gfa)))] := hD.sub [3, 4, 5, 6, 1, 0, 2] (by decide) rfl
            refine rv_iret hx hb hRt (nar_int _) hlocks (Nat.le_of_ble_eq_true rfl) (Nat.le_of_ble_eq_true rfl) hP9 hD9 hS d_M_step_221 ?_
            exact ⟨tl, gus, gfa, rfl, rfl, rgus, rgfa, (by have := TLD_b rnt (fun b q => by have := usb_t hAK (fsF_e q).1; omega) hT; have := cI_b (fsF pcn prt pnt pco it net L) (show 0 ≤ (jx - 24 * it) by omega); have := rcn it; omega), ⟨fa1, L, fD1, fL, hend⟩⟩
          · skip
            have hend := STP_1 (k := k) hth (fun q => by have := he.2.2.2 q; omega) hxe hc (by omega)
            refine lv_iload hx hb d_M_step_214 (lv_at hl 4 rfl) ?_
            refine lv_goto (tgt := 221) hx hb d_M_step_216 (by decide) ?_
            have hP9 : va_P G cls0 [(w 0, .inr (4, [.int (iI it), .int (iI cd), .int (iI now), .ref (w 1), .ref (w 2), .int (iI gr), .int (iI md), .ref (w 3), .ref (w 4), .ref (w 5), .ref (w 6), .ref (w 7), .ref (w 8), .int (iI dO), .ref (w 9), .ref (w 10)])), (w 5, .inl (z.1, 66, .inl (aI pcn))), (w 6, .inl (z.1, 1584, .inl (aI prt))), (w 7, .inl (z.1, 1584, .inl (aI pnt))), (w 8, .inl (z.1, 1584, .inl (aI pco))), (w 9, .inl (z.2.1, 1536, .inl (aI gus))), (w 10, .inl (z.1, 64, .inl (aI gfa)))] H := hP.sub [3, 4, 5, 6, 1, 0, 2] rfl
            have hD9 : va_D A [(w 0, .inr (4, [.int (iI it), .int (iI cd), .int (iI now), .ref (w 1), .ref (w 2), .int (iI gr), .int (iI md), .ref (w 3), .ref (w 4), .ref (w 5), .ref (w 6), .ref (w 7), .ref (w 8), .int (iI dO), .ref (w 9), .ref (w 10)])), (w 5, .inl (z.1, 66, .inl (aI pcn))), (w 6, .inl (z.1, 1584, .inl (aI prt))), (w 7, .inl (z.1, 1584, .inl (aI pnt))), (w 8, .inl (z.1, 1584, .inl (aI pco))), (w 9, .inl (z.2.1, 1536, .inl (aI gus))), (w 10, .inl (z.1, 64, .inl (aI gfa)))] := hD.sub [3, 4, 5, 6, 1, 0, 2] (by decide) rfl
            refine rv_iret hx hb hRt (nar_int _) hlocks (Nat.le_of_ble_eq_true rfl) (Nat.le_of_ble_eq_true rfl) hP9 hD9 hS d_M_step_221 ?_
            exact ⟨sn, gus, gfa, rfl, rfl, rgus, rgfa, (by have := TLD_b rnt (fun b q => by have := usb_t hAK (fsF_e q).1; omega) hT; have := cI_b (fsF pcn prt pnt pco it net L) (show 0 ≤ (jx - 24 * it) by omega); have := rcn it; omega), ⟨fa1, L, fD1, fL, hend⟩⟩
        · skip
          refine lv_iload hx hb d_M_step_94 (lv_at hl 6 rfl) ?_
          refine rv_if_ne (tgt := 210) hx hb d_M_step_96 (by decide) (by constructor <;> omega) (fun c_4 => ?_) (fun c_4 => ?_)
          · skip
            have hxe : (jx - 24 * it) = pcn it ∨ th = 1 := by omega
            refine lv_iload_n hx hb d_M_step_210 rfl (lv_at hl 2 rfl) ?_
            refine rv_if_ge (tgt := 219) hx hb d_M_step_211 (by decide) (by constructor <;> omega) (fun c_5 => ?_) (fun c_5 => ?_)
            · skip
              have hend := STP_2 (k := k) hth (fun q => by have := he.2.2.2 q; omega) hxe hT (by omega)
              refine lv_iload hx hb d_M_step_219 (lv_at hl 5 rfl) ?_
              have hP9 : va_P G cls0 [(w 0, .inr (4, [.int (iI it), .int (iI cd), .int (iI now), .ref (w 1), .ref (w 2), .int (iI gr), .int (iI md), .ref (w 3), .ref (w 4), .ref (w 5), .ref (w 6), .ref (w 7), .ref (w 8), .int (iI dO), .ref (w 9), .ref (w 10)])), (w 5, .inl (z.1, 66, .inl (aI pcn))), (w 6, .inl (z.1, 1584, .inl (aI prt))), (w 7, .inl (z.1, 1584, .inl (aI pnt))), (w 8, .inl (z.1, 1584, .inl (aI pco))), (w 9, .inl (z.2.1, 1536, .inl (aI gus))), (w 10, .inl (z.1, 64, .inl (aI gfa)))] H := hP.sub [3, 4, 5, 6, 1, 0, 2] rfl
              have hD9 : va_D A [(w 0, .inr (4, [.int (iI it), .int (iI cd), .int (iI now), .ref (w 1), .ref (w 2), .int (iI gr), .int (iI md), .ref (w 3), .ref (w 4), .ref (w 5), .ref (w 6), .ref (w 7), .ref (w 8), .int (iI dO), .ref (w 9), .ref (w 10)])), (w 5, .inl (z.1, 66, .inl (aI pcn))), (w 6, .inl (z.1, 1584, .inl (aI prt))), (w 7, .inl (z.1, 1584, .inl (aI pnt))), (w 8, .inl (z.1, 1584, .inl (aI pco))), (w 9, .inl (z.2.1, 1536, .inl (aI gus))), (w 10, .inl (z.1, 64, .inl (aI gfa)))] := hD.sub [3, 4, 5, 6, 1, 0, 2] (by decide) rfl
              refine rv_iret hx hb hRt (nar_int _) hlocks (Nat.le_of_ble_eq_true rfl) (Nat.le_of_ble_eq_true rfl) hP9 hD9 hS d_M_step_221 ?_
              exact ⟨tl, gus, gfa, rfl, rfl, rgus, rgfa, (by have := TLD_b rnt (fun b q => by have := usb_t hAK (fsF_e q).1; omega) hT; have := cI_b (fsF pcn prt pnt pco it net L) (show 0 ≤ (jx - 24 * it) by omega); have := rcn it; omega), ⟨fa1, L, fD1, fL, hend⟩⟩
            · skip
              have hend := STP_1 (k := k) hth (fun q => by have := he.2.2.2 q; omega) hxe hc (by omega)
              refine lv_iload hx hb d_M_step_214 (lv_at hl 4 rfl) ?_
              refine lv_goto (tgt := 221) hx hb d_M_step_216 (by decide) ?_
              have hP9 : va_P G cls0 [(w 0, .inr (4, [.int (iI it), .int (iI cd), .int (iI now), .ref (w 1), .ref (w 2), .int (iI gr), .int (iI md), .ref (w 3), .ref (w 4), .ref (w 5), .ref (w 6), .ref (w 7), .ref (w 8), .int (iI dO), .ref (w 9), .ref (w 10)])), (w 5, .inl (z.1, 66, .inl (aI pcn))), (w 6, .inl (z.1, 1584, .inl (aI prt))), (w 7, .inl (z.1, 1584, .inl (aI pnt))), (w 8, .inl (z.1, 1584, .inl (aI pco))), (w 9, .inl (z.2.1, 1536, .inl (aI gus))), (w 10, .inl (z.1, 64, .inl (aI gfa)))] H := hP.sub [3, 4, 5, 6, 1, 0, 2] rfl
              have hD9 : va_D A [(w 0, .inr (4, [.int (iI it), .int (iI cd), .int (iI now), .ref (w 1), .ref (w 2), .int (iI gr), .int (iI md), .ref (w 3), .ref (w 4), .ref (w 5), .ref (w 6), .ref (w 7), .ref (w 8), .int (iI dO), .ref (w 9), .ref (w 10)])), (w 5, .inl (z.1, 66, .inl (aI pcn))), (w 6, .inl (z.1, 1584, .inl (aI prt))), (w 7, .inl (z.1, 1584, .inl (aI pnt))), (w 8, .inl (z.1, 1584, .inl (aI pco))), (w 9, .inl (z.2.1, 1536, .inl (aI gus))), (w 10, .inl (z.1, 64, .inl (aI gfa)))] := hD.sub [3, 4, 5, 6, 1, 0, 2] (by decide) rfl
              refine rv_iret hx hb hRt (nar_int _) hlocks (Nat.le_of_ble_eq_true rfl) (Nat.le_of_ble_eq_true rfl) hP9 hD9 hS d_M_step_221 ?_
              exact ⟨sn, gus, gfa, rfl, rfl, rgus, rgfa, (by have := TLD_b rnt (fun b q => by have := usb_t hAK (fsF_e q).1; omega) hT; have := cI_b (fsF pcn prt pnt pco it net L) (show 0 ≤ (jx - 24 * it) by omega); have := rcn it; omega), ⟨fa1, L, fD1, fL, hend⟩⟩
          · skip
            have hth0 : th = 0 := by omega
            have hckr := fck it (jx - 24 * it) hit.1 (by omega) (by omega) (by omega) (Or.inl (by omega))
            rw [show it * 24 + (jx - 24 * it) = jx by omega] at hckr
            refine lv_aload_n hx hb d_M_step_99 rfl (lv_at hl 0 rfl) ?_
            refine va_get (D := G) (ci := 4) (v := .ref (w 9)) (C := R_M) (T := T_M) (N := 16) hx hb hg iw_M hown hE.1 hP 3 rfl rfl 14 (by decide) (hg _ fl_M_39) (fun _ h9 => h9) rfl d_M_step_100 ?_
            refine lv_iload hx hb d_M_step_103 (lv_at hl 7 rfl) ?_
            refine rv_zald hx hb hE hP 0 rfl (i := jx) (by (try have := rcn it); omega) (by (try have := rcn it); omega) (by decide) d_M_step_105 ?_
            refine rv_if_eq (tgt := 204) hx hb d_M_step_106 (by decide) (by (try have := rgus jx); constructor <;> omega) (fun c_6 => ?_) (fun c_6 => ?_)
            · skip
              have hnf : (fsF pcn prt pnt pco it net L) (jx - 24 * it) = 0 := fsF_0 (fun q => by rcases hckr with ⟨w, -⟩ | ⟨-, w⟩; omega; exact w q.1)
              clear hckr
              have hT2 := TLD_skip (by omega) hnf hT
              have hc2 : sn = cI (fsF pcn prt pnt pco it net L) ((jx - 24 * it) + 1) := by rw [cI_s0 (by omega) hnf]; exact hc
              refine lv_iinc (v := iI (jx + 1)) (lv' := [(8, .int (iI (jx + 1))), (0, .ref (w 0)), (1, .int (iI net)), (2, .int (iI k)), (3, .int (iI L)), (5, .int (iI sn)), (6, .int (iI tl)), (7, .int (iI th))]) hx hb d_M_step_204 hl (k := 7) rfl (iI_add _ _) (by decide) rfl (fun ls hl => ?_)
              refine lv_goto (tgt := 72) hx hb d_M_step_207 (by decide) ?_
              exact ih72 _ _ _ th (jx + 1) (by (try have := rcn it); (try have := rcn it); omega) (by first | exact rfa2 | exact rgfa) hth ⟨by omega, by omega, by omega, fun q => by omega⟩ (by rw [show jx + 1 - 24 * it = (jx - 24 * it) + 1 by omega]; first | (rw [cI_s1 (by omega) hyf]; omega) | (rw [cI_s0 (by omega) hnf]; omega)) (by rw [show jx + 1 - 24 * it = (jx - 24 * it) + 1 by omega]; first | exact hT2 | exact TLD_skip (by omega) hnf hT) H _ (hP.sub [0, 1, 2, 3, 4, 5, 6] rfl) (hD.sub [0, 1, 2, 3, 4, 5, 6] (by decide) rfl) hS ls (lv_sub hl [1, 2, 3, 4, 5, 6, 7, 0] rfl)
            · skip
              have hu : usb pcn prt pnt it (jx - 24 * it) := by rcases hckr with ⟨-, w⟩ | ⟨w, -⟩; exact w; omega
              clear hckr
              have hto := usb_t hAK hu
              rw [show it * 24 + (jx - 24 * it) = jx by omega] at hto
              refine lv_aload_n hx hb d_M_step_109 rfl (lv_at hl 0 rfl) ?_
              refine lv_aload_n hx hb d_M_step_110 rfl (lv_at hl 0 rfl) ?_
              refine va_get (D := G) (ci := 4) (v := .ref (w 6)) (C := R_M) (T := T_M) (N := 16) hx hb hg iw_M hown hE.1 hP 3 rfl rfl 10 (by decide) (hg _ fl_M_30) (fun _ h9 => h9) rfl d_M_step_111 ?_
              refine lv_iload hx hb d_M_step_114 (lv_at hl 7 rfl) ?_
              refine rv_iald hx hb hE hP 5 rfl (i := jx) (by (try have := rcn it); omega) (by (try have := rcn it); omega) (by decide) d_M_step_116 ?_
              refine qV_v (As := [.int (iI (prt jx))]) (rest := []) (wr := []) hx hb hml hown hg hE hA hS hP hD (k_M_spread l G z w it cd now gr md dO pcn prt pnt pco gus gfa (prt jx) (by assumption) (by assumption) (by assumption) (by assumption) (by assumption) (by assumption) hAK fck (by (try have := rrt jx); omega)) [3, 4, 5, 6, 1, 0, 2] [] rfl rfl (by decide) (by decide) (by decide) (q0 := 0) rfl rfl ml_M_95 im_M_spread se_M_spread in_M co_M_spread ok_M_spread ⟨Nat.le_of_ble_eq_true rfl, Nat.le_of_ble_eq_true rfl⟩ hl.1 rfl (Nat.le_of_ble_eq_true rfl) d_M_step_117 ⟨Nat.le_of_ble_eq_true rfl, Nat.le_of_ble_eq_true rfl⟩ (fun u9 H locs hw hP hD hS => ?_)
              obtain ⟨fa2, rfl, rfa2, fD2⟩ := hw
              have hP : va_P G cls0 [(w 0, .inr (4, [.int (iI it), .int (iI cd), .int (iI now), .ref (w 1), .ref (w 2), .int (iI gr), .int (iI md), .ref (w 3), .ref (w 4), .ref (w 5), .ref (w 6), .ref (w 7), .ref (w 8), .int (iI dO), .ref (w 9), .ref (w 10)])), (w 5, .inl (z.1, 66, .inl (aI pcn))), (w 6, .inl (z.1, 1584, .inl (aI prt))), (w 7, .inl (z.1, 1584, .inl (aI pnt))), (w 8, .inl (z.1, 1584, .inl (aI pco))), (w 9, .inl (z.2.1, 1536, .inl (aI gus))), (w 10, .inl (z.1, 64, .inl (aI fa2)))] H := hP
              have hD : va_D A [(w 0, .inr (4, [.int (iI it), .int (iI cd), .int (iI now), .ref (w 1), .ref (w 2), .int (iI gr), .int (iI md), .ref (w 3), .ref (w 4), .ref (w 5), .ref (w 6), .ref (w 7), .ref (w 8), .int (iI dO), .ref (w 9), .ref (w 10)])), (w 5, .inl (z.1, 66, .inl (aI pcn))), (w 6, .inl (z.1, 1584, .inl (aI prt))), (w 7, .inl (z.1, 1584, .inl (aI pnt))), (w 8, .inl (z.1, 1584, .inl (aI pco))), (w 9, .inl (z.2.1, 1536, .inl (aI gus))), (w 10, .inl (z.1, 64, .inl (aI fa2)))] := hD
              refine lv_aload_n hx hb d_M_step_120 rfl (lv_at hl 0 rfl) ?_
              refine lv_iload_n hx hb d_M_step_121 rfl (lv_at hl 1 rfl) ?_
              refine qV_i (As := [.int (iI net)]) (rest := []) (wr := [(w 9, .inl (z.2.1, 1536, .inl (aI gus)))]) hx hb hml hown hg hE hA hS hP hD (k_M_reach l G z w it cd now gr md dO pcn prt pnt pco fa2 net (by assumption) (by assumption) (by assumption) (by assumption) (by assumption) (by assumption) (by assumption) (by omega)) [0, 1, 2, 3, 4, 6] [5] rfl rfl (by decide) (by decide) (by decide) (q0 := 0) rfl rfl ml_M_99 im_M_reach se_M_reach in_M co_M_reach ok_M_reach ⟨Nat.le_of_ble_eq_true rfl, Nat.le_of_ble_eq_true rfl⟩ hl.1 rfl (Nat.le_of_ble_eq_true rfl) d_M_step_122 ⟨Nat.le_of_ble_eq_true rfl, Nat.le_of_ble_eq_true rfl⟩ (fun r9 u9 H locs hw hP hD hS => ?_)
              obtain ⟨rest, rfl, rfl, frv, fR⟩ := hw
              have hP : va_P G cls0 [(w 9, .inl (z.2.1, 1536, .inl (aI gus))), (w 0, .inr (4, [.int (iI it), .int (iI cd), .int (iI now), .ref (w 1), .ref (w 2), .int (iI gr), .int (iI md), .ref (w 3), .ref (w 4), .ref (w 5), .ref (w 6), .ref (w 7), .ref (w 8), .int (iI dO), .ref (w 9), .ref (w 10)])), (w 5, .inl (z.1, 66, .inl (aI pcn))), (w 6, .inl (z.1, 1584, .inl (aI prt))), (w 7, .inl (z.1, 1584, .inl (aI pnt))), (w 8, .inl (z.1, 1584, .inl (aI pco))), (w 10, .inl (z.1, 64, .inl (aI fa2)))] H := hP
              have hD : va_D A [(w 9, .inl (z.2.1, 1536, .inl (aI gus))), (w 0, .inr (4, [.int (iI it), .int (iI cd), .int (iI now), .ref (w 1), .ref (w 2), .int (iI gr), .int (iI md), .ref (w 3), .ref (w 4), .ref (w 5), .ref (w 6), .ref (w 7), .ref (w 8), .int (iI dO), .ref (w 9), .ref (w 10)])), (w 5, .inl (z.1, 66, .inl (aI pcn))), (w 6, .inl (z.1, 1584, .inl (aI prt))), (w 7, .inl (z.1, 1584, .inl (aI pnt))), (w 8, .inl (z.1, 1584, .inl (aI pco))), (w 10, .inl (z.1, 64, .inl (aI fa2)))] := hD
              have hiff := FST_model (b := (jx - 24 * it)) fD1 fL hu (by rw [show it * 24 + (jx - 24 * it) = jx by omega]; exact fD2) fR
              rw [show it * 24 + (jx - 24 * it) = jx by omega] at hiff
              refine lv_istore (lv' := [(9, .int (iI rest)), (0, .ref (w 0)), (1, .int (iI net)), (2, .int (iI k)), (3, .int (iI L)), (5, .int (iI sn)), (6, .int (iI tl)), (7, .int (iI th)), (8, .int (iI jx))]) hx hb d_M_step_125 hl (by decide) rfl (fun ls hl => ?_)
              refine lv_iload hx hb d_M_step_127 (lv_at hl 0 rfl) ?_
              refine rv_if_lt (tgt := 150) hx hb d_M_step_129 (by decide) (by constructor <;> omega) (fun c_7 => ?_) (fun c_7 => ?_)
              · skip
                have hnf : (fsF pcn prt pnt pco it net L) (jx - 24 * it) = 0 := fsF_0 (fun q => by have := hiff.2 q; omega)
                refine lv_iconst (v := iI 0) hx hb d_M_step_150 rfl ?_
                refine lv_istore (lv' := [(10, .int (iI 0)), (9, .int (iI rest)), (0, .ref (w 0)), (1, .int (iI net)), (2, .int (iI k)), (3, .int (iI L)), (5, .int (iI sn)), (6, .int (iI tl)), (7, .int (iI th)), (8, .int (iI jx))]) hx hb d_M_step_151 hl (by decide) rfl (fun ls hl => ?_)
                refine lv_iload hx hb d_M_step_153 (lv_at hl 0 rfl) ?_
                refine rv_if_eq (tgt := 185) hx hb d_M_step_155 (by decide) ⟨by decide, by decide⟩ (fun c_8 => ?_) (fun c_8 => ?_)
                · skip
                  refine lv_iload hx hb d_M_step_185 (lv_at hl 7 rfl) ?_
                  refine lv_istore (lv' := [(6, .int (iI tl)), (10, .int (iI 0)), (9, .int (iI rest)), (0, .ref (w 0)), (1, .int (iI net)), (2, .int (iI k)), (3, .int (iI L)), (5, .int (iI sn)), (7, .int (iI th)), (8, .int (iI jx))]) hx hb d_M_step_187 hl (by decide) rfl (fun ls hl => ?_)
                  refine lv_iload hx hb d_M_step_189 (lv_at hl 7 rfl) ?_
                  refine lv_iload hx hb d_M_step_191 (lv_at hl 1 rfl) ?_
                  refine rv_if_eq (tgt := 200) hx hb d_M_step_193 (by decide) ⟨by decide, by decide⟩ (fun c_9 => ?_) (fun c_9 => ?_)
                  · skip
                    refine lv_iconst (v := iI 0) hx hb d_M_step_200 rfl ?_
                    refine rv_iadd hx hb d_M_step_201 ?_
                    refine lv_istore (lv' := [(5, .int (iI (sn + 0))), (6, .int (iI tl)), (10, .int (iI 0)), (9, .int (iI rest)), (0, .ref (w 0)), (1, .int (iI net)), (2, .int (iI k)), (3, .int (iI L)), (7, .int (iI th)), (8, .int (iI jx))]) hx hb d_M_step_202 hl (by decide) rfl (fun ls hl => ?_)
                    refine lv_iinc (v := iI (jx + 1)) (lv' := [(8, .int (iI (jx + 1))), (5, .int (iI (sn + 0))), (6, .int (iI tl)), (10, .int (iI 0)), (9, .int (iI rest)), (0, .ref (w 0)), (1, .int (iI net)), (2, .int (iI k)), (3, .int (iI L)), (7, .int (iI th))]) hx hb d_M_step_204 hl (k := 9) rfl (iI_add _ _) (by decide) rfl (fun ls hl => ?_)
                    refine lv_goto (tgt := 72) hx hb d_M_step_207 (by decide) ?_
                    exact ih72 _ _ _ th (jx + 1) (by (try have := rcn it); (try have := rcn it); omega) (by first | exact rfa2 | exact rgfa) hth ⟨by omega, by omega, by omega, fun q => by omega⟩ (by rw [show jx + 1 - 24 * it = (jx - 24 * it) + 1 by omega]; first | (rw [cI_s1 (by omega) hyf]; omega) | (rw [cI_s0 (by omega) hnf]; omega)) (by rw [show jx + 1 - 24 * it = (jx - 24 * it) + 1 by omega]; first | exact hT2 | exact TLD_skip (by omega) hnf hT) H _ (hP.sub [0, 5, 6, 1, 2, 3, 4] rfl) (hD.sub [0, 5, 6, 1, 2, 3, 4] (by decide) rfl) hS ls (lv_sub hl [5, 6, 7, 8, 1, 2, 9, 0] rfl)
                  · exact absurd c_9 (by decide)
                · exact absurd c_8 (by decide)
              · skip
                refine lv_aload_n hx hb d_M_step_132 rfl (lv_at hl 1 rfl) ?_
                refine va_get (D := G) (ci := 4) (v := .ref (w 8)) (C := R_M) (T := T_M) (N := 16) hx hb hg iw_M hown hE.1 hP 1 rfl rfl 12 (by decide) (hg _ fl_M_36) (fun _ h9 => h9) rfl d_M_step_133 ?_
                refine lv_iload hx hb d_M_step_136 (lv_at hl 8 rfl) ?_
                refine rv_iald hx hb hE hP 5 rfl (i := jx) (by (try have := rcn it); omega) (by (try have := rcn it); omega) (by decide) d_M_step_138 ?_
                refine lv_iload hx hb d_M_step_139 (lv_at hl 0 rfl) ?_
                refine rv_iadd hx hb d_M_step_141 ?_
                refine lv_iload_n hx hb d_M_step_142 rfl (lv_at hl 4 rfl) ?_
                refine rv_icmp_ne (tgt := 150) hx hb d_M_step_143 (by decide) (by (try have := rco jx); constructor <;> omega) (by constructor <;> omega) (fun c_10 => ?_) (fun c_10 => ?_)
                · skip
                  have hnf : (fsF pcn prt pnt pco it net L) (jx - 24 * it) = 0 := fsF_0 (fun q => by have := hiff.2 q; omega)
                  refine lv_iconst (v := iI 0) hx hb d_M_step_150 rfl ?_
                  refine lv_istore (lv' := [(10, .int (iI 0)), (9, .int (iI rest)), (0, .ref (w 0)), (1, .int (iI net)), (2, .int (iI k)), (3, .int (iI L)), (5, .int (iI sn)), (6, .int (iI tl)), (7, .int (iI th)), (8, .int (iI jx))]) hx hb d_M_step_151 hl (by decide) rfl (fun ls hl => ?_)
                  refine lv_iload hx hb d_M_step_153 (lv_at hl 0 rfl) ?_
                  refine rv_if_eq (tgt := 185) hx hb d_M_step_155 (by decide) ⟨by decide, by decide⟩ (fun c_11 => ?_) (fun c_11 => ?_)
                  · skip
                    refine lv_iload hx hb d_M_step_185 (lv_at hl 7 rfl) ?_
                    refine lv_istore (lv' := [(6, .int (iI tl)), (10, .int (iI 0)), (9, .int (iI rest)), (0, .ref (w 0)), (1, .int (iI net)), (2, .int (iI k)), (3, .int (iI L)), (5, .int (iI sn)), (7, .int (iI th)), (8, .int (iI jx))]) hx hb d_M_step_187 hl (by decide) rfl (fun ls hl => ?_)
                    refine lv_iload hx hb d_M_step_189 (lv_at hl 7 rfl) ?_
                    refine lv_iload hx hb d_M_step_191 (lv_at hl 1 rfl) ?_
                    refine rv_if_eq (tgt := 200) hx hb d_M_step_193 (by decide) ⟨by decide, by decide⟩ (fun c_12 => ?_) (fun c_12 => ?_)
                    · skip
                      refine lv_iconst (v := iI 0) hx hb d_M_step_200 rfl ?_
                      refine rv_iadd hx hb d_M_step_201 ?_
                      refine lv_istore (lv' := [(5, .int (iI (sn + 0))), (6, .int (iI tl)), (10, .int (iI 0)), (9, .int (iI rest)), (0, .ref (w 0)), (1, .int (iI net)), (2, .int (iI k)), (3, .int (iI L)), (7, .int (iI th)), (8, .int (iI jx))]) hx hb d_M_step_202 hl (by decide) rfl (fun ls hl => ?_)
                      refine lv_iinc (v := iI (jx + 1)) (lv' := [(8, .int (iI (jx + 1))), (5, .int (iI (sn + 0))), (6, .int (iI tl)), (10, .int (iI 0)), (9, .int (iI rest)), (0, .ref (w 0)), (1, .int (iI net)), (2, .int (iI k)), (3, .int (iI L)), (7, .int (iI th))]) hx hb d_M_step_204 hl (k := 9) rfl (iI_add _ _) (by decide) rfl (fun ls hl => ?_)
                      refine lv_goto (tgt := 72) hx hb d_M_step_207 (by decide) ?_
                      exact ih72 _ _ _ th (jx + 1) (by (try have := rcn it); (try have := rcn it); omega) (by first | exact rfa2 | exact rgfa) hth ⟨by omega, by omega, by omega, fun q => by omega⟩ (by rw [show jx + 1 - 24 * it = (jx - 24 * it) + 1 by omega]; first | (rw [cI_s1 (by omega) hyf]; omega) | (rw [cI_s0 (by omega) hnf]; omega)) (by rw [show jx + 1 - 24 * it = (jx - 24 * it) + 1 by omega]; first | exact hT2 | exact TLD_skip (by omega) hnf hT) H _ (hP.sub [0, 5, 6, 1, 2, 3, 4] rfl) (hD.sub [0, 5, 6, 1, 2, 3, 4] (by decide) rfl) hS ls (lv_sub hl [5, 6, 7, 8, 1, 2, 9, 0] rfl)
                    · exact absurd c_12 (by decide)
                  · exact absurd c_11 (by decide)
                · skip
                  have hyf : ¬ (fsF pcn prt pnt pco it net L) (jx - 24 * it) = 0 := fsF_1 (hiff.1 (by omega))
                  refine lv_iconst (v := iI 1) hx hb d_M_step_146 rfl ?_
                  refine lv_goto (tgt := 151) hx hb d_M_step_147 (by decide) ?_
                  refine lv_istore (lv' := [(10, .int (iI 1)), (9, .int (iI rest)), (0, .ref (w 0)), (1, .int (iI net)), (2, .int (iI k)), (3, .int (iI L)), (5, .int (iI sn)), (6, .int (iI tl)), (7, .int (iI th)), (8, .int (iI jx))]) hx hb d_M_step_151 hl (by decide) rfl (fun ls hl => ?_)
                  refine lv_iload hx hb d_M_step_153 (lv_at hl 0 rfl) ?_
                  refine rv_if_eq (tgt := 185) hx hb d_M_step_155 (by decide) ⟨by decide, by decide⟩ (fun c_13 => ?_) (fun c_13 => ?_)
                  · exact absurd c_13 (by decide)
                  · skip
                    refine lv_iload hx hb d_M_step_158 (lv_at hl 6 rfl) ?_
                    refine lv_iload_n hx hb d_M_step_160 rfl (lv_at hl 4 rfl) ?_
                    refine rv_icmp_ne (tgt := 185) hx hb d_M_step_161 (by decide) (by (try have := cI_b (fsF pcn prt pnt pco it net L) (show 0 ≤ jx - 24 * it by omega)); (try have := rcn it); constructor <;> omega) (by (try have := cI_b (fsF pcn prt pnt pco it net L) (show 0 ≤ jx - 24 * it by omega)); (try have := rcn it); constructor <;> omega) (fun c_14 => ?_) (fun c_14 => ?_)
                    · skip
                      have hT2 := TLD_miss (by omega) hyf (by omega) hT
                      refine lv_iload hx hb d_M_step_185 (lv_at hl 7 rfl) ?_
                      refine lv_istore (lv' := [(6, .int (iI tl)), (10, .int (iI 1)), (9, .int (iI rest)), (0, .ref (w 0)), (1, .int (iI net)), (2, .int (iI k)), (3, .int (iI L)), (5, .int (iI sn)), (7, .int (iI th)), (8, .int (iI jx))]) hx hb d_M_step_187 hl (by decide) rfl (fun ls hl => ?_)
                      refine lv_iload hx hb d_M_step_189 (lv_at hl 7 rfl) ?_
                      refine lv_iload hx hb d_M_step_191 (lv_at hl 1 rfl) ?_
                      refine rv_if_eq (tgt := 200) hx hb d_M_step_193 (by decide) ⟨by decide, by decide⟩ (fun c_15 => ?_) (fun c_15 => ?_)
                      · exact absurd c_15 (by decide)
                      · skip
                        refine lv_iconst (v := iI 1) hx hb d_M_step_196 rfl ?_
                        refine lv_goto (tgt := 201) hx hb d_M_step_197 (by decide) ?_
                        refine rv_iadd hx hb d_M_step_201 ?_
                        refine lv_istore (lv' := [(5, .int (iI (sn + 1))), (6, .int (iI tl)), (10, .int (iI 1)), (9, .int (iI rest)), (0, .ref (w 0)), (1, .int (iI net)), (2, .int (iI k)), (3, .int (iI L)), (7, .int (iI th)), (8, .int (iI jx))]) hx hb d_M_step_202 hl (by decide) rfl (fun ls hl => ?_)
                        refine lv_iinc (v := iI (jx + 1)) (lv' := [(8, .int (iI (jx + 1))), (5, .int (iI (sn + 1))), (6, .int (iI tl)), (10, .int (iI 1)), (9, .int (iI rest)), (0, .ref (w 0)), (1, .int (iI net)), (2, .int (iI k)), (3, .int (iI L)), (7, .int (iI th))]) hx hb d_M_step_204 hl (k := 9) rfl (iI_add _ _) (by decide) rfl (fun ls hl => ?_)
                        refine lv_goto (tgt := 72) hx hb d_M_step_207 (by decide) ?_
                        exact ih72 _ _ _ th (jx + 1) (by (try have := rcn it); (try have := rcn it); omega) (by first | exact rfa2 | exact rgfa) hth ⟨by omega, by omega, by omega, fun q => by omega⟩ (by rw [show jx + 1 - 24 * it = (jx - 24 * it) + 1 by omega]; first | (rw [cI_s1 (by omega) hyf]; omega) | (rw [cI_s0 (by omega) hnf]; omega)) (by rw [show jx + 1 - 24 * it = (jx - 24 * it) + 1 by omega]; first | exact hT2 | exact TLD_skip (by omega) hnf hT) H _ (hP.sub [0, 5, 6, 1, 2, 3, 4] rfl) (hD.sub [0, 5, 6, 1, 2, 3, 4] (by decide) rfl) hS ls (lv_sub hl [5, 6, 7, 8, 1, 2, 9, 0] rfl)
                    · skip
                      have hT2 := TLD_hit (nt := pnt) (rt := prt) (it := it) (k := k) (x := jx) (by omega) hyf (by omega) (by omega)
                      refine lv_bipush (v := iI 64) hx hb d_M_step_164 (by decide +kernel) ?_
                      refine lv_aload_n hx hb d_M_step_166 rfl (lv_at hl 2 rfl) ?_
                      refine va_get (D := G) (ci := 4) (v := .ref (w 7)) (C := R_M) (T := T_M) (N := 16) hx hb hg iw_M hown hE.1 hP 1 rfl rfl 11 (by decide) (hg _ fl_M_33) (fun _ h9 => h9) rfl d_M_step_167 ?_
                      refine lv_iload hx hb d_M_step_170 (lv_at hl 9 rfl) ?_
                      refine rv_iald hx hb hE hP 4 rfl (i := jx) (by (try have := rcn it); omega) (by (try have := rcn it); omega) (by decide) d_M_step_172 ?_
                      refine rv_imul hx hb d_M_step_173 ?_
                      refine lv_aload_n hx hb d_M_step_174 rfl (lv_at hl 2 rfl) ?_
                      refine va_get (D := G) (ci := 4) (v := .ref (w 6)) (C := R_M) (T := T_M) (N := 16) hx hb hg iw_M hown hE.1 hP 1 rfl rfl 10 (by decide) (hg _ fl_M_30) (fun _ h9 => h9) rfl d_M_step_175 ?_
                      refine lv_iload hx hb d_M_step_178 (lv_at hl 9 rfl) ?_
                      refine rv_iald hx hb hE hP 3 rfl (i := jx) (by (try have := rcn it); omega) (by (try have := rcn it); omega) (by decide) d_M_step_180 ?_
                      refine rv_iadd hx hb d_M_step_181 ?_
                      refine lv_goto (tgt := 187) hx hb d_M_step_182 (by decide) ?_
                      refine lv_istore (lv' := [(6, .int (iI ((64 * (pnt jx)) + (prt jx)))), (10, .int (iI 1)), (9, .int (iI rest)), (0, .ref (w 0)), (1, .int (iI net)), (2, .int (iI k)), (3, .int (iI L)), (5, .int (iI sn)), (7, .int (iI th)), (8, .int (iI jx))]) hx hb d_M_step_187 hl (by decide) rfl (fun ls hl => ?_)
                      refine lv_iload hx hb d_M_step_189 (lv_at hl 7 rfl) ?_
                      refine lv_iload hx hb d_M_step_191 (lv_at hl 1 rfl) ?_
                      refine rv_if_eq (tgt := 200) hx hb d_M_step_193 (by decide) ⟨by decide, by decide⟩ (fun c_16 => ?_) (fun c_16 => ?_)
                      · exact absurd c_16 (by decide)
                      · skip
                        refine lv_iconst (v := iI 1) hx hb d_M_step_196 rfl ?_
                        refine lv_goto (tgt := 201) hx hb d_M_step_197 (by decide) ?_
                        refine rv_iadd hx hb d_M_step_201 ?_
                        refine lv_istore (lv' := [(5, .int (iI (sn + 1))), (6, .int (iI ((64 * (pnt jx)) + (prt jx)))), (10, .int (iI 1)), (9, .int (iI rest)), (0, .ref (w 0)), (1, .int (iI net)), (2, .int (iI k)), (3, .int (iI L)), (7, .int (iI th)), (8, .int (iI jx))]) hx hb d_M_step_202 hl (by decide) rfl (fun ls hl => ?_)
                        refine lv_iinc (v := iI (jx + 1)) (lv' := [(8, .int (iI (jx + 1))), (5, .int (iI (sn + 1))), (6, .int (iI ((64 * (pnt jx)) + (prt jx)))), (10, .int (iI 1)), (9, .int (iI rest)), (0, .ref (w 0)), (1, .int (iI net)), (2, .int (iI k)), (3, .int (iI L)), (7, .int (iI th))]) hx hb d_M_step_204 hl (k := 9) rfl (iI_add _ _) (by decide) rfl (fun ls hl => ?_)
                        refine lv_goto (tgt := 72) hx hb d_M_step_207 (by decide) ?_
                        exact ih72 _ _ _ th (jx + 1) (by (try have := rcn it); (try have := rcn it); omega) (by first | exact rfa2 | exact rgfa) hth ⟨by omega, by omega, by omega, fun q => by omega⟩ (by rw [show jx + 1 - 24 * it = (jx - 24 * it) + 1 by omega]; first | (rw [cI_s1 (by omega) hyf]; omega) | (rw [cI_s0 (by omega) hnf]; omega)) (by rw [show jx + 1 - 24 * it = (jx - 24 * it) + 1 by omega]; first | exact hT2 | exact TLD_skip (by omega) hnf hT) H _ (hP.sub [0, 5, 6, 1, 2, 3, 4] rfl) (hD.sub [0, 5, 6, 1, 2, 3, 4] (by decide) rfl) hS ls (lv_sub hl [5, 6, 7, 8, 1, 2, 9, 0] rfl)
    exact L72 ((24 * it + pcn it - (24 * it) : Int).toNat + 1) fa1 0 (-1) _ (24 * it) (Nat.lt_succ_self _) rfa1 hthr ⟨by omega, by have := rcn it; omega, by omega, fun _ => rfl⟩ (by rw [show 24 * it - 24 * it = 0 by omega]; rfl) (by rw [show 24 * it - 24 * it = 0 by omega]; exact TLD_0) H _ (hP.sub [0, 1, 2, 3, 4, 5, 6] rfl) (hD.sub [0, 1, 2, 3, 4, 5, 6] (by decide) rfl) hS ls (lv_sub hl [6, 7, 8, 5, 3, 2, 1, 0] rfl)
  · skip
    refine lv_iload hx hb d_M_step_40 (lv_at hl 2 rfl) ?_
    refine rv_if_lt (tgt := 60) hx hb d_M_step_42 (by decide) (by constructor <;> omega) (fun c_17 => ?_) (fun c_17 => ?_)
    · skip
      have hthr : ((0 : Int) = 1 ∧ (L = -1 ∨ ps pcn prt pnt pco fa1 it net L)) ∨ ((0 : Int) = 0 ∧ ¬ (L = -1 ∨ ps pcn prt pnt pco fa1 it net L)) := Or.inr ⟨rfl, fun q => by rcases q with q | q; omega; have := (hpo q).1; omega⟩
      refine lv_iconst (v := iI 0) hx hb d_M_step_60 rfl ?_
      refine lv_istore (lv' := [(7, .int (iI 0)), (6, .int (iI ((-1)))), (5, .int (iI 0)), (4, .int (iI ow)), (3, .int (iI L)), (0, .ref (w 0)), (1, .int (iI net)), (2, .int (iI k))]) hx hb d_M_step_61 hl (by decide) rfl (fun ls hl => ?_)
      refine lv_bipush (v := iI 24) hx hb d_M_step_63 (by decide +kernel) ?_
      refine lv_aload_n hx hb d_M_step_65 rfl (lv_at hl 5 rfl) ?_
      refine va_get (D := G) (ci := 4) (v := .int (iI it)) (C := R_M) (T := T_M) (N := 16) hx hb hg iw_M hown hE.1 hP 3 rfl rfl 0 (by decide) (hg _ fl_M_45) (fun _ h9 => h9) rfl d_M_step_66 ?_
      refine rv_imul hx hb d_M_step_69 ?_
      refine lv_istore (lv' := [(8, .int (iI (24 * it))), (7, .int (iI 0)), (6, .int (iI ((-1)))), (5, .int (iI 0)), (4, .int (iI ow)), (3, .int (iI L)), (0, .ref (w 0)), (1, .int (iI net)), (2, .int (iI k))]) hx hb d_M_step_70 hl (by decide) rfl (fun ls hl => ?_)
      have L72 : ∀ n9 : Nat, ∀ (gfa : Int → Int) (sn : Int) (tl : Int) (th : Int) (jx : Int), (24 * it + pcn it - jx : Int).toNat < n9 → (∀ i : Int, -1 ≤ gfa i ∧ gfa i ≤ 64000) → ((th = 1 ∧ (L = -1 ∨ ps pcn prt pnt pco fa1 it net L)) ∨ (th = 0 ∧ ¬ (L = -1 ∨ ps pcn prt pnt pco fa1 it net L))) → (24 * it ≤ jx ∧ jx ≤ 24 * it + pcn it ∧ (th = 0 ∨ th = 1) ∧ (th = 1 → jx = 24 * it)) → (sn = cI (fsF pcn prt pnt pco it net L) (jx - 24 * it)) → (TLD (fsF pcn prt pnt pco it net L) pnt prt it k (jx - 24 * it) tl) → ∀ (H : Heap) (locs : List Loc), va_P G cls0 [(w 9, .inl (z.2.1, 1536, .inl (aI gus))), (w 8, .inl (z.1, 1584, .inl (aI pco))), (w 10, .inl (z.1, 64, .inl (aI gfa))), (w 0, .inr (4, [.int (iI it), .int (iI cd), .int (iI now), .ref (w 1), .ref (w 2), .int (iI gr), .int (iI md), .ref (w 3), .ref (w 4), .ref (w 5), .ref (w 6), .ref (w 7), .ref (w 8), .int (iI dO), .ref (w 9), .ref (w 10)])), (w 5, .inl (z.1, 66, .inl (aI pcn))), (w 6, .inl (z.1, 1584, .inl (aI prt))), (w 7, .inl (z.1, 1584, .inl (aI pnt)))] H → va_D A [(w 9, .inl (z.2.1, 1536, .inl (aI gus))), (w 8, .inl (z.1, 1584, .inl (aI pco))), (w 10, .inl (z.1, 64, .inl (aI gfa))), (w 0, .inr (4, [.int (iI it), .int (iI cd), .int (iI now), .ref (w 1), .ref (w 2), .int (iI gr), .int (iI md), .ref (w 3), .ref (w 4), .ref (w 5), .ref (w 6), .ref (w 7), .ref (w 8), .int (iI dO), .ref (w 9), .ref (w 10)])), (w 5, .inl (z.1, 66, .inl (aI pcn))), (w 6, .inl (z.1, 1584, .inl (aI prt))), (w 7, .inl (z.1, 1584, .inl (aI pnt)))] → va_S A s.heap H locs → ∀ ls : Array Slot, lv_has ls 11 [(0, .ref (w 0)), (1, .int (iI net)), (2, .int (iI k)), (3, .int (iI L)), (5, .int (iI sn)), (6, .int (iI tl)), (7, .int (iI th)), (8, .int (iI jx))] → W p l e (rmD 2) s m [.ref (w 0), .int (iI net), .int (iI k)].toArray below meth c H locs 0 0 (Zi below [.ref (w 0), .int (iI net), .int (iI k)].toArray s (rmD 2) G A (fun r9 u9 => ∃ (rv : Int) (gus : Int → Int) (gfa : Int → Int), u9 = [(w 0, .inr (4, [.int (iI it), .int (iI cd), .int (iI now), .ref (w 1), .ref (w 2), .int (iI gr), .int (iI md), .ref (w 3), .ref (w 4), .ref (w 5), .ref (w 6), .ref (w 7), .ref (w 8), .int (iI dO), .ref (w 9), .ref (w 10)])), (w 5, .inl (z.1, 66, .inl (aI pcn))), (w 6, .inl (z.1, 1584, .inl (aI prt))), (w 7, .inl (z.1, 1584, .inl (aI pnt))), (w 8, .inl (z.1, 1584, .inl (aI pco))), (w 9, .inl (z.2.1, 1536, .inl (aI gus))), (w 10, .inl (z.1, 64, .inl (aI gfa)))] ∧ r9 = iI rv ∧ (∀ i : Int, 0 ≤ gus i ∧ gus i ≤ 1) ∧ (∀ i : Int, -1 ≤ gfa i ∧ gfa i ≤ 64000) ∧ (-1 ≤ rv ∧ rv ≤ 4095) ∧ (∃ (fa1 : Int → Int) (L : Int), isD (eg pcn prt pnt pco) it fa1 ∧ LST pcn prt pnt pco fa1 net 64 L ∧ STP pcn prt pnt pco fa1 it net k L rv))) (F0 m 72 ls []) := by
        intro n9
        induction n9 with
        | zero => intro gfa sn tl th jx hmu; exact absurd hmu (Nat.not_lt_zero _)
        | succ n9 ih72 =>
          intro gfa sn tl th jx hmu rgfa hth he hc hT H locs hP hD hS ls hl
          refine lv_iload hx hb d_M_step_72 (lv_at hl 7 rfl) ?_
          refine lv_bipush (v := iI 24) hx hb d_M_step_74 (by decide +kernel) ?_
          refine lv_aload_n hx hb d_M_step_76 rfl (lv_at hl 0 rfl) ?_
          refine va_get (D := G) (ci := 4) (v := .int (iI it)) (C := R_M) (T := T_M) (N := 16) hx hb hg iw_M hown hE.1 hP 3 rfl rfl 0 (by decide) (hg _ fl_M_45) (fun _ h9 => h9) rfl d_M_step_77 ?_
          refine rv_imul hx hb d_M_step_80 ?_
          refine lv_aload_n hx hb d_M_step_81 rfl (lv_at hl 0 rfl) ?_
          refine va_get (D := G) (ci := 4) (v := .ref (w 5)) (C := R_M) (T := T_M) (N := 16) hx hb hg iw_M hown hE.1 hP 3 rfl rfl 9 (by decide) (hg _ fl_M_27) (fun _ h9 => h9) rfl d_M_step_82 ?_
          refine lv_aload_n hx hb d_M_step_85 rfl (lv_at hl 0 rfl) ?_
          refine va_get (D := G) (ci := 4) (v := .int (iI it)) (C := R_M) (T := T_M) (N := 16) hx hb hg iw_M hown hE.1 hP 3 rfl rfl 0 (by decide) (hg _ fl_M_45) (fun _ h9 => h9) rfl d_M_step_86 ?_
          refine rv_iald hx hb hE hP 4 rfl (i := it) (by omega) (by omega) (by decide) d_M_step_89 ?_
          refine rv_iadd hx hb d_M_step_90 ?_
          refine rv_icmp_ge (tgt := 210) hx hb d_M_step_91 (by decide) (by (try have := rcn it); constructor <;> omega) (by (try have := rcn it); (try have := rcn it); constructor <;> omega) (fun c_18 => ?_) (fun c_18 => ?_)
          · skip
            have hxe : (jx - 24 * it) = pcn it ∨ th = 1 := by have := rcn it; omega
            refine lv_iload_n hx hb d_M_step_210 rfl (lv_at hl 2 rfl) ?_
            refine rv_if_ge (tgt := 219) hx hb d_M_step_211 (by decide) (by constructor <;> omega) (fun c_19 => ?_) (fun c_19 => ?_)
            · skip
              have hend := STP_2 (k := k) hth (fun q => by have := he.2.2.2 q; omega) hxe hT (by omega)
              refine lv_iload hx hb d_M_step_219 (lv_at hl 5 rfl) ?_
              have hP9 : va_P G cls0 [(w 0, .inr (4, [.int (iI it), .int (iI cd), .int (iI now), .ref (w 1), .ref (w 2), .int (iI gr), .int (iI md), .ref (w 3), .ref (w 4), .ref (w 5), .ref (w 6), .ref (w 7), .ref (w 8), .int (iI dO), .ref (w 9), .ref (w 10)])), (w 5, .inl (z.1, 66, .inl (aI pcn))), (w 6, .inl (z.1, 1584, .inl (aI prt))), (w 7, .inl (z.1, 1584, .inl (aI pnt))), (w 8, .inl (z.1, 1584, .inl (aI pco))), (w 9, .inl (z.2.1, 1536, .inl (aI gus))), (w 10, .inl (z.1, 64, .inl (aI gfa)))] H := hP.sub [3, 4, 5, 6, 1, 0, 2] rfl
              have hD9 : va_D A [(w 0, .inr (4, [.int (iI it), .int (iI cd), .int (iI now), .ref (w 1), .ref (w 2), .int (iI gr), .int (iI md), .ref (w 3), .ref (w 4), .ref (w 5), .ref (w 6), .ref (w 7), .ref (w 8), .int (iI dO), .ref (w 9), .ref (w 10)])), (w 5, .inl (z.1, 66, .inl (aI pcn))), (w 6, .inl (z.1, 1584, .inl (aI prt))), (w 7, .inl (z.1, 1584, .inl (aI pnt))), (w 8, .inl (z.1, 1584, .inl (aI pco))), (w 9, .inl (z.2.1, 1536, .inl (aI gus))), (w 10, .inl (z.1, 64, .inl (aI gfa)))] := hD.sub [3, 4, 5, 6, 1, 0, 2] (by decide) rfl
              refine rv_iret hx hb hRt (nar_int _) hlocks (Nat.le_of_ble_eq_true rfl) (Nat.le_of_ble_eq_true rfl) hP9 hD9 hS d_M_step_221 ?_
              exact ⟨tl, gus, gfa, rfl, rfl, rgus, rgfa, (by have := TLD_b rnt (fun b q => by have := usb_t hAK (fsF_e q).1; omega) hT; have := cI_b (fsF pcn prt pnt pco it net L) (show 0 ≤ (jx - 24 * it) by omega); have := rcn it; omega), ⟨fa1, L, fD1, fL, hend⟩⟩
            · skip
              have hend := STP_1 (k := k) hth (fun q => by have := he.2.2.2 q; omega) hxe hc (by omega)
              refine lv_iload hx hb d_M_step_214 (lv_at hl 4 rfl) ?_
              refine lv_goto (tgt := 221) hx hb d_M_step_216 (by decide) ?_
              have hP9 : va_P G cls0 [(w 0, .inr (4, [.int (iI it), .int (iI cd), .int (iI now), .ref (w 1), .ref (w 2), .int (iI gr), .int (iI md), .ref (w 3), .ref (w 4), .ref (w 5), .ref (w 6), .ref (w 7), .ref (w 8), .int (iI dO), .ref (w 9), .ref (w 10)])), (w 5, .inl (z.1, 66, .inl (aI pcn))), (w 6, .inl (z.1, 1584, .inl (aI prt))), (w 7, .inl (z.1, 1584, .inl (aI pnt))), (w 8, .inl (z.1, 1584, .inl (aI pco))), (w 9, .inl (z.2.1, 1536, .inl (aI gus))), (w 10, .inl (z.1, 64, .inl (aI gfa)))] H := hP.sub [3, 4, 5, 6, 1, 0, 2] rfl
              have hD9 : va_D A [(w 0, .inr (4, [.int (iI it), .int (iI cd), .int (iI now), .ref (w 1), .ref (w 2), .int (iI gr), .int (iI md), .ref (w 3), .ref (w 4), .ref (w 5), .ref (w 6), .ref (w 7), .ref (w 8), .int (iI dO), .ref (w 9), .ref (w 10)])), (w 5, .inl (z.1, 66, .inl (aI pcn))), (w 6, .inl (z.1, 1584, .inl (aI prt))), (w 7, .inl (z.1, 1584, .inl (aI pnt))), (w 8, .inl (z.1, 1584, .inl (aI pco))), (w 9, .inl (z.2.1, 1536, .inl (aI gus))), (w 10, .inl (z.1, 64, .inl (aI gfa)))] := hD.sub [3, 4, 5, 6, 1, 0, 2] (by decide) rfl
              refine rv_iret hx hb hRt (nar_int _) hlocks (Nat.le_of_ble_eq_true rfl) (Nat.le_of_ble_eq_true rfl) hP9 hD9 hS d_M_step_221 ?_
              exact ⟨sn, gus, gfa, rfl, rfl, rgus, rgfa, (by have := TLD_b rnt (fun b q => by have := usb_t hAK (fsF_e q).1; omega) hT; have := cI_b (fsF pcn prt pnt pco it net L) (show 0 ≤ (jx - 24 * it) by omega); have := rcn it; omega), ⟨fa1, L, fD1, fL, hend⟩⟩
          · skip
            refine lv_iload hx hb d_M_step_94 (lv_at hl 6 rfl) ?_
            refine rv_if_ne (tgt := 210) hx hb d_M_step_96 (by decide) (by constructor <;> omega) (fun c_20 => ?_) (fun c_20 => ?_)
            · skip
              have hxe : (jx - 24 * it) = pcn it ∨ th = 1 := by omega
              refine lv_iload_n hx hb d_M_step_210 rfl (lv_at hl 2 rfl) ?_
              refine rv_if_ge (tgt := 219) hx hb d_M_step_211 (by decide) (by constructor <;> omega) (fun c_21 => ?_) (fun c_21 => ?_)
              · skip
                have hend := STP_2 (k := k) hth (fun q => by have := he.2.2.2 q; omega) hxe hT (by omega)
                refine lv_iload hx hb d_M_step_219 (lv_at hl 5 rfl) ?_
                have hP9 : va_P G cls0 [(w 0, .inr (4, [.int (iI it), .int (iI cd), .int (iI now), .ref (w 1), .ref (w 2), .int (iI gr), .int (iI md), .ref (w 3), .ref (w 4), .ref (w 5), .ref (w 6), .ref (w 7), .ref (w 8), .int (iI dO), .ref (w 9), .ref (w 10)])), (w 5, .inl (z.1, 66, .inl (aI pcn))), (w 6, .inl (z.1, 1584, .inl (aI prt))), (w 7, .inl (z.1, 1584, .inl (aI pnt))), (w 8, .inl (z.1, 1584, .inl (aI pco))), (w 9, .inl (z.2.1, 1536, .inl (aI gus))), (w 10, .inl (z.1, 64, .inl (aI gfa)))] H := hP.sub [3, 4, 5, 6, 1, 0, 2] rfl
                have hD9 : va_D A [(w 0, .inr (4, [.int (iI it), .int (iI cd), .int (iI now), .ref (w 1), .ref (w 2), .int (iI gr), .int (iI md), .ref (w 3), .ref (w 4), .ref (w 5), .ref (w 6), .ref (w 7), .ref (w 8), .int (iI dO), .ref (w 9), .ref (w 10)])), (w 5, .inl (z.1, 66, .inl (aI pcn))), (w 6, .inl (z.1, 1584, .inl (aI prt))), (w 7, .inl (z.1, 1584, .inl (aI pnt))), (w 8, .inl (z.1, 1584, .inl (aI pco))), (w 9, .inl (z.2.1, 1536, .inl (aI gus))), (w 10, .inl (z.1, 64, .inl (aI gfa)))] := hD.sub [3, 4, 5, 6, 1, 0, 2] (by decide) rfl
                refine rv_iret hx hb hRt (nar_int _) hlocks (Nat.le_of_ble_eq_true rfl) (Nat.le_of_ble_eq_true rfl) hP9 hD9 hS d_M_step_221 ?_
                exact ⟨tl, gus, gfa, rfl, rfl, rgus, rgfa, (by have := TLD_b rnt (fun b q => by have := usb_t hAK (fsF_e q).1; omega) hT; have := cI_b (fsF pcn prt pnt pco it net L) (show 0 ≤ (jx - 24 * it) by omega); have := rcn it; omega), ⟨fa1, L, fD1, fL, hend⟩⟩
              · skip
                have hend := STP_1 (k := k) hth (fun q => by have := he.2.2.2 q; omega) hxe hc (by omega)
                refine lv_iload hx hb d_M_step_214 (lv_at hl 4 rfl) ?_
                refine lv_goto (tgt := 221) hx hb d_M_step_216 (by decide) ?_
                have hP9 : va_P G cls0 [(w 0, .inr (4, [.int (iI it), .int (iI cd), .int (iI now), .ref (w 1), .ref (w 2), .int (iI gr), .int (iI md), .ref (w 3), .ref (w 4), .ref (w 5), .ref (w 6), .ref (w 7), .ref (w 8), .int (iI dO), .ref (w 9), .ref (w 10)])), (w 5, .inl (z.1, 66, .inl (aI pcn))), (w 6, .inl (z.1, 1584, .inl (aI prt))), (w 7, .inl (z.1, 1584, .inl (aI pnt))), (w 8, .inl (z.1, 1584, .inl (aI pco))), (w 9, .inl (z.2.1, 1536, .inl (aI gus))), (w 10, .inl (z.1, 64, .inl (aI gfa)))] H := hP.sub [3, 4, 5, 6, 1, 0, 2] rfl
                have hD9 : va_D A [(w 0, .inr (4, [.int (iI it), .int (iI cd), .int (iI now), .ref (w 1), .ref (w 2), .int (iI gr), .int (iI md), .ref (w 3), .ref (w 4), .ref (w 5), .ref (w 6), .ref (w 7), .ref (w 8), .int (iI dO), .ref (w 9), .ref (w 10)])), (w 5, .inl (z.1, 66, .inl (aI pcn))), (w 6, .inl (z.1, 1584, .inl (aI prt))), (w 7, .inl (z.1, 1584, .inl (aI pnt))), (w 8, .inl (z.1, 1584, .inl (aI pco))), (w 9, .inl (z.2.1, 1536, .inl (aI gus))), (w 10, .inl (z.1, 64, .inl (aI gfa)))] := hD.sub [3, 4, 5, 6, 1, 0, 2] (by decide) rfl
                refine rv_iret hx hb hRt (nar_int _) hlocks (Nat.le_of_ble_eq_true rfl) (Nat.le_of_ble_eq_true rfl) hP9 hD9 hS d_M_step_221 ?_
                exact ⟨sn, gus, gfa, rfl, rfl, rgus, rgfa, (by have := TLD_b rnt (fun b q => by have := usb_t hAK (fsF_e q).1; omega) hT; have := cI_b (fsF pcn prt pnt pco it net L) (show 0 ≤ (jx - 24 * it) by omega); have := rcn it; omega), ⟨fa1, L, fD1, fL, hend⟩⟩
            · skip
              have hth0 : th = 0 := by omega
              have hckr := fck it (jx - 24 * it) hit.1 (by omega) (by omega) (by omega) (Or.inl (by omega))
              rw [show it * 24 + (jx - 24 * it) = jx by omega] at hckr
              refine lv_aload_n hx hb d_M_step_99 rfl (lv_at hl 0 rfl) ?_
              refine va_get (D := G) (ci := 4) (v := .ref (w 9)) (C := R_M) (T := T_M) (N := 16) hx hb hg iw_M hown hE.1 hP 3 rfl rfl 14 (by decide) (hg _ fl_M_39) (fun _ h9 => h9) rfl d_M_step_100 ?_
              refine lv_iload hx hb d_M_step_103 (lv_at hl 7 rfl) ?_
              refine rv_zald hx hb hE hP 0 rfl (i := jx) (by (try have := rcn it); omega) (by (try have := rcn it); omega) (by decide) d_M_step_105 ?_
              refine rv_if_eq (tgt := 204) hx hb d_M_step_106 (by decide) (by (try have := rgus jx); constructor <;> omega) (fun c_22 => ?_) (fun c_22 => ?_)
              · skip
                have hnf : (fsF pcn prt pnt pco it net L) (jx - 24 * it) = 0 := fsF_0 (fun q => by rcases hckr with ⟨w, -⟩ | ⟨-, w⟩; omega; exact w q.1)
                clear hckr
                have hT2 := TLD_skip (by omega) hnf hT
                have hc2 : sn = cI (fsF pcn prt pnt pco it net L) ((jx - 24 * it) + 1) := by rw [cI_s0 (by omega) hnf]; exact hc
                refine lv_iinc (v := iI (jx + 1)) (lv' := [(8, .int (iI (jx + 1))), (0, .ref (w 0)), (1, .int (iI net)), (2, .int (iI k)), (3, .int (iI L)), (5, .int (iI sn)), (6, .int (iI tl)), (7, .int (iI th))]) hx hb d_M_step_204 hl (k := 7) rfl (iI_add _ _) (by decide) rfl (fun ls hl => ?_)
                refine lv_goto (tgt := 72) hx hb d_M_step_207 (by decide) ?_
                exact ih72 _ _ _ th (jx + 1) (by (try have := rcn it); (try have := rcn it); omega) (by first | exact rfa2 | exact rgfa) hth ⟨by omega, by omega, by omega, fun q => by omega⟩ (by rw [show jx + 1 - 24 * it = (jx - 24 * it) + 1 by omega]; first | (rw [cI_s1 (by omega) hyf]; omega) | (rw [cI_s0 (by omega) hnf]; omega)) (by rw [show jx + 1 - 24 * it = (jx - 24 * it) + 1 by omega]; first | exact hT2 | exact TLD_skip (by omega) hnf hT) H _ (hP.sub [0, 1, 2, 3, 4, 5, 6] rfl) (hD.sub [0, 1, 2, 3, 4, 5, 6] (by decide) rfl) hS ls (lv_sub hl [1, 2, 3, 4, 5, 6, 7, 0] rfl)
              · skip
                have hu : usb pcn prt pnt it (jx - 24 * it) := by rcases hckr with ⟨-, w⟩ | ⟨w, -⟩; exact w; omega
                clear hckr
                have hto := usb_t hAK hu
                rw [show it * 24 + (jx - 24 * it) = jx by omega] at hto
                refine lv_aload_n hx hb d_M_step_109 rfl (lv_at hl 0 rfl) ?_
                refine lv_aload_n hx hb d_M_step_110 rfl (lv_at hl 0 rfl) ?_
                refine va_get (D := G) (ci := 4) (v := .ref (w 6)) (C := R_M) (T := T_M) (N := 16) hx hb hg iw_M hown hE.1 hP 3 rfl rfl 10 (by decide) (hg _ fl_M_30) (fun _ h9 => h9) rfl d_M_step_111 ?_
                refine lv_iload hx hb d_M_step_114 (lv_at hl 7 rfl) ?_
                refine rv_iald hx hb hE hP 5 rfl (i := jx) (by (try have := rcn it); omega) (by (try have := rcn it); omega) (by decide) d_M_step_116 ?_
                refine qV_v (As := [.int (iI (prt jx))]) (rest := []) (wr := []) hx hb hml hown hg hE hA hS hP hD (k_M_spread l G z w it cd now gr md dO pcn prt pnt pco gus gfa (prt jx) (by assumption) (by assumption) (by assumption) (by assumption) (by assumption) (by assumption) hAK fck (by (try have := rrt jx); omega)) [3, 4, 5, 6, 1, 0, 2] [] rfl rfl (by decide) (by decide) (by decide) (q0 := 0) rfl rfl ml_M_95 im_M_spread se_M_spread in_M co_M_spread ok_M_spread ⟨Nat.le_of_ble_eq_true rfl, Nat.le_of_ble_eq_true rfl⟩ hl.1 rfl (Nat.le_of_ble_eq_true rfl) d_M_step_117 ⟨Nat.le_of_ble_eq_true rfl, Nat.le_of_ble_eq_true rfl⟩ (fun u9 H locs hw hP hD hS => ?_)
                obtain ⟨fa2, rfl, rfa2, fD2⟩ := hw
                have hP : va_P G cls0 [(w 0, .inr (4, [.int (iI it), .int (iI cd), .int (iI now), .ref (w 1), .ref (w 2), .int (iI gr), .int (iI md), .ref (w 3), .ref (w 4), .ref (w 5), .ref (w 6), .ref (w 7), .ref (w 8), .int (iI dO), .ref (w 9), .ref (w 10)])), (w 5, .inl (z.1, 66, .inl (aI pcn))), (w 6, .inl (z.1, 1584, .inl (aI prt))), (w 7, .inl (z.1, 1584, .inl (aI pnt))), (w 8, .inl (z.1, 1584, .inl (aI pco))), (w 9, .inl (z.2.1, 1536, .inl (aI gus))), (w 10, .inl (z.1, 64, .inl (aI fa2)))] H := hP
                have hD : va_D A [(w 0, .inr (4, [.int (iI it), .int (iI cd), .int (iI now), .ref (w 1), .ref (w 2), .int (iI gr), .int (iI md), .ref (w 3), .ref (w 4), .ref (w 5), .ref (w 6), .ref (w 7), .ref (w 8), .int (iI dO), .ref (w 9), .ref (w 10)])), (w 5, .inl (z.1, 66, .inl (aI pcn))), (w 6, .inl (z.1, 1584, .inl (aI prt))), (w 7, .inl (z.1, 1584, .inl (aI pnt))), (w 8, .inl (z.1, 1584, .inl (aI pco))), (w 9, .inl (z.2.1, 1536, .inl (aI gus))), (w 10, .inl (z.1, 64, .inl (aI fa2)))] := hD
                refine lv_aload_n hx hb d_M_step_120 rfl (lv_at hl 0 rfl) ?_
                refine lv_iload_n hx hb d_M_step_121 rfl (lv_at hl 1 rfl) ?_
                refine qV_i (As := [.int (iI net)]) (rest := []) (wr := [(w 9, .inl (z.2.1, 1536, .inl (aI gus)))]) hx hb hml hown hg hE hA hS hP hD (k_M_reach l G z w it cd now gr md dO pcn prt pnt pco fa2 net (by assumption) (by assumption) (by assumption) (by assumption) (by assumption) (by assumption) (by assumption) (by omega)) [0, 1, 2, 3, 4, 6] [5] rfl rfl (by decide) (by decide) (by decide) (q0 := 0) rfl rfl ml_M_99 im_M_reach se_M_reach in_M co_M_reach ok_M_reach ⟨Nat.le_of_ble_eq_true rfl, Nat.le_of_ble_eq_true rfl⟩ hl.1 rfl (Nat.le_of_ble_eq_true rfl) d_M_step_122 ⟨Nat.le_of_ble_eq_true rfl, Nat.le_of_ble_eq_true rfl⟩ (fun r9 u9 H locs hw hP hD hS => ?_)
                obtain ⟨rest, rfl, rfl, frv, fR⟩ := hw
                have hP : va_P G cls0 [(w 9, .inl (z.2.1, 1536, .inl (aI gus))), (w 0, .inr (4, [.int (iI it), .int (iI cd), .int (iI now), .ref (w 1), .ref (w 2), .int (iI gr), .int (iI md), .ref (w 3), .ref (w 4), .ref (w 5), .ref (w 6), .ref (w 7), .ref (w 8), .int (iI dO), .ref (w 9), .ref (w 10)])), (w 5, .inl (z.1, 66, .inl (aI pcn))), (w 6, .inl (z.1, 1584, .inl (aI prt))), (w 7, .inl (z.1, 1584, .inl (aI pnt))), (w 8, .inl (z.1, 1584, .inl (aI pco))), (w 10, .inl (z.1, 64, .inl (aI fa2)))] H := hP
                have hD : va_D A [(w 9, .inl (z.2.1, 1536, .inl (aI gus))), (w 0, .inr (4, [.int (iI it), .int (iI cd), .int (iI now), .ref (w 1), .ref (w 2), .int (iI gr), .int (iI md), .ref (w 3), .ref (w 4), .ref (w 5), .ref (w 6), .ref (w 7), .ref (w 8), .int (iI dO), .ref (w 9), .ref (w 10)])), (w 5, .inl (z.1, 66, .inl (aI pcn))), (w 6, .inl (z.1, 1584, .inl (aI prt))), (w 7, .inl (z.1, 1584, .inl (aI pnt))), (w 8, .inl (z.1, 1584, .inl (aI pco))), (w 10, .inl (z.1, 64, .inl (aI fa2)))] := hD
                have hiff := FST_model (b := (jx - 24 * it)) fD1 fL hu (by rw [show it * 24 + (jx - 24 * it) = jx by omega]; exact fD2) fR
                rw [show it * 24 + (jx - 24 * it) = jx by omega] at hiff
                refine lv_istore (lv' := [(9, .int (iI rest)), (0, .ref (w 0)), (1, .int (iI net)), (2, .int (iI k)), (3, .int (iI L)), (5, .int (iI sn)), (6, .int (iI tl)), (7, .int (iI th)), (8, .int (iI jx))]) hx hb d_M_step_125 hl (by decide) rfl (fun ls hl => ?_)
                refine lv_iload hx hb d_M_step_127 (lv_at hl 0 rfl) ?_
                refine rv_if_lt (tgt := 150) hx hb d_M_step_129 (by decide) (by constructor <;> omega) (fun c_23 => ?_) (fun c_23 => ?_)
                · skip
                  have hnf : (fsF pcn prt pnt pco it net L) (jx - 24 * it) = 0 := fsF_0 (fun q => by have := hiff.2 q; omega)
                  refine lv_iconst (v := iI 0) hx hb d_M_step_150 rfl ?_
                  refine lv_istore (lv' := [(10, .int (iI 0)), (9, .int (iI rest)), (0, .ref (w 0)), (1, .int (iI net)), (2, .int (iI k)), (3, .int (iI L)), (5, .int (iI sn)), (6, .int (iI tl)), (7, .int (iI th)), (8, .int (iI jx))]) hx hb d_M_step_151 hl (by decide) rfl (fun ls hl => ?_)
                  refine lv_iload hx hb d_M_step_153 (lv_at hl 0 rfl) ?_
                  refine rv_if_eq (tgt := 185) hx hb d_M_step_155 (by decide) ⟨by decide, by decide⟩ (fun c_24 => ?_) (fun c_24 => ?_)
                  · skip
                    refine lv_iload hx hb d_M_step_185 (lv_at hl 7 rfl) ?_
                    refine lv_istore (lv' := [(6, .int (iI tl)), (10, .int (iI 0)), (9, .int (iI rest)), (0, .ref (w 0)), (1, .int (iI net)), (2, .int (iI k)), (3, .int (iI L)), (5, .int (iI sn)), (7, .int (iI th)), (8, .int (iI jx))]) hx hb d_M_step_187 hl (by decide) rfl (fun ls hl => ?_)
                    refine lv_iload hx hb d_M_step_189 (lv_at hl 7 rfl) ?_
                    refine lv_iload hx hb d_M_step_191 (lv_at hl 1 rfl) ?_
                    refine rv_if_eq (tgt := 200) hx hb d_M_step_193 (by decide) ⟨by decide, by decide⟩ (fun c_25 => ?_) (fun c_25 => ?_)
                    · skip
                      refine lv_iconst (v := iI 0) hx hb d_M_step_200 rfl ?_
                      refine rv_iadd hx hb d_M_step_201 ?_
                      refine lv_istore (lv' := [(5, .int (iI (sn + 0))), (6, .int (iI tl)), (10, .int (iI 0)), (9, .int (iI rest)), (0, .ref (w 0)), (1, .int (iI net)), (2, .int (iI k)), (3, .int (iI L)), (7, .int (iI th)), (8, .int (iI jx))]) hx hb d_M_step_202 hl (by decide) rfl (fun ls hl => ?_)
                      refine lv_iinc (v := iI (jx + 1)) (lv' := [(8, .int (iI (jx + 1))), (5, .int (iI (sn + 0))), (6, .int (iI tl)), (10, .int (iI 0)), (9, .int (iI rest)), (0, .ref (w 0)), (1, .int (iI net)), (2, .int (iI k)), (3, .int (iI L)), (7, .int (iI th))]) hx hb d_M_step_204 hl (k := 9) rfl (iI_add _ _) (by decide) rfl (fun ls hl => ?_)
                      refine lv_goto (tgt := 72) hx hb d_M_step_207 (by decide) ?_
                      exact ih72 _ _ _ th (jx + 1) (by (try have := rcn it); (try have := rcn it); omega) (by first | exact rfa2 | exact rgfa) hth ⟨by omega, by omega, by omega, fun q => by omega⟩ (by rw [show jx + 1 - 24 * it = (jx - 24 * it) + 1 by omega]; first | (rw [cI_s1 (by omega) hyf]; omega) | (rw [cI_s0 (by omega) hnf]; omega)) (by rw [show jx + 1 - 24 * it = (jx - 24 * it) + 1 by omega]; first | exact hT2 | exact TLD_skip (by omega) hnf hT) H _ (hP.sub [0, 5, 6, 1, 2, 3, 4] rfl) (hD.sub [0, 5, 6, 1, 2, 3, 4] (by decide) rfl) hS ls (lv_sub hl [5, 6, 7, 8, 1, 2, 9, 0] rfl)
                    · exact absurd c_25 (by decide)
                  · exact absurd c_24 (by decide)
                · skip
                  refine lv_aload_n hx hb d_M_step_132 rfl (lv_at hl 1 rfl) ?_
                  refine va_get (D := G) (ci := 4) (v := .ref (w 8)) (C := R_M) (T := T_M) (N := 16) hx hb hg iw_M hown hE.1 hP 1 rfl rfl 12 (by decide) (hg _ fl_M_36) (fun _ h9 => h9) rfl d_M_step_133 ?_
                  refine lv_iload hx hb d_M_step_136 (lv_at hl 8 rfl) ?_
                  refine rv_iald hx hb hE hP 5 rfl (i := jx) (by (try have := rcn it); omega) (by (try have := rcn it); omega) (by decide) d_M_step_138 ?_
                  refine lv_iload hx hb d_M_step_139 (lv_at hl 0 rfl) ?_
                  refine rv_iadd hx hb d_M_step_141 ?_
                  refine lv_iload_n hx hb d_M_step_142 rfl (lv_at hl 4 rfl) ?_
                  refine rv_icmp_ne (tgt := 150) hx hb d_M_step_143 (by decide) (by (try have := rco jx); constructor <;> omega) (by constructor <;> omega) (fun c_26 => ?_) (fun c_26 => ?_)
                  · skip
                    have hnf : (fsF pcn prt pnt pco it net L) (jx - 24 * it) = 0 := fsF_0 (fun q => by have := hiff.2 q; omega)
                    refine lv_iconst (v := iI 0) hx hb d_M_step_150 rfl ?_
                    refine lv_istore (lv' := [(10, .int (iI 0)), (9, .int (iI rest)), (0, .ref (w 0)), (1, .int (iI net)), (2, .int (iI k)), (3, .int (iI L)), (5, .int (iI sn)), (6, .int (iI tl)), (7, .int (iI th)), (8, .int (iI jx))]) hx hb d_M_step_151 hl (by decide) rfl (fun ls hl => ?_)
                    refine lv_iload hx hb d_M_step_153 (lv_at hl 0 rfl) ?_
                    refine rv_if_eq (tgt := 185) hx hb d_M_step_155 (by decide) ⟨by decide, by decide⟩ (fun c_27 => ?_) (fun c_27 => ?_)
                    · skip
                      refine lv_iload hx hb d_M_step_185 (lv_at hl 7 rfl) ?_
                      refine lv_istore (lv' := [(6, .int (iI tl)), (10, .int (iI 0)), (9, .int (iI rest)), (0, .ref (w 0)), (1, .int (iI net)), (2, .int (iI k)), (3, .int (iI L)), (5, .int (iI sn)), (7, .int (iI th)), (8, .int (iI jx))]) hx hb d_M_step_187 hl (by decide) rfl (fun ls hl => ?_)
                      refine lv_iload hx hb d_M_step_189 (lv_at hl 7 rfl) ?_
                      refine lv_iload hx hb d_M_step_191 (lv_at hl 1 rfl) ?_
                      refine rv_if_eq (tgt := 200) hx hb d_M_step_193 (by decide) ⟨by decide, by decide⟩ (fun c_28 => ?_) (fun c_28 => ?_)
                      · skip
                        refine lv_iconst (v := iI 0) hx hb d_M_step_200 rfl ?_
                        refine rv_iadd hx hb d_M_step_201 ?_
                        refine lv_istore (lv' := [(5, .int (iI (sn + 0))), (6, .int (iI tl)), (10, .int (iI 0)), (9, .int (iI rest)), (0, .ref (w 0)), (1, .int (iI net)), (2, .int (iI k)), (3, .int (iI L)), (7, .int (iI th)), (8, .int (iI jx))]) hx hb d_M_step_202 hl (by decide) rfl (fun ls hl => ?_)
                        refine lv_iinc (v := iI (jx + 1)) (lv' := [(8, .int (iI (jx + 1))), (5, .int (iI (sn + 0))), (6, .int (iI tl)), (10, .int (iI 0)), (9, .int (iI rest)), (0, .ref (w 0)), (1, .int (iI net)), (2, .int (iI k)), (3, .int (iI L)), (7, .int (iI th))]) hx hb d_M_step_204 hl (k := 9) rfl (iI_add _ _) (by decide) rfl (fun ls hl => ?_)
                        refine lv_goto (tgt := 72) hx hb d_M_step_207 (by decide) ?_
                        exact ih72 _ _ _ th (jx + 1) (by (try have := rcn it); (try have := rcn it); omega) (by first | exact rfa2 | exact rgfa) hth ⟨by omega, by omega, by omega, fun q => by omega⟩ (by rw [show jx + 1 - 24 * it = (jx - 24 * it) + 1 by omega]; first | (rw [cI_s1 (by omega) hyf]; omega) | (rw [cI_s0 (by omega) hnf]; omega)) (by rw [show jx + 1 - 24 * it = (jx - 24 * it) + 1 by omega]; first | exact hT2 | exact TLD_skip (by omega) hnf hT) H _ (hP.sub [0, 5, 6, 1, 2, 3, 4] rfl) (hD.sub [0, 5, 6, 1, 2, 3, 4] (by decide) rfl) hS ls (lv_sub hl [5, 6, 7, 8, 1, 2, 9, 0] rfl)
                      · exact absurd c_28 (by decide)
                    · exact absurd c_27 (by decide)
                  · skip
                    have hyf : ¬ (fsF pcn prt pnt pco it net L) (jx - 24 * it) = 0 := fsF_1 (hiff.1 (by omega))
                    refine lv_iconst (v := iI 1) hx hb d_M_step_146 rfl ?_
                    refine lv_goto (tgt := 151) hx hb d_M_step_147 (by decide) ?_
                    refine lv_istore (lv' := [(10, .int (iI 1)), (9, .int (iI rest)), (0, .ref (w 0)), (1, .int (iI net)), (2, .int (iI k)), (3, .int (iI L)), (5, .int (iI sn)), (6, .int (iI tl)), (7, .int (iI th)), (8, .int (iI jx))]) hx hb d_M_step_151 hl (by decide) rfl (fun ls hl => ?_)
                    refine lv_iload hx hb d_M_step_153 (lv_at hl 0 rfl) ?_
                    refine rv_if_eq (tgt := 185) hx hb d_M_step_155 (by decide) ⟨by decide, by decide⟩ (fun c_29 => ?_) (fun c_29 => ?_)
                    · exact absurd c_29 (by decide)
                    · skip
                      refine lv_iload hx hb d_M_step_158 (lv_at hl 6 rfl) ?_
                      refine lv_iload_n hx hb d_M_step_160 rfl (lv_at hl 4 rfl) ?_
                      refine rv_icmp_ne (tgt := 185) hx hb d_M_step_161 (by decide) (by (try have := cI_b (fsF pcn prt pnt pco it net L) (show 0 ≤ jx - 24 * it by omega)); (try have := rcn it); constructor <;> omega) (by (try have := cI_b (fsF pcn prt pnt pco it net L) (show 0 ≤ jx - 24 * it by omega)); (try have := rcn it); constructor <;> omega) (fun c_30 => ?_) (fun c_30 => ?_)
                      · skip
                        have hT2 := TLD_miss (by omega) hyf (by omega) hT
                        refine lv_iload hx hb d_M_step_185 (lv_at hl 7 rfl) ?_
                        refine lv_istore (lv' := [(6, .int (iI tl)), (10, .int (iI 1)), (9, .int (iI rest)), (0, .ref (w 0)), (1, .int (iI net)), (2, .int (iI k)), (3, .int (iI L)), (5, .int (iI sn)), (7, .int (iI th)), (8, .int (iI jx))]) hx hb d_M_step_187 hl (by decide) rfl (fun ls hl => ?_)
                        refine lv_iload hx hb d_M_step_189 (lv_at hl 7 rfl) ?_
                        refine lv_iload hx hb d_M_step_191 (lv_at hl 1 rfl) ?_
                        refine rv_if_eq (tgt := 200) hx hb d_M_step_193 (by decide) ⟨by decide, by decide⟩ (fun c_31 => ?_) (fun c_31 => ?_)
                        · exact absurd c_31 (by decide)
                        · skip
                          refine lv_iconst (v := iI 1) hx hb d_M_step_196 rfl ?_
                          refine lv_goto (tgt := 201) hx hb d_M_step_197 (by decide) ?_
                          refine rv_iadd hx hb d_M_step_201 ?_
                          refine lv_istore (lv' := [(5, .int (iI (sn + 1))), (6, .int (iI tl)), (10, .int (iI 1)), (9, .int (iI rest)), (0, .ref (w 0)), (1, .int (iI net)), (2, .int (iI k)), (3, .int (iI L)), (7, .int (iI th)), (8, .int (iI jx))]) hx hb d_M_step_202 hl (by decide) rfl (fun ls hl => ?_)
                          refine lv_iinc (v := iI (jx + 1)) (lv' := [(8, .int (iI (jx + 1))), (5, .int (iI (sn + 1))), (6, .int (iI tl)), (10, .int (iI 1)), (9, .int (iI rest)), (0, .ref (w 0)), (1, .int (iI net)), (2, .int (iI k)), (3, .int (iI L)), (7, .int (iI th))]) hx hb d_M_step_204 hl (k := 9) rfl (iI_add _ _) (by decide) rfl (fun ls hl => ?_)
                          refine lv_goto (tgt := 72) hx hb d_M_step_207 (by decide) ?_
                          exact ih72 _ _ _ th (jx + 1) (by (try have := rcn it); (try have := rcn it); omega) (by first | exact rfa2 | exact rgfa) hth ⟨by omega, by omega, by omega, fun q => by omega⟩ (by rw [show jx + 1 - 24 * it = (jx - 24 * it) + 1 by omega]; first | (rw [cI_s1 (by omega) hyf]; omega) | (rw [cI_s0 (by omega) hnf]; omega)) (by rw [show jx + 1 - 24 * it = (jx - 24 * it) + 1 by omega]; first | exact hT2 | exact TLD_skip (by omega) hnf hT) H _ (hP.sub [0, 5, 6, 1, 2, 3, 4] rfl) (hD.sub [0, 5, 6, 1, 2, 3, 4] (by decide) rfl) hS ls (lv_sub hl [5, 6, 7, 8, 1, 2, 9, 0] rfl)
                      · skip
                        have hT2 := TLD_hit (nt := pnt) (rt := prt) (it := it) (k := k) (x := jx) (by omega) hyf (by omega) (by omega)
                        refine lv_bipush (v := iI 64) hx hb d_M_step_164 (by decide +kernel) ?_
                        refine lv_aload_n hx hb d_M_step_166 rfl (lv_at hl 2 rfl) ?_
                        refine va_get (D := G) (ci := 4) (v := .ref (w 7)) (C := R_M) (T := T_M) (N := 16) hx hb hg iw_M hown hE.1 hP 1 rfl rfl 11 (by decide) (hg _ fl_M_33) (fun _ h9 => h9) rfl d_M_step_167 ?_
                        refine lv_iload hx hb d_M_step_170 (lv_at hl 9 rfl) ?_
                        refine rv_iald hx hb hE hP 4 rfl (i := jx) (by (try have := rcn it); omega) (by (try have := rcn it); omega) (by decide) d_M_step_172 ?_
                        refine rv_imul hx hb d_M_step_173 ?_
                        refine lv_aload_n hx hb d_M_step_174 rfl (lv_at hl 2 rfl) ?_
                        refine va_get (D := G) (ci := 4) (v := .ref (w 6)) (C := R_M) (T := T_M) (N := 16) hx hb hg iw_M hown hE.1 hP 1 rfl rfl 10 (by decide) (hg _ fl_M_30) (fun _ h9 => h9) rfl d_M_step_175 ?_
                        refine lv_iload hx hb d_M_step_178 (lv_at hl 9 rfl) ?_
                        refine rv_iald hx hb hE hP 3 rfl (i := jx) (by (try have := rcn it); omega) (by (try have := rcn it); omega) (by decide) d_M_step_180 ?_
                        refine rv_iadd hx hb d_M_step_181 ?_
                        refine lv_goto (tgt := 187) hx hb d_M_step_182 (by decide) ?_
                        refine lv_istore (lv' := [(6, .int (iI ((64 * (pnt jx)) + (prt jx)))), (10, .int (iI 1)), (9, .int (iI rest)), (0, .ref (w 0)), (1, .int (iI net)), (2, .int (iI k)), (3, .int (iI L)), (5, .int (iI sn)), (7, .int (iI th)), (8, .int (iI jx))]) hx hb d_M_step_187 hl (by decide) rfl (fun ls hl => ?_)
                        refine lv_iload hx hb d_M_step_189 (lv_at hl 7 rfl) ?_
                        refine lv_iload hx hb d_M_step_191 (lv_at hl 1 rfl) ?_
                        refine rv_if_eq (tgt := 200) hx hb d_M_step_193 (by decide) ⟨by decide, by decide⟩ (fun c_32 => ?_) (fun c_32 => ?_)
                        · exact absurd c_32 (by decide)
                        · skip
                          refine lv_iconst (v := iI 1) hx hb d_M_step_196 rfl ?_
                          refine lv_goto (tgt := 201) hx hb d_M_step_197 (by decide) ?_
                          refine rv_iadd hx hb d_M_step_201 ?_
                          refine lv_istore (lv' := [(5, .int (iI (sn + 1))), (6, .int (iI ((64 * (pnt jx)) + (prt jx)))), (10, .int (iI 1)), (9, .int (iI rest)), (0, .ref (w 0)), (1, .int (iI net)), (2, .int (iI k)), (3, .int (iI L)), (7, .int (iI th)), (8, .int (iI jx))]) hx hb d_M_step_202 hl (by decide) rfl (fun ls hl => ?_)
                          refine lv_iinc (v := iI (jx + 1)) (lv' := [(8, .int (iI (jx + 1))), (5, .int (iI (sn + 1))), (6, .int (iI ((64 * (pnt jx)) + (prt jx)))), (10, .int (iI 1)), (9, .int (iI rest)), (0, .ref (w 0)), (1, .int (iI net)), (2, .int (iI k)), (3, .int (iI L)), (7, .int (iI th))]) hx hb d_M_step_204 hl (k := 9) rfl (iI_add _ _) (by decide) rfl (fun ls hl => ?_)
                          refine lv_goto (tgt := 72) hx hb d_M_step_207 (by decide) ?_
                          exact ih72 _ _ _ th (jx + 1) (by (try have := rcn it); (try have := rcn it); omega) (by first | exact rfa2 | exact rgfa) hth ⟨by omega, by omega, by omega, fun q => by omega⟩ (by rw [show jx + 1 - 24 * it = (jx - 24 * it) + 1 by omega]; first | (rw [cI_s1 (by omega) hyf]; omega) | (rw [cI_s0 (by omega) hnf]; omega)) (by rw [show jx + 1 - 24 * it = (jx - 24 * it) + 1 by omega]; first | exact hT2 | exact TLD_skip (by omega) hnf hT) H _ (hP.sub [0, 5, 6, 1, 2, 3, 4] rfl) (hD.sub [0, 5, 6, 1, 2, 3, 4] (by decide) rfl) hS ls (lv_sub hl [5, 6, 7, 8, 1, 2, 9, 0] rfl)
      exact L72 ((24 * it + pcn it - (24 * it) : Int).toNat + 1) fa1 0 (-1) _ (24 * it) (Nat.lt_succ_self _) rfa1 hthr ⟨by omega, by have := rcn it; omega, by omega, fun _ => rfl⟩ (by rw [show 24 * it - 24 * it = 0 by omega]; rfl) (by rw [show 24 * it - 24 * it = 0 by omega]; exact TLD_0) H _ (hP.sub [0, 1, 2, 3, 4, 5, 6] rfl) (hD.sub [0, 1, 2, 3, 4, 5, 6] (by decide) rfl) hS ls (lv_sub hl [6, 7, 8, 5, 3, 2, 1, 0] rfl)
    · skip
      refine lv_aload_n hx hb d_M_step_45 rfl (lv_at hl 4 rfl) ?_
      refine va_get (D := G) (ci := 4) (v := .ref (w 8)) (C := R_M) (T := T_M) (N := 16) hx hb hg iw_M hown hE.1 hP 3 rfl rfl 12 (by decide) (hg _ fl_M_36) (fun _ h9 => h9) rfl d_M_step_46 ?_
      refine lv_iload hx hb d_M_step_49 (lv_at hl 2 rfl) ?_
      refine rv_iald hx hb hE hP 1 rfl (i := ow) (by omega) (by omega) (by decide) d_M_step_51 ?_
      refine lv_iload_n hx hb d_M_step_52 rfl (lv_at hl 3 rfl) ?_
      refine rv_icmp_ne (tgt := 60) hx hb d_M_step_53 (by decide) (by (try have := rco ow); constructor <;> omega) (by constructor <;> omega) (fun c_33 => ?_) (fun c_33 => ?_)
      · skip
        have hthr : ((0 : Int) = 1 ∧ (L = -1 ∨ ps pcn prt pnt pco fa1 it net L)) ∨ ((0 : Int) = 0 ∧ ¬ (L = -1 ∨ ps pcn prt pnt pco fa1 it net L)) := Or.inr ⟨rfl, fun q => by rcases q with q | q; omega; have := (hpo q).2; omega⟩
        refine lv_iconst (v := iI 0) hx hb d_M_step_60 rfl ?_
        refine lv_istore (lv' := [(7, .int (iI 0)), (6, .int (iI ((-1)))), (5, .int (iI 0)), (4, .int (iI ow)), (3, .int (iI L)), (0, .ref (w 0)), (1, .int (iI net)), (2, .int (iI k))]) hx hb d_M_step_61 hl (by decide) rfl (fun ls hl => ?_)
        refine lv_bipush (v := iI 24) hx hb d_M_step_63 (by decide +kernel) ?_
        refine lv_aload_n hx hb d_M_step_65 rfl (lv_at hl 5 rfl) ?_
        refine va_get (D := G) (ci := 4) (v := .int (iI it)) (C := R_M) (T := T_M) (N := 16) hx hb hg iw_M hown hE.1 hP 3 rfl rfl 0 (by decide) (hg _ fl_M_45) (fun _ h9 => h9) rfl d_M_step_66 ?_
        refine rv_imul hx hb d_M_step_69 ?_
        refine lv_istore (lv' := [(8, .int (iI (24 * it))), (7, .int (iI 0)), (6, .int (iI ((-1)))), (5, .int (iI 0)), (4, .int (iI ow)), (3, .int (iI L)), (0, .ref (w 0)), (1, .int (iI net)), (2, .int (iI k))]) hx hb d_M_step_70 hl (by decide) rfl (fun ls hl => ?_)
        have L72 : ∀ n9 : Nat, ∀ (gfa : Int → Int) (sn : Int) (tl : Int) (th : Int) (jx : Int), (24 * it + pcn it - jx : Int).toNat < n9 → (∀ i : Int, -1 ≤ gfa i ∧ gfa i ≤ 64000) → ((th = 1 ∧ (L = -1 ∨ ps pcn prt pnt pco fa1 it net L)) ∨ (th = 0 ∧ ¬ (L = -1 ∨ ps pcn prt pnt pco fa1 it net L))) → (24 * it ≤ jx ∧ jx ≤ 24 * it + pcn it ∧ (th = 0 ∨ th = 1) ∧ (th = 1 → jx = 24 * it)) → (sn = cI (fsF pcn prt pnt pco it net L) (jx - 24 * it)) → (TLD (fsF pcn prt pnt pco it net L) pnt prt it k (jx - 24 * it) tl) → ∀ (H : Heap) (locs : List Loc), va_P G cls0 [(w 9, .inl (z.2.1, 1536, .inl (aI gus))), (w 8, .inl (z.1, 1584, .inl (aI pco))), (w 10, .inl (z.1, 64, .inl (aI gfa))), (w 0, .inr (4, [.int (iI it), .int (iI cd), .int (iI now), .ref (w 1), .ref (w 2), .int (iI gr), .int (iI md), .ref (w 3), .ref (w 4), .ref (w 5), .ref (w 6), .ref (w 7), .ref (w 8), .int (iI dO), .ref (w 9), .ref (w 10)])), (w 5, .inl (z.1, 66, .inl (aI pcn))), (w 6, .inl (z.1, 1584, .inl (aI prt))), (w 7, .inl (z.1, 1584, .inl (aI pnt)))] H → va_D A [(w 9, .inl (z.2.1, 1536, .inl (aI gus))), (w 8, .inl (z.1, 1584, .inl (aI pco))), (w 10, .inl (z.1, 64, .inl (aI gfa))), (w 0, .inr (4, [.int (iI it), .int (iI cd), .int (iI now), .ref (w 1), .ref (w 2), .int (iI gr), .int (iI md), .ref (w 3), .ref (w 4), .ref (w 5), .ref (w 6), .ref (w 7), .ref (w 8), .int (iI dO), .ref (w 9), .ref (w 10)])), (w 5, .inl (z.1, 66, .inl (aI pcn))), (w 6, .inl (z.1, 1584, .inl (aI prt))), (w 7, .inl (z.1, 1584, .inl (aI pnt)))] → va_S A s.heap H locs → ∀ ls : Array Slot, lv_has ls 11 [(0, .ref (w 0)), (1, .int (iI net)), (2, .int (iI k)), (3, .int (iI L)), (5, .int (iI sn)), (6, .int (iI tl)), (7, .int (iI th)), (8, .int (iI jx))] → W p l e (rmD 2) s m [.ref (w 0), .int (iI net), .int (iI k)].toArray below meth c H locs 0 0 (Zi below [.ref (w 0), .int (iI net), .int (iI k)].toArray s (rmD 2) G A (fun r9 u9 => ∃ (rv : Int) (gus : Int → Int) (gfa : Int → Int), u9 = [(w 0, .inr (4, [.int (iI it), .int (iI cd), .int (iI now), .ref (w 1), .ref (w 2), .int (iI gr), .int (iI md), .ref (w 3), .ref (w 4), .ref (w 5), .ref (w 6), .ref (w 7), .ref (w 8), .int (iI dO), .ref (w 9), .ref (w 10)])), (w 5, .inl (z.1, 66, .inl (aI pcn))), (w 6, .inl (z.1, 1584, .inl (aI prt))), (w 7, .inl (z.1, 1584, .inl (aI pnt))), (w 8, .inl (z.1, 1584, .inl (aI pco))), (w 9, .inl (z.2.1, 1536, .inl (aI gus))), (w 10, .inl (z.1, 64, .inl (aI gfa)))] ∧ r9 = iI rv ∧ (∀ i : Int, 0 ≤ gus i ∧ gus i ≤ 1) ∧ (∀ i : Int, -1 ≤ gfa i ∧ gfa i ≤ 64000) ∧ (-1 ≤ rv ∧ rv ≤ 4095) ∧ (∃ (fa1 : Int → Int) (L : Int), isD (eg pcn prt pnt pco) it fa1 ∧ LST pcn prt pnt pco fa1 net 64 L ∧ STP pcn prt pnt pco fa1 it net k L rv))) (F0 m 72 ls []) := by
          intro n9
          induction n9 with
          | zero => intro gfa sn tl th jx hmu; exact absurd hmu (Nat.not_lt_zero _)
          | succ n9 ih72 =>
            intro gfa sn tl th jx hmu rgfa hth he hc hT H locs hP hD hS ls hl
            refine lv_iload hx hb d_M_step_72 (lv_at hl 7 rfl) ?_
            refine lv_bipush (v := iI 24) hx hb d_M_step_74 (by decide +kernel) ?_
            refine lv_aload_n hx hb d_M_step_76 rfl (lv_at hl 0 rfl) ?_
            refine va_get (D := G) (ci := 4) (v := .int (iI it)) (C := R_M) (T := T_M) (N := 16) hx hb hg iw_M hown hE.1 hP 3 rfl rfl 0 (by decide) (hg _ fl_M_45) (fun _ h9 => h9) rfl d_M_step_77 ?_
            refine rv_imul hx hb d_M_step_80 ?_
            refine lv_aload_n hx hb d_M_step_81 rfl (lv_at hl 0 rfl) ?_
            refine va_get (D := G) (ci := 4) (v := .ref (w 5)) (C := R_M) (T := T_M) (N := 16) hx hb hg iw_M hown hE.1 hP 3 rfl rfl 9 (by decide) (hg _ fl_M_27) (fun _ h9 => h9) rfl d_M_step_82 ?_
            refine lv_aload_n hx hb d_M_step_85 rfl (lv_at hl 0 rfl) ?_
            refine va_get (D := G) (ci := 4) (v := .int (iI it)) (C := R_M) (T := T_M) (N := 16) hx hb hg iw_M hown hE.1 hP 3 rfl rfl 0 (by decide) (hg _ fl_M_45) (fun _ h9 => h9) rfl d_M_step_86 ?_
            refine rv_iald hx hb hE hP 4 rfl (i := it) (by omega) (by omega) (by decide) d_M_step_89 ?_
            refine rv_iadd hx hb d_M_step_90 ?_
            refine rv_icmp_ge (tgt := 210) hx hb d_M_step_91 (by decide) (by (try have := rcn it); constructor <;> omega) (by (try have := rcn it); (try have := rcn it); constructor <;> omega) (fun c_34 => ?_) (fun c_34 => ?_)
            · skip
              have hxe : (jx - 24 * it) = pcn it ∨ th = 1 := by have := rcn it; omega
              refine lv_iload_n hx hb d_M_step_210 rfl (lv_at hl 2 rfl) ?_
              refine rv_if_ge (tgt := 219) hx hb d_M_step_211 (by decide) (by constructor <;> omega) (fun c_35 => ?_) (fun c_35 => ?_)
              · skip
                have hend := STP_2 (k := k) hth (fun q => by have := he.2.2.2 q; omega) hxe hT (by omega)
                refine lv_iload hx hb d_M_step_219 (lv_at hl 5 rfl) ?_
                have hP9 : va_P G cls0 [(w 0, .inr (4, [.int (iI it), .int (iI cd), .int (iI now), .ref (w 1), .ref (w 2), .int (iI gr), .int (iI md), .ref (w 3), .ref (w 4), .ref (w 5), .ref (w 6), .ref (w 7), .ref (w 8), .int (iI dO), .ref (w 9), .ref (w 10)])), (w 5, .inl (z.1, 66, .inl (aI pcn))), (w 6, .inl (z.1, 1584, .inl (aI prt))), (w 7, .inl (z.1, 1584, .inl (aI pnt))), (w 8, .inl (z.1, 1584, .inl (aI pco))), (w 9, .inl (z.2.1, 1536, .inl (aI gus))), (w 10, .inl (z.1, 64, .inl (aI gfa)))] H := hP.sub [3, 4, 5, 6, 1, 0, 2] rfl
                have hD9 : va_D A [(w 0, .inr (4, [.int (iI it), .int (iI cd), .int (iI now), .ref (w 1), .ref (w 2), .int (iI gr), .int (iI md), .ref (w 3), .ref (w 4), .ref (w 5), .ref (w 6), .ref (w 7), .ref (w 8), .int (iI dO), .ref (w 9), .ref (w 10)])), (w 5, .inl (z.1, 66, .inl (aI pcn))), (w 6, .inl (z.1, 1584, .inl (aI prt))), (w 7, .inl (z.1, 1584, .inl (aI pnt))), (w 8, .inl (z.1, 1584, .inl (aI pco))), (w 9, .inl (z.2.1, 1536, .inl (aI gus))), (w 10, .inl (z.1, 64, .inl (aI gfa)))] := hD.sub [3, 4, 5, 6, 1, 0, 2] (by decide) rfl
                refine rv_iret hx hb hRt (nar_int _) hlocks (Nat.le_of_ble_eq_true rfl) (Nat.le_of_ble_eq_true rfl) hP9 hD9 hS d_M_step_221 ?_
                exact ⟨tl, gus, gfa, rfl, rfl, rgus, rgfa, (by have := TLD_b rnt (fun b q => by have := usb_t hAK (fsF_e q).1; omega) hT; have := cI_b (fsF pcn prt pnt pco it net L) (show 0 ≤ (jx - 24 * it) by omega); have := rcn it; omega), ⟨fa1, L, fD1, fL, hend⟩⟩
              · skip
                have hend := STP_1 (k := k) hth (fun q => by have := he.2.2.2 q; omega) hxe hc (by omega)
                refine lv_iload hx hb d_M_step_214 (lv_at hl 4 rfl) ?_
                refine lv_goto (tgt := 221) hx hb d_M_step_216 (by decide) ?_
                have hP9 : va_P G cls0 [(w 0, .inr (4, [.int (iI it), .int (iI cd), .int (iI now), .ref (w 1), .ref (w 2), .int (iI gr), .int (iI md), .ref (w 3), .ref (w 4), .ref (w 5), .ref (w 6), .ref (w 7), .ref (w 8), .int (iI dO), .ref (w 9), .ref (w 10)])), (w 5, .inl (z.1, 66, .inl (aI pcn))), (w 6, .inl (z.1, 1584, .inl (aI prt))), (w 7, .inl (z.1, 1584, .inl (aI pnt))), (w 8, .inl (z.1, 1584, .inl (aI pco))), (w 9, .inl (z.2.1, 1536, .inl (aI gus))), (w 10, .inl (z.1, 64, .inl (aI gfa)))] H := hP.sub [3, 4, 5, 6, 1, 0, 2] rfl
                have hD9 : va_D A [(w 0, .inr (4, [.int (iI it), .int (iI cd), .int (iI now), .ref (w 1), .ref (w 2), .int (iI gr), .int (iI md), .ref (w 3), .ref (w 4), .ref (w 5), .ref (w 6), .ref (w 7), .ref (w 8), .int (iI dO), .ref (w 9), .ref (w 10)])), (w 5, .inl (z.1, 66, .inl (aI pcn))), (w 6, .inl (z.1, 1584, .inl (aI prt))), (w 7, .inl (z.1, 1584, .inl (aI pnt))), (w 8, .inl (z.1, 1584, .inl (aI pco))), (w 9, .inl (z.2.1, 1536, .inl (aI gus))), (w 10, .inl (z.1, 64, .inl (aI gfa)))] := hD.sub [3, 4, 5, 6, 1, 0, 2] (by decide) rfl
                refine rv_iret hx hb hRt (nar_int _) hlocks (Nat.le_of_ble_eq_true rfl) (Nat.le_of_ble_eq_true rfl) hP9 hD9 hS d_M_step_221 ?_
                exact ⟨sn, gus, gfa, rfl, rfl, rgus, rgfa, (by have := TLD_b rnt (fun b q => by have := usb_t hAK (fsF_e q).1; omega) hT; have := cI_b (fsF pcn prt pnt pco it net L) (show 0 ≤ (jx - 24 * it) by omega); have := rcn it; omega), ⟨fa1, L, fD1, fL, hend⟩⟩
            · skip
              refine lv_iload hx hb d_M_step_94 (lv_at hl 6 rfl) ?_
              refine rv_if_ne (tgt := 210) hx hb d_M_step_96 (by decide) (by constructor <;> omega) (fun c_36 => ?_) (fun c_36 => ?_)
              · skip
                have hxe : (jx - 24 * it) = pcn it ∨ th = 1 := by omega
                refine lv_iload_n hx hb d_M_step_210 rfl (lv_at hl 2 rfl) ?_
                refine rv_if_ge (tgt := 219) hx hb d_M_step_211 (by decide) (by constructor <;> omega) (fun c_37 => ?_) (fun c_37 => ?_)
                · skip
                  have hend := STP_2 (k := k) hth (fun q => by have := he.2.2.2 q; omega) hxe hT (by omega)
                  refine lv_iload hx hb d_M_step_219 (lv_at hl 5 rfl) ?_
                  have hP9 : va_P G cls0 [(w 0, .inr (4, [.int (iI it), .int (iI cd), .int (iI now), .ref (w 1), .ref (w 2), .int (iI gr), .int (iI md), .ref (w 3), .ref (w 4), .ref (w 5), .ref (w 6), .ref (w 7), .ref (w 8), .int (iI dO), .ref (w 9), .ref (w 10)])), (w 5, .inl (z.1, 66, .inl (aI pcn))), (w 6, .inl (z.1, 1584, .inl (aI prt))), (w 7, .inl (z.1, 1584, .inl (aI pnt))), (w 8, .inl (z.1, 1584, .inl (aI pco))), (w 9, .inl (z.2.1, 1536, .inl (aI gus))), (w 10, .inl (z.1, 64, .inl (aI gfa)))] H := hP.sub [3, 4, 5, 6, 1, 0, 2] rfl
                  have hD9 : va_D A [(w 0, .inr (4, [.int (iI it), .int (iI cd), .int (iI now), .ref (w 1), .ref (w 2), .int (iI gr), .int (iI md), .ref (w 3), .ref (w 4), .ref (w 5), .ref (w 6), .ref (w 7), .ref (w 8), .int (iI dO), .ref (w 9), .ref (w 10)])), (w 5, .inl (z.1, 66, .inl (aI pcn))), (w 6, .inl (z.1, 1584, .inl (aI prt))), (w 7, .inl (z.1, 1584, .inl (aI pnt))), (w 8, .inl (z.1, 1584, .inl (aI pco))), (w 9, .inl (z.2.1, 1536, .inl (aI gus))), (w 10, .inl (z.1, 64, .inl (aI gfa)))] := hD.sub [3, 4, 5, 6, 1, 0, 2] (by decide) rfl
                  refine rv_iret hx hb hRt (nar_int _) hlocks (Nat.le_of_ble_eq_true rfl) (Nat.le_of_ble_eq_true rfl) hP9 hD9 hS d_M_step_221 ?_
                  exact ⟨tl, gus, gfa, rfl, rfl, rgus, rgfa, (by have := TLD_b rnt (fun b q => by have := usb_t hAK (fsF_e q).1; omega) hT; have := cI_b (fsF pcn prt pnt pco it net L) (show 0 ≤ (jx - 24 * it) by omega); have := rcn it; omega), ⟨fa1, L, fD1, fL, hend⟩⟩
                · skip
                  have hend := STP_1 (k := k) hth (fun q => by have := he.2.2.2 q; omega) hxe hc (by omega)
                  refine lv_iload hx hb d_M_step_214 (lv_at hl 4 rfl) ?_
                  refine lv_goto (tgt := 221) hx hb d_M_step_216 (by decide) ?_
                  have hP9 : va_P G cls0 [(w 0, .inr (4, [.int (iI it), .int (iI cd), .int (iI now), .ref (w 1), .ref (w 2), .int (iI gr), .int (iI md), .ref (w 3), .ref (w 4), .ref (w 5), .ref (w 6), .ref (w 7), .ref (w 8), .int (iI dO), .ref (w 9), .ref (w 10)])), (w 5, .inl (z.1, 66, .inl (aI pcn))), (w 6, .inl (z.1, 1584, .inl (aI prt))), (w 7, .inl (z.1, 1584, .inl (aI pnt))), (w 8, .inl (z.1, 1584, .inl (aI pco))), (w 9, .inl (z.2.1, 1536, .inl (aI gus))), (w 10, .inl (z.1, 64, .inl (aI gfa)))] H := hP.sub [3, 4, 5, 6, 1, 0, 2] rfl
                  have hD9 : va_D A [(w 0, .inr (4, [.int (iI it), .int (iI cd), .int (iI now), .ref (w 1), .ref (w 2), .int (iI gr), .int (iI md), .ref (w 3), .ref (w 4), .ref (w 5), .ref (w 6), .ref (w 7), .ref (w 8), .int (iI dO), .ref (w 9), .ref (w 10)])), (w 5, .inl (z.1, 66, .inl (aI pcn))), (w 6, .inl (z.1, 1584, .inl (aI prt))), (w 7, .inl (z.1, 1584, .inl (aI pnt))), (w 8, .inl (z.1, 1584, .inl (aI pco))), (w 9, .inl (z.2.1, 1536, .inl (aI gus))), (w 10, .inl (z.1, 64, .inl (aI gfa)))] := hD.sub [3, 4, 5, 6, 1, 0, 2] (by decide) rfl
                  refine rv_iret hx hb hRt (nar_int _) hlocks (Nat.le_of_ble_eq_true rfl) (Nat.le_of_ble_eq_true rfl) hP9 hD9 hS d_M_step_221 ?_
                  exact ⟨sn, gus, gfa, rfl, rfl, rgus, rgfa, (by have := TLD_b rnt (fun b q => by have := usb_t hAK (fsF_e q).1; omega) hT; have := cI_b (fsF pcn prt pnt pco it net L) (show 0 ≤ (jx - 24 * it) by omega); have := rcn it; omega), ⟨fa1, L, fD1, fL, hend⟩⟩
              · skip
                have hth0 : th = 0 := by omega
                have hckr := fck it (jx - 24 * it) hit.1 (by omega) (by omega) (by omega) (Or.inl (by omega))
                rw [show it * 24 + (jx - 24 * it) = jx by omega] at hckr
                refine lv_aload_n hx hb d_M_step_99 rfl (lv_at hl 0 rfl) ?_
                refine va_get (D := G) (ci := 4) (v := .ref (w 9)) (C := R_M) (T := T_M) (N := 16) hx hb hg iw_M hown hE.1 hP 3 rfl rfl 14 (by decide) (hg _ fl_M_39) (fun _ h9 => h9) rfl d_M_step_100 ?_
                refine lv_iload hx hb d_M_step_103 (lv_at hl 7 rfl) ?_
                refine rv_zald hx hb hE hP 0 rfl (i := jx) (by (try have := rcn it); omega) (by (try have := rcn it); omega) (by decide) d_M_step_105 ?_
                refine rv_if_eq (tgt := 204) hx hb d_M_step_106 (by decide) (by (try have := rgus jx); constructor <;> omega) (fun c_38 => ?_) (fun c_38 => ?_)
                · skip
                  have hnf : (fsF pcn prt pnt pco it net L) (jx - 24 * it) = 0 := fsF_0 (fun q => by rcases hckr with ⟨w, -⟩ | ⟨-, w⟩; omega; exact w q.1)
                  clear hckr
                  have hT2 := TLD_skip (by omega) hnf hT
                  have hc2 : sn = cI (fsF pcn prt pnt pco it net L) ((jx - 24 * it) + 1) := by rw [cI_s0 (by omega) hnf]; exact hc
                  refine lv_iinc (v := iI (jx + 1)) (lv' := [(8, .int (iI (jx + 1))), (0, .ref (w 0)), (1, .int (iI net)), (2, .int (iI k)), (3, .int (iI L)), (5, .int (iI sn)), (6, .int (iI tl)), (7, .int (iI th))]) hx hb d_M_step_204 hl (k := 7) rfl (iI_add _ _) (by decide) rfl (fun ls hl => ?_)
                  refine lv_goto (tgt := 72) hx hb d_M_step_207 (by decide) ?_
                  exact ih72 _ _ _ th (jx + 1) (by (try have := rcn it); (try have := rcn it); omega) (by first | exact rfa2 | exact rgfa) hth ⟨by omega, by omega, by omega, fun q => by omega⟩ (by rw [show jx + 1 - 24 * it = (jx - 24 * it) + 1 by omega]; first | (rw [cI_s1 (by omega) hyf]; omega) | (rw [cI_s0 (by omega) hnf]; omega)) (by rw [show jx + 1 - 24 * it = (jx - 24 * it) + 1 by omega]; first | exact hT2 | exact TLD_skip (by omega) hnf hT) H _ (hP.sub [0, 1, 2, 3, 4, 5, 6] rfl) (hD.sub [0, 1, 2, 3, 4, 5, 6] (by decide) rfl) hS ls (lv_sub hl [1, 2, 3, 4, 5, 6, 7, 0] rfl)
                · skip
                  have hu : usb pcn prt pnt it (jx - 24 * it) := by rcases hckr with ⟨-, w⟩ | ⟨w, -⟩; exact w; omega
                  clear hckr
                  have hto := usb_t hAK hu
                  rw [show it * 24 + (jx - 24 * it) = jx by omega] at hto
                  refine lv_aload_n hx hb d_M_step_109 rfl (lv_at hl 0 rfl) ?_
                  refine lv_aload_n hx hb d_M_step_110 rfl (lv_at hl 0 rfl) ?_
                  refine va_get (D := G) (ci := 4) (v := .ref (w 6)) (C := R_M) (T := T_M) (N := 16) hx hb hg iw_M hown hE.1 hP 3 rfl rfl 10 (by decide) (hg _ fl_M_30) (fun _ h9 => h9) rfl d_M_step_111 ?_
                  refine lv_iload hx hb d_M_step_114 (lv_at hl 7 rfl) ?_
                  refine rv_iald hx hb hE hP 5 rfl (i := jx) (by (try have := rcn it); omega) (by (try have := rcn it); omega) (by decide) d_M_step_116 ?_
                  refine qV_v (As := [.int (iI (prt jx))]) (rest := []) (wr := []) hx hb hml hown hg hE hA hS hP hD (k_M_spread l G z w it cd now gr md dO pcn prt pnt pco gus gfa (prt jx) (by assumption) (by assumption) (by assumption) (by assumption) (by assumption) (by assumption) hAK fck (by (try have := rrt jx); omega)) [3, 4, 5, 6, 1, 0, 2] [] rfl rfl (by decide) (by decide) (by decide) (q0 := 0) rfl rfl ml_M_95 im_M_spread se_M_spread in_M co_M_spread ok_M_spread ⟨Nat.le_of_ble_eq_true rfl, Nat.le_of_ble_eq_true rfl⟩ hl.1 rfl (Nat.le_of_ble_eq_true rfl) d_M_step_117 ⟨Nat.le_of_ble_eq_true rfl, Nat.le_of_ble_eq_true rfl⟩ (fun u9 H locs hw hP hD hS => ?_)
                  obtain ⟨fa2, rfl, rfa2, fD2⟩ := hw
                  have hP : va_P G cls0 [(w 0, .inr (4, [.int (iI it), .int (iI cd), .int (iI now), .ref (w 1), .ref (w 2), .int (iI gr), .int (iI md), .ref (w 3), .ref (w 4), .ref (w 5), .ref (w 6), .ref (w 7), .ref (w 8), .int (iI dO), .ref (w 9), .ref (w 10)])), (w 5, .inl (z.1, 66, .inl (aI pcn))), (w 6, .inl (z.1, 1584, .inl (aI prt))), (w 7, .inl (z.1, 1584, .inl (aI pnt))), (w 8, .inl (z.1, 1584, .inl (aI pco))), (w 9, .inl (z.2.1, 1536, .inl (aI gus))), (w 10, .inl (z.1, 64, .inl (aI fa2)))] H := hP
                  have hD : va_D A [(w 0, .inr (4, [.int (iI it), .int (iI cd), .int (iI now), .ref (w 1), .ref (w 2), .int (iI gr), .int (iI md), .ref (w 3), .ref (w 4), .ref (w 5), .ref (w 6), .ref (w 7), .ref (w 8), .int (iI dO), .ref (w 9), .ref (w 10)])), (w 5, .inl (z.1, 66, .inl (aI pcn))), (w 6, .inl (z.1, 1584, .inl (aI prt))), (w 7, .inl (z.1, 1584, .inl (aI pnt))), (w 8, .inl (z.1, 1584, .inl (aI pco))), (w 9, .inl (z.2.1, 1536, .inl (aI gus))), (w 10, .inl (z.1, 64, .inl (aI fa2)))] := hD
                  refine lv_aload_n hx hb d_M_step_120 rfl (lv_at hl 0 rfl) ?_
                  refine lv_iload_n hx hb d_M_step_121 rfl (lv_at hl 1 rfl) ?_
                  refine qV_i (As := [.int (iI net)]) (rest := []) (wr := [(w 9, .inl (z.2.1, 1536, .inl (aI gus)))]) hx hb hml hown hg hE hA hS hP hD (k_M_reach l G z w it cd now gr md dO pcn prt pnt pco fa2 net (by assumption) (by assumption) (by assumption) (by assumption) (by assumption) (by assumption) (by assumption) (by omega)) [0, 1, 2, 3, 4, 6] [5] rfl rfl (by decide) (by decide) (by decide) (q0 := 0) rfl rfl ml_M_99 im_M_reach se_M_reach in_M co_M_reach ok_M_reach ⟨Nat.le_of_ble_eq_true rfl, Nat.le_of_ble_eq_true rfl⟩ hl.1 rfl (Nat.le_of_ble_eq_true rfl) d_M_step_122 ⟨Nat.le_of_ble_eq_true rfl, Nat.le_of_ble_eq_true rfl⟩ (fun r9 u9 H locs hw hP hD hS => ?_)
                  obtain ⟨rest, rfl, rfl, frv, fR⟩ := hw
                  have hP : va_P G cls0 [(w 9, .inl (z.2.1, 1536, .inl (aI gus))), (w 0, .inr (4, [.int (iI it), .int (iI cd), .int (iI now), .ref (w 1), .ref (w 2), .int (iI gr), .int (iI md), .ref (w 3), .ref (w 4), .ref (w 5), .ref (w 6), .ref (w 7), .ref (w 8), .int (iI dO), .ref (w 9), .ref (w 10)])), (w 5, .inl (z.1, 66, .inl (aI pcn))), (w 6, .inl (z.1, 1584, .inl (aI prt))), (w 7, .inl (z.1, 1584, .inl (aI pnt))), (w 8, .inl (z.1, 1584, .inl (aI pco))), (w 10, .inl (z.1, 64, .inl (aI fa2)))] H := hP
                  have hD : va_D A [(w 9, .inl (z.2.1, 1536, .inl (aI gus))), (w 0, .inr (4, [.int (iI it), .int (iI cd), .int (iI now), .ref (w 1), .ref (w 2), .int (iI gr), .int (iI md), .ref (w 3), .ref (w 4), .ref (w 5), .ref (w 6), .ref (w 7), .ref (w 8), .int (iI dO), .ref (w 9), .ref (w 10)])), (w 5, .inl (z.1, 66, .inl (aI pcn))), (w 6, .inl (z.1, 1584, .inl (aI prt))), (w 7, .inl (z.1, 1584, .inl (aI pnt))), (w 8, .inl (z.1, 1584, .inl (aI pco))), (w 10, .inl (z.1, 64, .inl (aI fa2)))] := hD
                  have hiff := FST_model (b := (jx - 24 * it)) fD1 fL hu (by rw [show it * 24 + (jx - 24 * it) = jx by omega]; exact fD2) fR
                  rw [show it * 24 + (jx - 24 * it) = jx by omega] at hiff
                  refine lv_istore (lv' := [(9, .int (iI rest)), (0, .ref (w 0)), (1, .int (iI net)), (2, .int (iI k)), (3, .int (iI L)), (5, .int (iI sn)), (6, .int (iI tl)), (7, .int (iI th)), (8, .int (iI jx))]) hx hb d_M_step_125 hl (by decide) rfl (fun ls hl => ?_)
                  refine lv_iload hx hb d_M_step_127 (lv_at hl 0 rfl) ?_
                  refine rv_if_lt (tgt := 150) hx hb d_M_step_129 (by decide) (by constructor <;> omega) (fun c_39 => ?_) (fun c_39 => ?_)
                  · skip
                    have hnf : (fsF pcn prt pnt pco it net L) (jx - 24 * it) = 0 := fsF_0 (fun q => by have := hiff.2 q; omega)
                    refine lv_iconst (v := iI 0) hx hb d_M_step_150 rfl ?_
                    refine lv_istore (lv' := [(10, .int (iI 0)), (9, .int (iI rest)), (0, .ref (w 0)), (1, .int (iI net)), (2, .int (iI k)), (3, .int (iI L)), (5, .int (iI sn)), (6, .int (iI tl)), (7, .int (iI th)), (8, .int (iI jx))]) hx hb d_M_step_151 hl (by decide) rfl (fun ls hl => ?_)
                    refine lv_iload hx hb d_M_step_153 (lv_at hl 0 rfl) ?_
                    refine rv_if_eq (tgt := 185) hx hb d_M_step_155 (by decide) ⟨by decide, by decide⟩ (fun c_40 => ?_) (fun c_40 => ?_)
                    · skip
                      refine lv_iload hx hb d_M_step_185 (lv_at hl 7 rfl) ?_
                      refine lv_istore (lv' := [(6, .int (iI tl)), (10, .int (iI 0)), (9, .int (iI rest)), (0, .ref (w 0)), (1, .int (iI net)), (2, .int (iI k)), (3, .int (iI L)), (5, .int (iI sn)), (7, .int (iI th)), (8, .int (iI jx))]) hx hb d_M_step_187 hl (by decide) rfl (fun ls hl => ?_)
                      refine lv_iload hx hb d_M_step_189 (lv_at hl 7 rfl) ?_
                      refine lv_iload hx hb d_M_step_191 (lv_at hl 1 rfl) ?_
                      refine rv_if_eq (tgt := 200) hx hb d_M_step_193 (by decide) ⟨by decide, by decide⟩ (fun c_41 => ?_) (fun c_41 => ?_)
                      · skip
                        refine lv_iconst (v := iI 0) hx hb d_M_step_200 rfl ?_
                        refine rv_iadd hx hb d_M_step_201 ?_
                        refine lv_istore (lv' := [(5, .int (iI (sn + 0))), (6, .int (iI tl)), (10, .int (iI 0)), (9, .int (iI rest)), (0, .ref (w 0)), (1, .int (iI net)), (2, .int (iI k)), (3, .int (iI L)), (7, .int (iI th)), (8, .int (iI jx))]) hx hb d_M_step_202 hl (by decide) rfl (fun ls hl => ?_)
                        refine lv_iinc (v := iI (jx + 1)) (lv' := [(8, .int (iI (jx + 1))), (5, .int (iI (sn + 0))), (6, .int (iI tl)), (10, .int (iI 0)), (9, .int (iI rest)), (0, .ref (w 0)), (1, .int (iI net)), (2, .int (iI k)), (3, .int (iI L)), (7, .int (iI th))]) hx hb d_M_step_204 hl (k := 9) rfl (iI_add _ _) (by decide) rfl (fun ls hl => ?_)
                        refine lv_goto (tgt := 72) hx hb d_M_step_207 (by decide) ?_
                        exact ih72 _ _ _ th (jx + 1) (by (try have := rcn it); (try have := rcn it); omega) (by first | exact rfa2 | exact rgfa) hth ⟨by omega, by omega, by omega, fun q => by omega⟩ (by rw [show jx + 1 - 24 * it = (jx - 24 * it) + 1 by omega]; first | (rw [cI_s1 (by omega) hyf]; omega) | (rw [cI_s0 (by omega) hnf]; omega)) (by rw [show jx + 1 - 24 * it = (jx - 24 * it) + 1 by omega]; first | exact hT2 | exact TLD_skip (by omega) hnf hT) H _ (hP.sub [0, 5, 6, 1, 2, 3, 4] rfl) (hD.sub [0, 5, 6, 1, 2, 3, 4] (by decide) rfl) hS ls (lv_sub hl [5, 6, 7, 8, 1, 2, 9, 0] rfl)
                      · exact absurd c_41 (by decide)
                    · exact absurd c_40 (by decide)
                  · skip
                    refine lv_aload_n hx hb d_M_step_132 rfl (lv_at hl 1 rfl) ?_
                    refine va_get (D := G) (ci := 4) (v := .ref (w 8)) (C := R_M) (T := T_M) (N := 16) hx hb hg iw_M hown hE.1 hP 1 rfl rfl 12 (by decide) (hg _ fl_M_36) (fun _ h9 => h9) rfl d_M_step_133 ?_
                    refine lv_iload hx hb d_M_step_136 (lv_at hl 8 rfl) ?_
                    refine rv_iald hx hb hE hP 5 rfl (i := jx) (by (try have := rcn it); omega) (by (try have := rcn it); omega) (by decide) d_M_step_138 ?_
                    refine lv_iload hx hb d_M_step_139 (lv_at hl 0 rfl) ?_
                    refine rv_iadd hx hb d_M_step_141 ?_
                    refine lv_iload_n hx hb d_M_step_142 rfl (lv_at hl 4 rfl) ?_
                    refine rv_icmp_ne (tgt := 150) hx hb d_M_step_143 (by decide) (by (try have := rco jx); constructor <;> omega) (by constructor <;> omega) (fun c_42 => ?_) (fun c_42 => ?_)
                    · skip
                      have hnf : (fsF pcn prt pnt pco it net L) (jx - 24 * it) = 0 := fsF_0 (fun q => by have := hiff.2 q; omega)
                      refine lv_iconst (v := iI 0) hx hb d_M_step_150 rfl ?_
                      refine lv_istore (lv' := [(10, .int (iI 0)), (9, .int (iI rest)), (0, .ref (w 0)), (1, .int (iI net)), (2, .int (iI k)), (3, .int (iI L)), (5, .int (iI sn)), (6, .int (iI tl)), (7, .int (iI th)), (8, .int (iI jx))]) hx hb d_M_step_151 hl (by decide) rfl (fun ls hl => ?_)
                      refine lv_iload hx hb d_M_step_153 (lv_at hl 0 rfl) ?_
                      refine rv_if_eq (tgt := 185) hx hb d_M_step_155 (by decide) ⟨by decide, by decide⟩ (fun c_43 => ?_) (fun c_43 => ?_)
                      · skip
                        refine lv_iload hx hb d_M_step_185 (lv_at hl 7 rfl) ?_
                        refine lv_istore (lv' := [(6, .int (iI tl)), (10, .int (iI 0)), (9, .int (iI rest)), (0, .ref (w 0)), (1, .int (iI net)), (2, .int (iI k)), (3, .int (iI L)), (5, .int (iI sn)), (7, .int (iI th)), (8, .int (iI jx))]) hx hb d_M_step_187 hl (by decide) rfl (fun ls hl => ?_)
                        refine lv_iload hx hb d_M_step_189 (lv_at hl 7 rfl) ?_
                        refine lv_iload hx hb d_M_step_191 (lv_at hl 1 rfl) ?_
                        refine rv_if_eq (tgt := 200) hx hb d_M_step_193 (by decide) ⟨by decide, by decide⟩ (fun c_44 => ?_) (fun c_44 => ?_)
                        · skip
                          refine lv_iconst (v := iI 0) hx hb d_M_step_200 rfl ?_
                          refine rv_iadd hx hb d_M_step_201 ?_
                          refine lv_istore (lv' := [(5, .int (iI (sn + 0))), (6, .int (iI tl)), (10, .int (iI 0)), (9, .int (iI rest)), (0, .ref (w 0)), (1, .int (iI net)), (2, .int (iI k)), (3, .int (iI L)), (7, .int (iI th)), (8, .int (iI jx))]) hx hb d_M_step_202 hl (by decide) rfl (fun ls hl => ?_)
                          refine lv_iinc (v := iI (jx + 1)) (lv' := [(8, .int (iI (jx + 1))), (5, .int (iI (sn + 0))), (6, .int (iI tl)), (10, .int (iI 0)), (9, .int (iI rest)), (0, .ref (w 0)), (1, .int (iI net)), (2, .int (iI k)), (3, .int (iI L)), (7, .int (iI th))]) hx hb d_M_step_204 hl (k := 9) rfl (iI_add _ _) (by decide) rfl (fun ls hl => ?_)
                          refine lv_goto (tgt := 72) hx hb d_M_step_207 (by decide) ?_
                          exact ih72 _ _ _ th (jx + 1) (by (try have := rcn it); (try have := rcn it); omega) (by first | exact rfa2 | exact rgfa) hth ⟨by omega, by omega, by omega, fun q => by omega⟩ (by rw [show jx + 1 - 24 * it = (jx - 24 * it) + 1 by omega]; first | (rw [cI_s1 (by omega) hyf]; omega) | (rw [cI_s0 (by omega) hnf]; omega)) (by rw [show jx + 1 - 24 * it = (jx - 24 * it) + 1 by omega]; first | exact hT2 | exact TLD_skip (by omega) hnf hT) H _ (hP.sub [0, 5, 6, 1, 2, 3, 4] rfl) (hD.sub [0, 5, 6, 1, 2, 3, 4] (by decide) rfl) hS ls (lv_sub hl [5, 6, 7, 8, 1, 2, 9, 0] rfl)
                        · exact absurd c_44 (by decide)
                      · exact absurd c_43 (by decide)
                    · skip
                      have hyf : ¬ (fsF pcn prt pnt pco it net L) (jx - 24 * it) = 0 := fsF_1 (hiff.1 (by omega))
                      refine lv_iconst (v := iI 1) hx hb d_M_step_146 rfl ?_
                      refine lv_goto (tgt := 151) hx hb d_M_step_147 (by decide) ?_
                      refine lv_istore (lv' := [(10, .int (iI 1)), (9, .int (iI rest)), (0, .ref (w 0)), (1, .int (iI net)), (2, .int (iI k)), (3, .int (iI L)), (5, .int (iI sn)), (6, .int (iI tl)), (7, .int (iI th)), (8, .int (iI jx))]) hx hb d_M_step_151 hl (by decide) rfl (fun ls hl => ?_)
                      refine lv_iload hx hb d_M_step_153 (lv_at hl 0 rfl) ?_
                      refine rv_if_eq (tgt := 185) hx hb d_M_step_155 (by decide) ⟨by decide, by decide⟩ (fun c_45 => ?_) (fun c_45 => ?_)
                      · exact absurd c_45 (by decide)
                      · skip
                        refine lv_iload hx hb d_M_step_158 (lv_at hl 6 rfl) ?_
                        refine lv_iload_n hx hb d_M_step_160 rfl (lv_at hl 4 rfl) ?_
                        refine rv_icmp_ne (tgt := 185) hx hb d_M_step_161 (by decide) (by (try have := cI_b (fsF pcn prt pnt pco it net L) (show 0 ≤ jx - 24 * it by omega)); (try have := rcn it); constructor <;> omega) (by (try have := cI_b (fsF pcn prt pnt pco it net L) (show 0 ≤ jx - 24 * it by omega)); (try have := rcn it); constructor <;> omega) (fun c_46 => ?_) (fun c_46 => ?_)
                        · skip
                          have hT2 := TLD_miss (by omega) hyf (by omega) hT
                          refine lv_iload hx hb d_M_step_185 (lv_at hl 7 rfl) ?_
                          refine lv_istore (lv' := [(6, .int (iI tl)), (10, .int (iI 1)), (9, .int (iI rest)), (0, .ref (w 0)), (1, .int (iI net)), (2, .int (iI k)), (3, .int (iI L)), (5, .int (iI sn)), (7, .int (iI th)), (8, .int (iI jx))]) hx hb d_M_step_187 hl (by decide) rfl (fun ls hl => ?_)
                          refine lv_iload hx hb d_M_step_189 (lv_at hl 7 rfl) ?_
                          refine lv_iload hx hb d_M_step_191 (lv_at hl 1 rfl) ?_
                          refine rv_if_eq (tgt := 200) hx hb d_M_step_193 (by decide) ⟨by decide, by decide⟩ (fun c_47 => ?_) (fun c_47 => ?_)
                          · exact absurd c_47 (by decide)
                          · skip
                            refine lv_iconst (v := iI 1) hx hb d_M_step_196 rfl ?_
                            refine lv_goto (tgt := 201) hx hb d_M_step_197 (by decide) ?_
                            refine rv_iadd hx hb d_M_step_201 ?_
                            refine lv_istore (lv' := [(5, .int (iI (sn + 1))), (6, .int (iI tl)), (10, .int (iI 1)), (9, .int (iI rest)), (0, .ref (w 0)), (1, .int (iI net)), (2, .int (iI k)), (3, .int (iI L)), (7, .int (iI th)), (8, .int (iI jx))]) hx hb d_M_step_202 hl (by decide) rfl (fun ls hl => ?_)
                            refine lv_iinc (v := iI (jx + 1)) (lv' := [(8, .int (iI (jx + 1))), (5, .int (iI (sn + 1))), (6, .int (iI tl)), (10, .int (iI 1)), (9, .int (iI rest)), (0, .ref (w 0)), (1, .int (iI net)), (2, .int (iI k)), (3, .int (iI L)), (7, .int (iI th))]) hx hb d_M_step_204 hl (k := 9) rfl (iI_add _ _) (by decide) rfl (fun ls hl => ?_)
                            refine lv_goto (tgt := 72) hx hb d_M_step_207 (by decide) ?_
                            exact ih72 _ _ _ th (jx + 1) (by (try have := rcn it); (try have := rcn it); omega) (by first | exact rfa2 | exact rgfa) hth ⟨by omega, by omega, by omega, fun q => by omega⟩ (by rw [show jx + 1 - 24 * it = (jx - 24 * it) + 1 by omega]; first | (rw [cI_s1 (by omega) hyf]; omega) | (rw [cI_s0 (by omega) hnf]; omega)) (by rw [show jx + 1 - 24 * it = (jx - 24 * it) + 1 by omega]; first | exact hT2 | exact TLD_skip (by omega) hnf hT) H _ (hP.sub [0, 5, 6, 1, 2, 3, 4] rfl) (hD.sub [0, 5, 6, 1, 2, 3, 4] (by decide) rfl) hS ls (lv_sub hl [5, 6, 7, 8, 1, 2, 9, 0] rfl)
                        · skip
                          have hT2 := TLD_hit (nt := pnt) (rt := prt) (it := it) (k := k) (x := jx) (by omega) hyf (by omega) (by omega)
                          refine lv_bipush (v := iI 64) hx hb d_M_step_164 (by decide +kernel) ?_
                          refine lv_aload_n hx hb d_M_step_166 rfl (lv_at hl 2 rfl) ?_
                          refine va_get (D := G) (ci := 4) (v := .ref (w 7)) (C := R_M) (T := T_M) (N := 16) hx hb hg iw_M hown hE.1 hP 1 rfl rfl 11 (by decide) (hg _ fl_M_33) (fun _ h9 => h9) rfl d_M_step_167 ?_
                          refine lv_iload hx hb d_M_step_170 (lv_at hl 9 rfl) ?_
                          refine rv_iald hx hb hE hP 4 rfl (i := jx) (by (try have := rcn it); omega) (by (try have := rcn it); omega) (by decide) d_M_step_172 ?_
                          refine rv_imul hx hb d_M_step_173 ?_
                          refine lv_aload_n hx hb d_M_step_174 rfl (lv_at hl 2 rfl) ?_
                          refine va_get (D := G) (ci := 4) (v := .ref (w 6)) (C := R_M) (T := T_M) (N := 16) hx hb hg iw_M hown hE.1 hP 1 rfl rfl 10 (by decide) (hg _ fl_M_30) (fun _ h9 => h9) rfl d_M_step_175 ?_
                          refine lv_iload hx hb d_M_step_178 (lv_at hl 9 rfl) ?_
                          refine rv_iald hx hb hE hP 3 rfl (i := jx) (by (try have := rcn it); omega) (by (try have := rcn it); omega) (by decide) d_M_step_180 ?_
                          refine rv_iadd hx hb d_M_step_181 ?_
                          refine lv_goto (tgt := 187) hx hb d_M_step_182 (by decide) ?_
                          refine lv_istore (lv' := [(6, .int (iI ((64 * (pnt jx)) + (prt jx)))), (10, .int (iI 1)), (9, .int (iI rest)), (0, .ref (w 0)), (1, .int (iI net)), (2, .int (iI k)), (3, .int (iI L)), (5, .int (iI sn)), (7, .int (iI th)), (8, .int (iI jx))]) hx hb d_M_step_187 hl (by decide) rfl (fun ls hl => ?_)
                          refine lv_iload hx hb d_M_step_189 (lv_at hl 7 rfl) ?_
                          refine lv_iload hx hb d_M_step_191 (lv_at hl 1 rfl) ?_
                          refine rv_if_eq (tgt := 200) hx hb d_M_step_193 (by decide) ⟨by decide, by decide⟩ (fun c_48 => ?_) (fun c_48 => ?_)
                          · exact absurd c_48 (by decide)
                          · skip
                            refine lv_iconst (v := iI 1) hx hb d_M_step_196 rfl ?_
                            refine lv_goto (tgt := 201) hx hb d_M_step_197 (by decide) ?_
                            refine rv_iadd hx hb d_M_step_201 ?_
                            refine lv_istore (lv' := [(5, .int (iI (sn + 1))), (6, .int (iI ((64 * (pnt jx)) + (prt jx)))), (10, .int (iI 1)), (9, .int (iI rest)), (0, .ref (w 0)), (1, .int (iI net)), (2, .int (iI k)), (3, .int (iI L)), (7, .int (iI th)), (8, .int (iI jx))]) hx hb d_M_step_202 hl (by decide) rfl (fun ls hl => ?_)
                            refine lv_iinc (v := iI (jx + 1)) (lv' := [(8, .int (iI (jx + 1))), (5, .int (iI (sn + 1))), (6, .int (iI ((64 * (pnt jx)) + (prt jx)))), (10, .int (iI 1)), (9, .int (iI rest)), (0, .ref (w 0)), (1, .int (iI net)), (2, .int (iI k)), (3, .int (iI L)), (7, .int (iI th))]) hx hb d_M_step_204 hl (k := 9) rfl (iI_add _ _) (by decide) rfl (fun ls hl => ?_)
                            refine lv_goto (tgt := 72) hx hb d_M_step_207 (by decide) ?_
                            exact ih72 _ _ _ th (jx + 1) (by (try have := rcn it); (try have := rcn it); omega) (by first | exact rfa2 | exact rgfa) hth ⟨by omega, by omega, by omega, fun q => by omega⟩ (by rw [show jx + 1 - 24 * it = (jx - 24 * it) + 1 by omega]; first | (rw [cI_s1 (by omega) hyf]; omega) | (rw [cI_s0 (by omega) hnf]; omega)) (by rw [show jx + 1 - 24 * it = (jx - 24 * it) + 1 by omega]; first | exact hT2 | exact TLD_skip (by omega) hnf hT) H _ (hP.sub [0, 5, 6, 1, 2, 3, 4] rfl) (hD.sub [0, 5, 6, 1, 2, 3, 4] (by decide) rfl) hS ls (lv_sub hl [5, 6, 7, 8, 1, 2, 9, 0] rfl)
        exact L72 ((24 * it + pcn it - (24 * it) : Int).toNat + 1) fa1 0 (-1) _ (24 * it) (Nat.lt_succ_self _) rfa1 hthr ⟨by omega, by have := rcn it; omega, by omega, fun _ => rfl⟩ (by rw [show 24 * it - 24 * it = 0 by omega]; rfl) (by rw [show 24 * it - 24 * it = 0 by omega]; exact TLD_0) H _ (hP.sub [0, 1, 2, 3, 4, 5, 6] rfl) (hD.sub [0, 1, 2, 3, 4, 5, 6] (by decide) rfl) hS ls (lv_sub hl [6, 7, 8, 5, 3, 2, 1, 0] rfl)
      · skip
        have hthr : ((1 : Int) = 1 ∧ (L = -1 ∨ ps pcn prt pnt pco fa1 it net L)) ∨ ((1 : Int) = 0 ∧ ¬ (L = -1 ∨ ps pcn prt pnt pco fa1 it net L)) := Or.inl ⟨rfl, Or.inr (hop (by omega) (by omega))⟩
        refine lv_iconst (v := iI 1) hx hb d_M_step_56 rfl ?_
        refine lv_goto (tgt := 61) hx hb d_M_step_57 (by decide) ?_
        refine lv_istore (lv' := [(7, .int (iI 1)), (6, .int (iI ((-1)))), (5, .int (iI 0)), (4, .int (iI ow)), (3, .int (iI L)), (0, .ref (w 0)), (1, .int (iI net)), (2, .int (iI k))]) hx hb d_M_step_61 hl (by decide) rfl (fun ls hl => ?_)
        refine lv_bipush (v := iI 24) hx hb d_M_step_63 (by decide +kernel) ?_
        refine lv_aload_n hx hb d_M_step_65 rfl (lv_at hl 5 rfl) ?_
        refine va_get (D := G) (ci := 4) (v := .int (iI it)) (C := R_M) (T := T_M) (N := 16) hx hb hg iw_M hown hE.1 hP 3 rfl rfl 0 (by decide) (hg _ fl_M_45) (fun _ h9 => h9) rfl d_M_step_66 ?_
        refine rv_imul hx hb d_M_step_69 ?_
        refine lv_istore (lv' := [(8, .int (iI (24 * it))), (7, .int (iI 1)), (6, .int (iI ((-1)))), (5, .int (iI 0)), (4, .int (iI ow)), (3, .int (iI L)), (0, .ref (w 0)), (1, .int (iI net)), (2, .int (iI k))]) hx hb d_M_step_70 hl (by decide) rfl (fun ls hl => ?_)
        have L72 : ∀ n9 : Nat, ∀ (gfa : Int → Int) (sn : Int) (tl : Int) (th : Int) (jx : Int), (24 * it + pcn it - jx : Int).toNat < n9 → (∀ i : Int, -1 ≤ gfa i ∧ gfa i ≤ 64000) → ((th = 1 ∧ (L = -1 ∨ ps pcn prt pnt pco fa1 it net L)) ∨ (th = 0 ∧ ¬ (L = -1 ∨ ps pcn prt pnt pco fa1 it net L))) → (24 * it ≤ jx ∧ jx ≤ 24 * it + pcn it ∧ (th = 0 ∨ th = 1) ∧ (th = 1 → jx = 24 * it)) → (sn = cI (fsF pcn prt pnt pco it net L) (jx - 24 * it)) → (TLD (fsF pcn prt pnt pco it net L) pnt prt it k (jx - 24 * it) tl) → ∀ (H : Heap) (locs : List Loc), va_P G cls0 [(w 9, .inl (z.2.1, 1536, .inl (aI gus))), (w 8, .inl (z.1, 1584, .inl (aI pco))), (w 10, .inl (z.1, 64, .inl (aI gfa))), (w 0, .inr (4, [.int (iI it), .int (iI cd), .int (iI now), .ref (w 1), .ref (w 2), .int (iI gr), .int (iI md), .ref (w 3), .ref (w 4), .ref (w 5), .ref (w 6), .ref (w 7), .ref (w 8), .int (iI dO), .ref (w 9), .ref (w 10)])), (w 5, .inl (z.1, 66, .inl (aI pcn))), (w 6, .inl (z.1, 1584, .inl (aI prt))), (w 7, .inl (z.1, 1584, .inl (aI pnt)))] H → va_D A [(w 9, .inl (z.2.1, 1536, .inl (aI gus))), (w 8, .inl (z.1, 1584, .inl (aI pco))), (w 10, .inl (z.1, 64, .inl (aI gfa))), (w 0, .inr (4, [.int (iI it), .int (iI cd), .int (iI now), .ref (w 1), .ref (w 2), .int (iI gr), .int (iI md), .ref (w 3), .ref (w 4), .ref (w 5), .ref (w 6), .ref (w 7), .ref (w 8), .int (iI dO), .ref (w 9), .ref (w 10)])), (w 5, .inl (z.1, 66, .inl (aI pcn))), (w 6, .inl (z.1, 1584, .inl (aI prt))), (w 7, .inl (z.1, 1584, .inl (aI pnt)))] → va_S A s.heap H locs → ∀ ls : Array Slot, lv_has ls 11 [(0, .ref (w 0)), (1, .int (iI net)), (2, .int (iI k)), (3, .int (iI L)), (5, .int (iI sn)), (6, .int (iI tl)), (7, .int (iI th)), (8, .int (iI jx))] → W p l e (rmD 2) s m [.ref (w 0), .int (iI net), .int (iI k)].toArray below meth c H locs 0 0 (Zi below [.ref (w 0), .int (iI net), .int (iI k)].toArray s (rmD 2) G A (fun r9 u9 => ∃ (rv : Int) (gus : Int → Int) (gfa : Int → Int), u9 = [(w 0, .inr (4, [.int (iI it), .int (iI cd), .int (iI now), .ref (w 1), .ref (w 2), .int (iI gr), .int (iI md), .ref (w 3), .ref (w 4), .ref (w 5), .ref (w 6), .ref (w 7), .ref (w 8), .int (iI dO), .ref (w 9), .ref (w 10)])), (w 5, .inl (z.1, 66, .inl (aI pcn))), (w 6, .inl (z.1, 1584, .inl (aI prt))), (w 7, .inl (z.1, 1584, .inl (aI pnt))), (w 8, .inl (z.1, 1584, .inl (aI pco))), (w 9, .inl (z.2.1, 1536, .inl (aI gus))), (w 10, .inl (z.1, 64, .inl (aI gfa)))] ∧ r9 = iI rv ∧ (∀ i : Int, 0 ≤ gus i ∧ gus i ≤ 1) ∧ (∀ i : Int, -1 ≤ gfa i ∧ gfa i ≤ 64000) ∧ (-1 ≤ rv ∧ rv ≤ 4095) ∧ (∃ (fa1 : Int → Int) (L : Int), isD (eg pcn prt pnt pco) it fa1 ∧ LST pcn prt pnt pco fa1 net 64 L ∧ STP pcn prt pnt pco fa1 it net k L rv))) (F0 m 72 ls []) := by
          intro n9
          induction n9 with
          | zero => intro gfa sn tl th jx hmu; exact absurd hmu (Nat.not_lt_zero _)
          | succ n9 ih72 =>
            intro gfa sn tl th jx hmu rgfa hth he hc hT H locs hP hD hS ls hl
            refine lv_iload hx hb d_M_step_72 (lv_at hl 7 rfl) ?_
            refine lv_bipush (v := iI 24) hx hb d_M_step_74 (by decide +kernel) ?_
            refine lv_aload_n hx hb d_M_step_76 rfl (lv_at hl 0 rfl) ?_
            refine va_get (D := G) (ci := 4) (v := .int (iI it)) (C := R_M) (T := T_M) (N := 16) hx hb hg iw_M hown hE.1 hP 3 rfl rfl 0 (by decide) (hg _ fl_M_45) (fun _ h9 => h9) rfl d_M_step_77 ?_
            refine rv_imul hx hb d_M_step_80 ?_
            refine lv_aload_n hx hb d_M_step_81 rfl (lv_at hl 0 rfl) ?_
            refine va_get (D := G) (ci := 4) (v := .ref (w 5)) (C := R_M) (T := T_M) (N := 16) hx hb hg iw_M hown hE.1 hP 3 rfl rfl 9 (by decide) (hg _ fl_M_27) (fun _ h9 => h9) rfl d_M_step_82 ?_
            refine lv_aload_n hx hb d_M_step_85 rfl (lv_at hl 0 rfl) ?_
            refine va_get (D := G) (ci := 4) (v := .int (iI it)) (C := R_M) (T := T_M) (N := 16) hx hb hg iw_M hown hE.1 hP 3 rfl rfl 0 (by decide) (hg _ fl_M_45) (fun _ h9 => h9) rfl d_M_step_86 ?_
            refine rv_iald hx hb hE hP 4 rfl (i := it) (by omega) (by omega) (by decide) d_M_step_89 ?_
            refine rv_iadd hx hb d_M_step_90 ?_
            refine rv_icmp_ge (tgt := 210) hx hb d_M_step_91 (by decide) (by (try have := rcn it); constructor <;> omega) (by (try have := rcn it); (try have := rcn it); constructor <;> omega) (fun c_49 => ?_) (fun c_49 => ?_)
            · skip
              have hxe : (jx - 24 * it) = pcn it ∨ th = 1 := by have := rcn it; omega
              refine lv_iload_n hx hb d_M_step_210 rfl (lv_at hl 2 rfl) ?_
              refine rv_if_ge (tgt := 219) hx hb d_M_step_211 (by decide) (by constructor <;> omega) (fun c_50 => ?_) (fun c_50 => ?_)
              · skip
                have hend := STP_2 (k := k) hth (fun q => by have := he.2.2.2 q; omega) hxe hT (by omega)
                refine lv_iload hx hb d_M_step_219 (lv_at hl 5 rfl) ?_
                have hP9 : va_P G cls0 [(w 0, .inr (4, [.int (iI it), .int (iI cd), .int (iI now), .ref (w 1), .ref (w 2), .int (iI gr), .int (iI md), .ref (w 3), .ref (w 4), .ref (w 5), .ref (w 6), .ref (w 7), .ref (w 8), .int (iI dO), .ref (w 9), .ref (w 10)])), (w 5, .inl (z.1, 66, .inl (aI pcn))), (w 6, .inl (z.1, 1584, .inl (aI prt))), (w 7, .inl (z.1, 1584, .inl (aI pnt))), (w 8, .inl (z.1, 1584, .inl (aI pco))), (w 9, .inl (z.2.1, 1536, .inl (aI gus))), (w 10, .inl (z.1, 64, .inl (aI gfa)))] H := hP.sub [3, 4, 5, 6, 1, 0, 2] rfl
                have hD9 : va_D A [(w 0, .inr (4, [.int (iI it), .int (iI cd), .int (iI now), .ref (w 1), .ref (w 2), .int (iI gr), .int (iI md), .ref (w 3), .ref (w 4), .ref (w 5), .ref (w 6), .ref (w 7), .ref (w 8), .int (iI dO), .ref (w 9), .ref (w 10)])), (w 5, .inl (z.1, 66, .inl (aI pcn))), (w 6, .inl (z.1, 1584, .inl (aI prt))), (w 7, .inl (z.1, 1584, .inl (aI pnt))), (w 8, .inl (z.1, 1584, .inl (aI pco))), (w 9, .inl (z.2.1, 1536, .inl (aI gus))), (w 10, .inl (z.1, 64, .inl (aI gfa)))] := hD.sub [3, 4, 5, 6, 1, 0, 2] (by decide) rfl
                refine rv_iret hx hb hRt (nar_int _) hlocks (Nat.le_of_ble_eq_true rfl) (Nat.le_of_ble_eq_true rfl) hP9 hD9 hS d_M_step_221 ?_
                exact ⟨tl, gus, gfa, rfl, rfl, rgus, rgfa, (by have := TLD_b rnt (fun b q => by have := usb_t hAK (fsF_e q).1; omega) hT; have := cI_b (fsF pcn prt pnt pco it net L) (show 0 ≤ (jx - 24 * it) by omega); have := rcn it; omega), ⟨fa1, L, fD1, fL, hend⟩⟩
              · skip
                have hend := STP_1 (k := k) hth (fun q => by have := he.2.2.2 q; omega) hxe hc (by omega)
                refine lv_iload hx hb d_M_step_214 (lv_at hl 4 rfl) ?_
                refine lv_goto (tgt := 221) hx hb d_M_step_216 (by decide) ?_
                have hP9 : va_P G cls0 [(w 0, .inr (4, [.int (iI it), .int (iI cd), .int (iI now), .ref (w 1), .ref (w 2), .int (iI gr), .int (iI md), .ref (w 3), .ref (w 4), .ref (w 5), .ref (w 6), .ref (w 7), .ref (w 8), .int (iI dO), .ref (w 9), .ref (w 10)])), (w 5, .inl (z.1, 66, .inl (aI pcn))), (w 6, .inl (z.1, 1584, .inl (aI prt))), (w 7, .inl (z.1, 1584, .inl (aI pnt))), (w 8, .inl (z.1, 1584, .inl (aI pco))), (w 9, .inl (z.2.1, 1536, .inl (aI gus))), (w 10, .inl (z.1, 64, .inl (aI gfa)))] H := hP.sub [3, 4, 5, 6, 1, 0, 2] rfl
                have hD9 : va_D A [(w 0, .inr (4, [.int (iI it), .int (iI cd), .int (iI now), .ref (w 1), .ref (w 2), .int (iI gr), .int (iI md), .ref (w 3), .ref (w 4), .ref (w 5), .ref (w 6), .ref (w 7), .ref (w 8), .int (iI dO), .ref (w 9), .ref (w 10)])), (w 5, .inl (z.1, 66, .inl (aI pcn))), (w 6, .inl (z.1, 1584, .inl (aI prt))), (w 7, .inl (z.1, 1584, .inl (aI pnt))), (w 8, .inl (z.1, 1584, .inl (aI pco))), (w 9, .inl (z.2.1, 1536, .inl (aI gus))), (w 10, .inl (z.1, 64, .inl (aI gfa)))] := hD.sub [3, 4, 5, 6, 1, 0, 2] (by decide) rfl
                refine rv_iret hx hb hRt (nar_int _) hlocks (Nat.le_of_ble_eq_true rfl) (Nat.le_of_ble_eq_true rfl) hP9 hD9 hS d_M_step_221 ?_
                exact ⟨sn, gus, gfa, rfl, rfl, rgus, rgfa, (by have := TLD_b rnt (fun b q => by have := usb_t hAK (fsF_e q).1; omega) hT; have := cI_b (fsF pcn prt pnt pco it net L) (show 0 ≤ (jx - 24 * it) by omega); have := rcn it; omega), ⟨fa1, L, fD1, fL, hend⟩⟩
            · skip
              refine lv_iload hx hb d_M_step_94 (lv_at hl 6 rfl) ?_
              refine rv_if_ne (tgt := 210) hx hb d_M_step_96 (by decide) (by constructor <;> omega) (fun c_51 => ?_) (fun c_51 => ?_)
              · skip
                have hxe : (jx - 24 * it) = pcn it ∨ th = 1 := by omega
                refine lv_iload_n hx hb d_M_step_210 rfl (lv_at hl 2 rfl) ?_
                refine rv_if_ge (tgt := 219) hx hb d_M_step_211 (by decide) (by constructor <;> omega) (fun c_52 => ?_) (fun c_52 => ?_)
                · skip
                  have hend := STP_2 (k := k) hth (fun q => by have := he.2.2.2 q; omega) hxe hT (by omega)
                  refine lv_iload hx hb d_M_step_219 (lv_at hl 5 rfl) ?_
                  have hP9 : va_P G cls0 [(w 0, .inr (4, [.int (iI it), .int (iI cd), .int (iI now), .ref (w 1), .ref (w 2), .int (iI gr), .int (iI md), .ref (w 3), .ref (w 4), .ref (w 5), .ref (w 6), .ref (w 7), .ref (w 8), .int (iI dO), .ref (w 9), .ref (w 10)])), (w 5, .inl (z.1, 66, .inl (aI pcn))), (w 6, .inl (z.1, 1584, .inl (aI prt))), (w 7, .inl (z.1, 1584, .inl (aI pnt))), (w 8, .inl (z.1, 1584, .inl (aI pco))), (w 9, .inl (z.2.1, 1536, .inl (aI gus))), (w 10, .inl (z.1, 64, .inl (aI gfa)))] H := hP.sub [3, 4, 5, 6, 1, 0, 2] rfl
                  have hD9 : va_D A [(w 0, .inr (4, [.int (iI it), .int (iI cd), .int (iI now), .ref (w 1), .ref (w 2), .int (iI gr), .int (iI md), .ref (w 3), .ref (w 4), .ref (w 5), .ref (w 6), .ref (w 7), .ref (w 8), .int (iI dO), .ref (w 9), .ref (w 10)])), (w 5, .inl (z.1, 66, .inl (aI pcn))), (w 6, .inl (z.1, 1584, .inl (aI prt))), (w 7, .inl (z.1, 1584, .inl (aI pnt))), (w 8, .inl (z.1, 1584, .inl (aI pco))), (w 9, .inl (z.2.1, 1536, .inl (aI gus))), (w 10, .inl (z.1, 64, .inl (aI gfa)))] := hD.sub [3, 4, 5, 6, 1, 0, 2] (by decide) rfl
                  refine rv_iret hx hb hRt (nar_int _) hlocks (Nat.le_of_ble_eq_true rfl) (Nat.le_of_ble_eq_true rfl) hP9 hD9 hS d_M_step_221 ?_
                  exact ⟨tl, gus, gfa, rfl, rfl, rgus, rgfa, (by have := TLD_b rnt (fun b q => by have := usb_t hAK (fsF_e q).1; omega) hT; have := cI_b (fsF pcn prt pnt pco it net L) (show 0 ≤ (jx - 24 * it) by omega); have := rcn it; omega), ⟨fa1, L, fD1, fL, hend⟩⟩
                · skip
                  have hend := STP_1 (k := k) hth (fun q => by have := he.2.2.2 q; omega) hxe hc (by omega)
                  refine lv_iload hx hb d_M_step_214 (lv_at hl 4 rfl) ?_
                  refine lv_goto (tgt := 221) hx hb d_M_step_216 (by decide) ?_
                  have hP9 : va_P G cls0 [(w 0, .inr (4, [.int (iI it), .int (iI cd), .int (iI now), .ref (w 1), .ref (w 2), .int (iI gr), .int (iI md), .ref (w 3), .ref (w 4), .ref (w 5), .ref (w 6), .ref (w 7), .ref (w 8), .int (iI dO), .ref (w 9), .ref (w 10)])), (w 5, .inl (z.1, 66, .inl (aI pcn))), (w 6, .inl (z.1, 1584, .inl (aI prt))), (w 7, .inl (z.1, 1584, .inl (aI pnt))), (w 8, .inl (z.1, 1584, .inl (aI pco))), (w 9, .inl (z.2.1, 1536, .inl (aI gus))), (w 10, .inl (z.1, 64, .inl (aI gfa)))] H := hP.sub [3, 4, 5, 6, 1, 0, 2] rfl
                  have hD9 : va_D A [(w 0, .inr (4, [.int (iI it), .int (iI cd), .int (iI now), .ref (w 1), .ref (w 2), .int (iI gr), .int (iI md), .ref (w 3), .ref (w 4), .ref (w 5), .ref (w 6), .ref (w 7), .ref (w 8), .int (iI dO), .ref (w 9), .ref (w 10)])), (w 5, .inl (z.1, 66, .inl (aI pcn))), (w 6, .inl (z.1, 1584, .inl (aI prt))), (w 7, .inl (z.1, 1584, .inl (aI pnt))), (w 8, .inl (z.1, 1584, .inl (aI pco))), (w 9, .inl (z.2.1, 1536, .inl (aI gus))), (w 10, .inl (z.1, 64, .inl (aI gfa)))] := hD.sub [3, 4, 5, 6, 1, 0, 2] (by decide) rfl
                  refine rv_iret hx hb hRt (nar_int _) hlocks (Nat.le_of_ble_eq_true rfl) (Nat.le_of_ble_eq_true rfl) hP9 hD9 hS d_M_step_221 ?_
                  exact ⟨sn, gus, gfa, rfl, rfl, rgus, rgfa, (by have := TLD_b rnt (fun b q => by have := usb_t hAK (fsF_e q).1; omega) hT; have := cI_b (fsF pcn prt pnt pco it net L) (show 0 ≤ (jx - 24 * it) by omega); have := rcn it; omega), ⟨fa1, L, fD1, fL, hend⟩⟩
              · skip
                have hth0 : th = 0 := by omega
                have hckr := fck it (jx - 24 * it) hit.1 (by omega) (by omega) (by omega) (Or.inl (by omega))
                rw [show it * 24 + (jx - 24 * it) = jx by omega] at hckr
                refine lv_aload_n hx hb d_M_step_99 rfl (lv_at hl 0 rfl) ?_
                refine va_get (D := G) (ci := 4) (v := .ref (w 9)) (C := R_M) (T := T_M) (N := 16) hx hb hg iw_M hown hE.1 hP 3 rfl rfl 14 (by decide) (hg _ fl_M_39) (fun _ h9 => h9) rfl d_M_step_100 ?_
                refine lv_iload hx hb d_M_step_103 (lv_at hl 7 rfl) ?_
                refine rv_zald hx hb hE hP 0 rfl (i := jx) (by (try have := rcn it); omega) (by (try have := rcn it); omega) (by decide) d_M_step_105 ?_
                refine rv_if_eq (tgt := 204) hx hb d_M_step_106 (by decide) (by (try have := rgus jx); constructor <;> omega) (fun c_53 => ?_) (fun c_53 => ?_)
                · skip
                  have hnf : (fsF pcn prt pnt pco it net L) (jx - 24 * it) = 0 := fsF_0 (fun q => by rcases hckr with ⟨w, -⟩ | ⟨-, w⟩; omega; exact w q.1)
                  clear hckr
                  have hT2 := TLD_skip (by omega) hnf hT
                  have hc2 : sn = cI (fsF pcn prt pnt pco it net L) ((jx - 24 * it) + 1) := by rw [cI_s0 (by omega) hnf]; exact hc
                  refine lv_iinc (v := iI (jx + 1)) (lv' := [(8, .int (iI (jx + 1))), (0, .ref (w 0)), (1, .int (iI net)), (2, .int (iI k)), (3, .int (iI L)), (5, .int (iI sn)), (6, .int (iI tl)), (7, .int (iI th))]) hx hb d_M_step_204 hl (k := 7) rfl (iI_add _ _) (by decide) rfl (fun ls hl => ?_)
                  refine lv_goto (tgt := 72) hx hb d_M_step_207 (by decide) ?_
                  exact ih72 _ _ _ th (jx + 1) (by (try have := rcn it); (try have := rcn it); omega) (by first | exact rfa2 | exact rgfa) hth ⟨by omega, by omega, by omega, fun q => by omega⟩ (by rw [show jx + 1 - 24 * it = (jx - 24 * it) + 1 by omega]; first | (rw [cI_s1 (by omega) hyf]; omega) | (rw [cI_s0 (by omega) hnf]; omega)) (by rw [show jx + 1 - 24 * it = (jx - 24 * it) + 1 by omega]; first | exact hT2 | exact TLD_skip (by omega) hnf hT) H _ (hP.sub [0, 1, 2, 3, 4, 5, 6] rfl) (hD.sub [0, 1, 2, 3, 4, 5, 6] (by decide) rfl) hS ls (lv_sub hl [1, 2, 3, 4, 5, 6, 7, 0] rfl)
                · skip
                  have hu : usb pcn prt pnt it (jx - 24 * it) := by rcases hckr with ⟨-, w⟩ | ⟨w, -⟩; exact w; omega
                  clear hckr
                  have hto := usb_t hAK hu
                  rw [show it * 24 + (jx - 24 * it) = jx by omega] at hto
                  refine lv_aload_n hx hb d_M_step_109 rfl (lv_at hl 0 rfl) ?_
                  refine lv_aload_n hx hb d_M_step_110 rfl (lv_at hl 0 rfl) ?_
                  refine va_get (D := G) (ci := 4) (v := .ref (w 6)) (C := R_M) (T := T_M) (N := 16) hx hb hg iw_M hown hE.1 hP 3 rfl rfl 10 (by decide) (hg _ fl_M_30) (fun _ h9 => h9) rfl d_M_step_111 ?_
                  refine lv_iload hx hb d_M_step_114 (lv_at hl 7 rfl) ?_
                  refine rv_iald hx hb hE hP 5 rfl (i := jx) (by (try have := rcn it); omega) (by (try have := rcn it); omega) (by decide) d_M_step_116 ?_
                  refine qV_v (As := [.int (iI (prt jx))]) (rest := []) (wr := []) hx hb hml hown hg hE hA hS hP hD (k_M_spread l G z w it cd now gr md dO pcn prt pnt pco gus gfa (prt jx) (by assumption) (by assumption) (by assumption) (by assumption) (by assumption) (by assumption) hAK fck (by (try have := rrt jx); omega)) [3, 4, 5, 6, 1, 0, 2] [] rfl rfl (by decide) (by decide) (by decide) (q0 := 0) rfl rfl ml_M_95 im_M_spread se_M_spread in_M co_M_spread ok_M_spread ⟨Nat.le_of_ble_eq_true rfl, Nat.le_of_ble_eq_true rfl⟩ hl.1 rfl (Nat.le_of_ble_eq_true rfl) d_M_step_117 ⟨Nat.le_of_ble_eq_true rfl, Nat.le_of_ble_eq_true rfl⟩ (fun u9 H locs hw hP hD hS => ?_)
                  obtain ⟨fa2, rfl, rfa2, fD2⟩ := hw
                  have hP : va_P G cls0 [(w 0, .inr (4, [.int (iI it), .int (iI cd), .int (iI now), .ref (w 1), .ref (w 2), .int (iI gr), .int (iI md), .ref (w 3), .ref (w 4), .ref (w 5), .ref (w 6), .ref (w 7), .ref (w 8), .int (iI dO), .ref (w 9), .ref (w 10)])), (w 5, .inl (z.1, 66, .inl (aI pcn))), (w 6, .inl (z.1, 1584, .inl (aI prt))), (w 7, .inl (z.1, 1584, .inl (aI pnt))), (w 8, .inl (z.1, 1584, .inl (aI pco))), (w 9, .inl (z.2.1, 1536, .inl (aI gus))), (w 10, .inl (z.1, 64, .inl (aI fa2)))] H := hP
                  have hD : va_D A [(w 0, .inr (4, [.int (iI it), .int (iI cd), .int (iI now), .ref (w 1), .ref (w 2), .int (iI gr), .int (iI md), .ref (w 3), .ref (w 4), .ref (w 5), .ref (w 6), .ref (w 7), .ref (w 8), .int (iI dO), .ref (w 9), .ref (w 10)])), (w 5, .inl (z.1, 66, .inl (aI pcn))), (w 6, .inl (z.1, 1584, .inl (aI prt))), (w 7, .inl (z.1, 1584, .inl (aI pnt))), (w 8, .inl (z.1, 1584, .inl (aI pco))), (w 9, .inl (z.2.1, 1536, .inl (aI gus))), (w 10, .inl (z.1, 64, .inl (aI fa2)))] := hD
                  refine lv_aload_n hx hb d_M_step_120 rfl (lv_at hl 0 rfl) ?_
                  refine lv_iload_n hx hb d_M_step_121 rfl (lv_at hl 1 rfl) ?_
                  refine qV_i (As := [.int (iI net)]) (rest := []) (wr := [(w 9, .inl (z.2.1, 1536, .inl (aI gus)))]) hx hb hml hown hg hE hA hS hP hD (k_M_reach l G z w it cd now gr md dO pcn prt pnt pco fa2 net (by assumption) (by assumption) (by assumption) (by assumption) (by assumption) (by assumption) (by assumption) (by omega)) [0, 1, 2, 3, 4, 6] [5] rfl rfl (by decide) (by decide) (by decide) (q0 := 0) rfl rfl ml_M_99 im_M_reach se_M_reach in_M co_M_reach ok_M_reach ⟨Nat.le_of_ble_eq_true rfl, Nat.le_of_ble_eq_true rfl⟩ hl.1 rfl (Nat.le_of_ble_eq_true rfl) d_M_step_122 ⟨Nat.le_of_ble_eq_true rfl, Nat.le_of_ble_eq_true rfl⟩ (fun r9 u9 H locs hw hP hD hS => ?_)
                  obtain ⟨rest, rfl, rfl, frv, fR⟩ := hw
                  have hP : va_P G cls0 [(w 9, .inl (z.2.1, 1536, .inl (aI gus))), (w 0, .inr (4, [.int (iI it), .int (iI cd), .int (iI now), .ref (w 1), .ref (w 2), .int (iI gr), .int (iI md), .ref (w 3), .ref (w 4), .ref (w 5), .ref (w 6), .ref (w 7), .ref (w 8), .int (iI dO), .ref (w 9), .ref (w 10)])), (w 5, .inl (z.1, 66, .inl (aI pcn))), (w 6, .inl (z.1, 1584, .inl (aI prt))), (w 7, .inl (z.1, 1584, .inl (aI pnt))), (w 8, .inl (z.1, 1584, .inl (aI pco))), (w 10, .inl (z.1, 64, .inl (aI fa2)))] H := hP
                  have hD : va_D A [(w 9, .inl (z.2.1, 1536, .inl (aI gus))), (w 0, .inr (4, [.int (iI it), .int (iI cd), .int (iI now), .ref (w 1), .ref (w 2), .int (iI gr), .int (iI md), .ref (w 3), .ref (w 4), .ref (w 5), .ref (w 6), .ref (w 7), .ref (w 8), .int (iI dO), .ref (w 9), .ref (w 10)])), (w 5, .inl (z.1, 66, .inl (aI pcn))), (w 6, .inl (z.1, 1584, .inl (aI prt))), (w 7, .inl (z.1, 1584, .inl (aI pnt))), (w 8, .inl (z.1, 1584, .inl (aI pco))), (w 10, .inl (z.1, 64, .inl (aI fa2)))] := hD
                  have hiff := FST_model (b := (jx - 24 * it)) fD1 fL hu (by rw [show it * 24 + (jx - 24 * it) = jx by omega]; exact fD2) fR
                  rw [show it * 24 + (jx - 24 * it) = jx by omega] at hiff
                  refine lv_istore (lv' := [(9, .int (iI rest)), (0, .ref (w 0)), (1, .int (iI net)), (2, .int (iI k)), (3, .int (iI L)), (5, .int (iI sn)), (6, .int (iI tl)), (7, .int (iI th)), (8, .int (iI jx))]) hx hb d_M_step_125 hl (by decide) rfl (fun ls hl => ?_)
                  refine lv_iload hx hb d_M_step_127 (lv_at hl 0 rfl) ?_
                  refine rv_if_lt (tgt := 150) hx hb d_M_step_129 (by decide) (by constructor <;> omega) (fun c_54 => ?_) (fun c_54 => ?_)
                  · skip
                    have hnf : (fsF pcn prt pnt pco it net L) (jx - 24 * it) = 0 := fsF_0 (fun q => by have := hiff.2 q; omega)
                    refine lv_iconst (v := iI 0) hx hb d_M_step_150 rfl ?_
                    refine lv_istore (lv' := [(10, .int (iI 0)), (9, .int (iI rest)), (0, .ref (w 0)), (1, .int (iI net)), (2, .int (iI k)), (3, .int (iI L)), (5, .int (iI sn)), (6, .int (iI tl)), (7, .int (iI th)), (8, .int (iI jx))]) hx hb d_M_step_151 hl (by decide) rfl (fun ls hl => ?_)
                    refine lv_iload hx hb d_M_step_153 (lv_at hl 0 rfl) ?_
                    refine rv_if_eq (tgt := 185) hx hb d_M_step_155 (by decide) ⟨by decide, by decide⟩ (fun c_55 => ?_) (fun c_55 => ?_)
                    · skip
                      refine lv_iload hx hb d_M_step_185 (lv_at hl 7 rfl) ?_
                      refine lv_istore (lv' := [(6, .int (iI tl)), (10, .int (iI 0)), (9, .int (iI rest)), (0, .ref (w 0)), (1, .int (iI net)), (2, .int (iI k)), (3, .int (iI L)), (5, .int (iI sn)), (7, .int (iI th)), (8, .int (iI jx))]) hx hb d_M_step_187 hl (by decide) rfl (fun ls hl => ?_)
                      refine lv_iload hx hb d_M_step_189 (lv_at hl 7 rfl) ?_
                      refine lv_iload hx hb d_M_step_191 (lv_at hl 1 rfl) ?_
                      refine rv_if_eq (tgt := 200) hx hb d_M_step_193 (by decide) ⟨by decide, by decide⟩ (fun c_56 => ?_) (fun c_56 => ?_)
                      · skip
                        refine lv_iconst (v := iI 0) hx hb d_M_step_200 rfl ?_
                        refine rv_iadd hx hb d_M_step_201 ?_
                        refine lv_istore (lv' := [(5, .int (iI (sn + 0))), (6, .int (iI tl)), (10, .int (iI 0)), (9, .int (iI rest)), (0, .ref (w 0)), (1, .int (iI net)), (2, .int (iI k)), (3, .int (iI L)), (7, .int (iI th)), (8, .int (iI jx))]) hx hb d_M_step_202 hl (by decide) rfl (fun ls hl => ?_)
                        refine lv_iinc (v := iI (jx + 1)) (lv' := [(8, .int (iI (jx + 1))), (5, .int (iI (sn + 0))), (6, .int (iI tl)), (10, .int (iI 0)), (9, .int (iI rest)), (0, .ref (w 0)), (1, .int (iI net)), (2, .int (iI k)), (3, .int (iI L)), (7, .int (iI th))]) hx hb d_M_step_204 hl (k := 9) rfl (iI_add _ _) (by decide) rfl (fun ls hl => ?_)
                        refine lv_goto (tgt := 72) hx hb d_M_step_207 (by decide) ?_
                        exact ih72 _ _ _ th (jx + 1) (by (try have := rcn it); (try have := rcn it); omega) (by first | exact rfa2 | exact rgfa) hth ⟨by omega, by omega, by omega, fun q => by omega⟩ (by rw [show jx + 1 - 24 * it = (jx - 24 * it) + 1 by omega]; first | (rw [cI_s1 (by omega) hyf]; omega) | (rw [cI_s0 (by omega) hnf]; omega)) (by rw [show jx + 1 - 24 * it = (jx - 24 * it) + 1 by omega]; first | exact hT2 | exact TLD_skip (by omega) hnf hT) H _ (hP.sub [0, 5, 6, 1, 2, 3, 4] rfl) (hD.sub [0, 5, 6, 1, 2, 3, 4] (by decide) rfl) hS ls (lv_sub hl [5, 6, 7, 8, 1, 2, 9, 0] rfl)
                      · exact absurd c_56 (by decide)
                    · exact absurd c_55 (by decide)
                  · skip
                    refine lv_aload_n hx hb d_M_step_132 rfl (lv_at hl 1 rfl) ?_
                    refine va_get (D := G) (ci := 4) (v := .ref (w 8)) (C := R_M) (T := T_M) (N := 16) hx hb hg iw_M hown hE.1 hP 1 rfl rfl 12 (by decide) (hg _ fl_M_36) (fun _ h9 => h9) rfl d_M_step_133 ?_
                    refine lv_iload hx hb d_M_step_136 (lv_at hl 8 rfl) ?_
                    refine rv_iald hx hb hE hP 5 rfl (i := jx) (by (try have := rcn it); omega) (by (try have := rcn it); omega) (by decide) d_M_step_138 ?_
                    refine lv_iload hx hb d_M_step_139 (lv_at hl 0 rfl) ?_
                    refine rv_iadd hx hb d_M_step_141 ?_
                    refine lv_iload_n hx hb d_M_step_142 rfl (lv_at hl 4 rfl) ?_
                    refine rv_icmp_ne (tgt := 150) hx hb d_M_step_143 (by decide) (by (try have := rco jx); constructor <;> omega) (by constructor <;> omega) (fun c_57 => ?_) (fun c_57 => ?_)
                    · skip
                      have hnf : (fsF pcn prt pnt pco it net L) (jx - 24 * it) = 0 := fsF_0 (fun q => by have := hiff.2 q; omega)
                      refine lv_iconst (v := iI 0) hx hb d_M_step_150 rfl ?_
                      refine lv_istore (lv' := [(10, .int (iI 0)), (9, .int (iI rest)), (0, .ref (w 0)), (1, .int (iI net)), (2, .int (iI k)), (3, .int (iI L)), (5, .int (iI sn)), (6, .int (iI tl)), (7, .int (iI th)), (8, .int (iI jx))]) hx hb d_M_step_151 hl (by decide) rfl (fun ls hl => ?_)
                      refine lv_iload hx hb d_M_step_153 (lv_at hl 0 rfl) ?_
                      refine rv_if_eq (tgt := 185) hx hb d_M_step_155 (by decide) ⟨by decide, by decide⟩ (fun c_58 => ?_) (fun c_58 => ?_)
                      · skip
                        refine lv_iload hx hb d_M_step_185 (lv_at hl 7 rfl) ?_
                        refine lv_istore (lv' := [(6, .int (iI tl)), (10, .int (iI 0)), (9, .int (iI rest)), (0, .ref (w 0)), (1, .int (iI net)), (2, .int (iI k)), (3, .int (iI L)), (5, .int (iI sn)), (7, .int (iI th)), (8, .int (iI jx))]) hx hb d_M_step_187 hl (by decide) rfl (fun ls hl => ?_)
                        refine lv_iload hx hb d_M_step_189 (lv_at hl 7 rfl) ?_
                        refine lv_iload hx hb d_M_step_191 (lv_at hl 1 rfl) ?_
                        refine rv_if_eq (tgt := 200) hx hb d_M_step_193 (by decide) ⟨by decide, by decide⟩ (fun c_59 => ?_) (fun c_59 => ?_)
                        · skip
                          refine lv_iconst (v := iI 0) hx hb d_M_step_200 rfl ?_
                          refine rv_iadd hx hb d_M_step_201 ?_
                          refine lv_istore (lv' := [(5, .int (iI (sn + 0))), (6, .int (iI tl)), (10, .int (iI 0)), (9, .int (iI rest)), (0, .ref (w 0)), (1, .int (iI net)), (2, .int (iI k)), (3, .int (iI L)), (7, .int (iI th)), (8, .int (iI jx))]) hx hb d_M_step_202 hl (by decide) rfl (fun ls hl => ?_)
                          refine lv_iinc (v := iI (jx + 1)) (lv' := [(8, .int (iI (jx + 1))), (5, .int (iI (sn + 0))), (6, .int (iI tl)), (10, .int (iI 0)), (9, .int (iI rest)), (0, .ref (w 0)), (1, .int (iI net)), (2, .int (iI k)), (3, .int (iI L)), (7, .int (iI th))]) hx hb d_M_step_204 hl (k := 9) rfl (iI_add _ _) (by decide) rfl (fun ls hl => ?_)
                          refine lv_goto (tgt := 72) hx hb d_M_step_207 (by decide) ?_
                          exact ih72 _ _ _ th (jx + 1) (by (try have := rcn it); (try have := rcn it); omega) (by first | exact rfa2 | exact rgfa) hth ⟨by omega, by omega, by omega, fun q => by omega⟩ (by rw [show jx + 1 - 24 * it = (jx - 24 * it) + 1 by omega]; first | (rw [cI_s1 (by omega) hyf]; omega) | (rw [cI_s0 (by omega) hnf]; omega)) (by rw [show jx + 1 - 24 * it = (jx - 24 * it) + 1 by omega]; first | exact hT2 | exact TLD_skip (by omega) hnf hT) H _ (hP.sub [0, 5, 6, 1, 2, 3, 4] rfl) (hD.sub [0, 5, 6, 1, 2, 3, 4] (by decide) rfl) hS ls (lv_sub hl [5, 6, 7, 8, 1, 2, 9, 0] rfl)
                        · exact absurd c_59 (by decide)
                      · exact absurd c_58 (by decide)
                    · skip
                      have hyf : ¬ (fsF pcn prt pnt pco it net L) (jx - 24 * it) = 0 := fsF_1 (hiff.1 (by omega))
                      refine lv_iconst (v := iI 1) hx hb d_M_step_146 rfl ?_
                      refine lv_goto (tgt := 151) hx hb d_M_step_147 (by decide) ?_
                      refine lv_istore (lv' := [(10, .int (iI 1)), (9, .int (iI rest)), (0, .ref (w 0)), (1, .int (iI net)), (2, .int (iI k)), (3, .int (iI L)), (5, .int (iI sn)), (6, .int (iI tl)), (7, .int (iI th)), (8, .int (iI jx))]) hx hb d_M_step_151 hl (by decide) rfl (fun ls hl => ?_)
                      refine lv_iload hx hb d_M_step_153 (lv_at hl 0 rfl) ?_
                      refine rv_if_eq (tgt := 185) hx hb d_M_step_155 (by decide) ⟨by decide, by decide⟩ (fun c_60 => ?_) (fun c_60 => ?_)
                      · exact absurd c_60 (by decide)
                      · skip
                        refine lv_iload hx hb d_M_step_158 (lv_at hl 6 rfl) ?_
                        refine lv_iload_n hx hb d_M_step_160 rfl (lv_at hl 4 rfl) ?_
                        refine rv_icmp_ne (tgt := 185) hx hb d_M_step_161 (by decide) (by (try have := cI_b (fsF pcn prt pnt pco it net L) (show 0 ≤ jx - 24 * it by omega)); (try have := rcn it); constructor <;> omega) (by (try have := cI_b (fsF pcn prt pnt pco it net L) (show 0 ≤ jx - 24 * it by omega)); (try have := rcn it); constructor <;> omega) (fun c_61 => ?_) (fun c_61 => ?_)
                        · skip
                          have hT2 := TLD_miss (by omega) hyf (by omega) hT
                          refine lv_iload hx hb d_M_step_185 (lv_at hl 7 rfl) ?_
                          refine lv_istore (lv' := [(6, .int (iI tl)), (10, .int (iI 1)), (9, .int (iI rest)), (0, .ref (w 0)), (1, .int (iI net)), (2, .int (iI k)), (3, .int (iI L)), (5, .int (iI sn)), (7, .int (iI th)), (8, .int (iI jx))]) hx hb d_M_step_187 hl (by decide) rfl (fun ls hl => ?_)
                          refine lv_iload hx hb d_M_step_189 (lv_at hl 7 rfl) ?_
                          refine lv_iload hx hb d_M_step_191 (lv_at hl 1 rfl) ?_
                          refine rv_if_eq (tgt := 200) hx hb d_M_step_193 (by decide) ⟨by decide, by decide⟩ (fun c_62 => ?_) (fun c_62 => ?_)
                          · exact absurd c_62 (by decide)
                          · skip
                            refine lv_iconst (v := iI 1) hx hb d_M_step_196 rfl ?_
                            refine lv_goto (tgt := 201) hx hb d_M_step_197 (by decide) ?_
                            refine rv_iadd hx hb d_M_step_201 ?_
                            refine lv_istore (lv' := [(5, .int (iI (sn + 1))), (6, .int (iI tl)), (10, .int (iI 1)), (9, .int (iI rest)), (0, .ref (w 0)), (1, .int (iI net)), (2, .int (iI k)), (3, .int (iI L)), (7, .int (iI th)), (8, .int (iI jx))]) hx hb d_M_step_202 hl (by decide) rfl (fun ls hl => ?_)
                            refine lv_iinc (v := iI (jx + 1)) (lv' := [(8, .int (iI (jx + 1))), (5, .int (iI (sn + 1))), (6, .int (iI tl)), (10, .int (iI 1)), (9, .int (iI rest)), (0, .ref (w 0)), (1, .int (iI net)), (2, .int (iI k)), (3, .int (iI L)), (7, .int (iI th))]) hx hb d_M_step_204 hl (k := 9) rfl (iI_add _ _) (by decide) rfl (fun ls hl => ?_)
                            refine lv_goto (tgt := 72) hx hb d_M_step_207 (by decide) ?_
                            exact ih72 _ _ _ th (jx + 1) (by (try have := rcn it); (try have := rcn it); omega) (by first | exact rfa2 | exact rgfa) hth ⟨by omega, by omega, by omega, fun q => by omega⟩ (by rw [show jx + 1 - 24 * it = (jx - 24 * it) + 1 by omega]; first | (rw [cI_s1 (by omega) hyf]; omega) | (rw [cI_s0 (by omega) hnf]; omega)) (by rw [show jx + 1 - 24 * it = (jx - 24 * it) + 1 by omega]; first | exact hT2 | exact TLD_skip (by omega) hnf hT) H _ (hP.sub [0, 5, 6, 1, 2, 3, 4] rfl) (hD.sub [0, 5, 6, 1, 2, 3, 4] (by decide) rfl) hS ls (lv_sub hl [5, 6, 7, 8, 1, 2, 9, 0] rfl)
                        · skip
                          have hT2 := TLD_hit (nt := pnt) (rt := prt) (it := it) (k := k) (x := jx) (by omega) hyf (by omega) (by omega)
                          refine lv_bipush (v := iI 64) hx hb d_M_step_164 (by decide +kernel) ?_
                          refine lv_aload_n hx hb d_M_step_166 rfl (lv_at hl 2 rfl) ?_
                          refine va_get (D := G) (ci := 4) (v := .ref (w 7)) (C := R_M) (T := T_M) (N := 16) hx hb hg iw_M hown hE.1 hP 1 rfl rfl 11 (by decide) (hg _ fl_M_33) (fun _ h9 => h9) rfl d_M_step_167 ?_
                          refine lv_iload hx hb d_M_step_170 (lv_at hl 9 rfl) ?_
                          refine rv_iald hx hb hE hP 4 rfl (i := jx) (by (try have := rcn it); omega) (by (try have := rcn it); omega) (by decide) d_M_step_172 ?_
                          refine rv_imul hx hb d_M_step_173 ?_
                          refine lv_aload_n hx hb d_M_step_174 rfl (lv_at hl 2 rfl) ?_
                          refine va_get (D := G) (ci := 4) (v := .ref (w 6)) (C := R_M) (T := T_M) (N := 16) hx hb hg iw_M hown hE.1 hP 1 rfl rfl 10 (by decide) (hg _ fl_M_30) (fun _ h9 => h9) rfl d_M_step_175 ?_
                          refine lv_iload hx hb d_M_step_178 (lv_at hl 9 rfl) ?_
                          refine rv_iald hx hb hE hP 3 rfl (i := jx) (by (try have := rcn it); omega) (by (try have := rcn it); omega) (by decide) d_M_step_180 ?_
                          refine rv_iadd hx hb d_M_step_181 ?_
                          refine lv_goto (tgt := 187) hx hb d_M_step_182 (by decide) ?_
                          refine lv_istore (lv' := [(6, .int (iI ((64 * (pnt jx)) + (prt jx)))), (10, .int (iI 1)), (9, .int (iI rest)), (0, .ref (w 0)), (1, .int (iI net)), (2, .int (iI k)), (3, .int (iI L)), (5, .int (iI sn)), (7, .int (iI th)), (8, .int (iI jx))]) hx hb d_M_step_187 hl (by decide) rfl (fun ls hl => ?_)
                          refine lv_iload hx hb d_M_step_189 (lv_at hl 7 rfl) ?_
                          refine lv_iload hx hb d_M_step_191 (lv_at hl 1 rfl) ?_
                          refine rv_if_eq (tgt := 200) hx hb d_M_step_193 (by decide) ⟨by decide, by decide⟩ (fun c_63 => ?_) (fun c_63 => ?_)
                          · exact absurd c_63 (by decide)
                          · skip
                            refine lv_iconst (v := iI 1) hx hb d_M_step_196 rfl ?_
                            refine lv_goto (tgt := 201) hx hb d_M_step_197 (by decide) ?_
                            refine rv_iadd hx hb d_M_step_201 ?_
                            refine lv_istore (lv' := [(5, .int (iI (sn + 1))), (6, .int (iI ((64 * (pnt jx)) + (prt jx)))), (10, .int (iI 1)), (9, .int (iI rest)), (0, .ref (w 0)), (1, .int (iI net)), (2, .int (iI k)), (3, .int (iI L)), (7, .int (iI th)), (8, .int (iI jx))]) hx hb d_M_step_202 hl (by decide) rfl (fun ls hl => ?_)
                            refine lv_iinc (v := iI (jx + 1)) (lv' := [(8, .int (iI (jx + 1))), (5, .int (iI (sn + 1))), (6, .int (iI ((64 * (pnt jx)) + (prt jx)))), (10, .int (iI 1)), (9, .int (iI rest)), (0, .ref (w 0)), (1, .int (iI net)), (2, .int (iI k)), (3, .int (iI L)), (7, .int (iI th))]) hx hb d_M_step_204 hl (k := 9) rfl (iI_add _ _) (by decide) rfl (fun ls hl => ?_)
                            refine lv_goto (tgt := 72) hx hb d_M_step_207 (by decide) ?_
                            exact ih72 _ _ _ th (jx + 1) (by (try have := rcn it); (try have := rcn it); omega) (by first | exact rfa2 | exact rgfa) hth ⟨by omega, by omega, by omega, fun q => by omega⟩ (by rw [show jx + 1 - 24 * it = (jx - 24 * it) + 1 by omega]; first | (rw [cI_s1 (by omega) hyf]; omega) | (rw [cI_s0 (by omega) hnf]; omega)) (by rw [show jx + 1 - 24 * it = (jx - 24 * it) + 1 by omega]; first | exact hT2 | exact TLD_skip (by omega) hnf hT) H _ (hP.sub [0, 5, 6, 1, 2, 3, 4] rfl) (hD.sub [0, 5, 6, 1, 2, 3, 4] (by decide) rfl) hS ls (lv_sub hl [5, 6, 7, 8, 1, 2, 9, 0] rfl)
        exact L72 ((24 * it + pcn it - (24 * it) : Int).toNat + 1) fa1 0 (-1) _ (24 * it) (Nat.lt_succ_self _) rfa1 hthr ⟨by omega, by have := rcn it; omega, by omega, fun _ => rfl⟩ (by rw [show 24 * it - 24 * it = 0 by omega]; rfl) (by rw [show 24 * it - 24 * it = 0 by omega]; exact TLD_0) H _ (hP.sub [0, 1, 2, 3, 4, 5, 6] rfl) (hD.sub [0, 1, 2, 3, 4, 5, 6] (by decide) rfl) hS ls (lv_sub hl [6, 7, 8, 5, 3, 2, 1, 0] rfl)
set_option maxHeartbeats 4000000 in
set_option maxRecDepth 100000 in
theorem k_M_firsts (l : Launch) (G : va_G) (z : tz3) (w : Nat → Nat) (it : Int) (cd : Int) (now : Int) (gr : Int) (md : Int) (dO : Int) (pcn : Int → Int) (prt : Int → Int) (pnt : Int → Int) (pco : Int → Int) (pus : Int → Int) (pfa : Int → Int) (a : Int) (ha : inR a) (rcn : ∀ i : Int, 0 ≤ pcn i ∧ pcn i ≤ 24) (rrt : ∀ i : Int, -1 ≤ prt i ∧ prt i ≤ 63) (rnt : ∀ i : Int, 0 ≤ pnt i ∧ pnt i ≤ 63) (rco : ∀ i : Int, 0 ≤ pco i ∧ pco i ≤ 1000) (rus : ∀ i : Int, 0 ≤ pus i ∧ pus i ≤ 1) (rfa : ∀ i : Int, -1 ≤ pfa i ∧ pfa i ≤ 64000) (hAK : AOK pcn prt pco) (hit : 0 ≤ it ∧ it < 64) (hUQ : UNQ pcn prt pnt) : Ki l y_M_firsts c_M_firsts 2 (some .int) (rmD 4) G z [.ref (w 0), .int (iI a)] [(w 0, .inr (4, [.int (iI it), .int (iI cd), .int (iI now), .ref (w 1), .ref (w 2), .int (iI gr), .int (iI md), .ref (w 3), .ref (w 4), .ref (w 5), .ref (w 6), .ref (w 7), .ref (w 8), .int (iI dO), .ref (w 9), .ref (w 10)])), (w 5, .inl (z.1, 66, .inl (aI pcn))), (w 6, .inl (z.1, 1584, .inl (aI prt))), (w 7, .inl (z.1, 1584, .inl (aI pnt))), (w 8, .inl (z.1, 1584, .inl (aI pco))), (w 9, .inl (z.2.1, 1536, .inl (aI pus))), (w 10, .inl (z.1, 64, .inl (aI pfa)))] (fun r9 u9 => ∃ (rv : Int) (c2 : Int) (gus : Int → Int) (gfa : Int → Int), u9 = [(w 0, .inr (4, [.int (iI it), .int (iI c2), .int (iI now), .ref (w 1), .ref (w 2), .int (iI gr), .int (iI md), .ref (w 3), .ref (w 4), .ref (w 5), .ref (w 6), .ref (w 7), .ref (w 8), .int (iI dO), .ref (w 9), .ref (w 10)])), (w 5, .inl (z.1, 66, .inl (aI pcn))), (w 6, .inl (z.1, 1584, .inl (aI prt))), (w 7, .inl (z.1, 1584, .inl (aI pnt))), (w 8, .inl (z.1, 1584, .inl (aI pco))), (w 9, .inl (z.2.1, 1536, .inl (aI gus))), (w 10, .inl (z.1, 64, .inl (aI gfa)))] ∧ r9 = iI rv ∧ (∀ i : Int, 0 ≤ gus i ∧ gus i ≤ 1) ∧ (∀ i : Int, -1 ≤ gfa i ∧ gfa i ≤ 64000) ∧ ((¬ (0 ≤ a ∧ a < 64) ∧ c2 = 1) ∨ ((0 ≤ a ∧ a < 64) ∧ c2 = 0 ∧ ∃ (fa1 : Int → Int) (L : Int), isD (eg pcn prt pnt pco) it fa1 ∧ LST pcn prt pnt pco fa1 a 64 L ∧ STP pcn prt pnt pco fa1 it a (-1) L rv))) := by
  refine Ki.of (by decide) (Nat.le_of_ble_eq_true rfl) ?_
  intro p e s m below meth c A hB hP hD ls hl
  obtain ⟨hx, hb, hRt, hml, hown, hlocks, hg, hE, hA, hin⟩ := hB
  have hown : s.vm.findClass R_M = some m.cls := hown
  have hl : lv_has ls 2 [(0, .ref (w 0)), (1, .int (iI a))] := hl
  obtain ⟨H, hH⟩ : ∃ H, H = s.heap := ⟨_, rfl⟩
  have hS : va_S A s.heap H [] := by rw [hH]; exact va_S.rf
  rw [← hH] at hP
  rw [← hH]
  have hP : va_P G cls0 [(w 0, .inr (4, [.int (iI it), .int (iI cd), .int (iI now), .ref (w 1), .ref (w 2), .int (iI gr), .int (iI md), .ref (w 3), .ref (w 4), .ref (w 5), .ref (w 6), .ref (w 7), .ref (w 8), .int (iI dO), .ref (w 9), .ref (w 10)])), (w 5, .inl (z.1, 66, .inl (aI pcn))), (w 6, .inl (z.1, 1584, .inl (aI prt))), (w 7, .inl (z.1, 1584, .inl (aI pnt))), (w 8, .inl (z.1, 1584, .inl (aI pco))), (w 9, .inl (z.2.1, 1536, .inl (aI pus))), (w 10, .inl (z.1, 64, .inl (aI pfa)))] H := hP
  have hD : va_D A [(w 0, .inr (4, [.int (iI it), .int (iI cd), .int (iI now), .ref (w 1), .ref (w 2), .int (iI gr), .int (iI md), .ref (w 3), .ref (w 4), .ref (w 5), .ref (w 6), .ref (w 7), .ref (w 8), .int (iI dO), .ref (w 9), .ref (w 10)])), (w 5, .inl (z.1, 66, .inl (aI pcn))), (w 6, .inl (z.1, 1584, .inl (aI prt))), (w 7, .inl (z.1, 1584, .inl (aI pnt))), (w 8, .inl (z.1, 1584, .inl (aI pco))), (w 9, .inl (z.2.1, 1536, .inl (aI pus))), (w 10, .inl (z.1, 64, .inl (aI pfa)))] := hD
  refine lv_aload_n hx hb d_M_firsts_0 rfl (lv_at hl 0 rfl) ?_
  refine lv_iload_n hx hb d_M_firsts_1 rfl (lv_at hl 1 rfl) ?_
  refine lv_iconst (v := iI 0) hx hb d_M_firsts_2 rfl ?_
  refine lv_bipush (v := iI 63) hx hb d_M_firsts_3 (by decide +kernel) ?_
  refine qS_i (As := [.int (iI a), .int (iI 0), .int (iI 63)]) (rest := [.ref (w 0)]) (wr := [(w 0, .inr (4, [.int (iI it), .int (iI cd), .int (iI now), .ref (w 1), .ref (w 2), .int (iI gr), .int (iI md), .ref (w 3), .ref (w 4), .ref (w 5), .ref (w 6), .ref (w 7), .ref (w 8), .int (iI dO), .ref (w 9), .ref (w 10)])), (w 5, .inl (z.1, 66, .inl (aI pcn))), (w 6, .inl (z.1, 1584, .inl (aI prt))), (w 7, .inl (z.1, 1584, .inl (aI pnt))), (w 8, .inl (z.1, 1584, .inl (aI pco))), (w 9, .inl (z.2.1, 1536, .inl (aI pus))), (w 10, .inl (z.1, 64, .inl (aI pfa)))]) hx hb hml hown hg hE hA hS hP hD (k_M_in l G z a 0 63 (by omega) (by omega) (by omega)) [] [0, 1, 2, 3, 4, 5, 6] rfl rfl (by decide) (by decide) (by decide) ml_M_51 st_M_in in_M co_M_in ok_M_in ⟨Nat.le_of_ble_eq_true rfl, Nat.le_of_ble_eq_true rfl⟩ hl.1 rfl (Nat.le_of_ble_eq_true rfl) d_M_firsts_5 ⟨Nat.le_of_ble_eq_true rfl, Nat.le_of_ble_eq_true rfl⟩ (fun r9 u9 H locs hw hP hD hS => ?_)
  obtain ⟨rb_1, rfl, rfl, fb_2⟩ := hw
  have hP : va_P G cls0 [(w 0, .inr (4, [.int (iI it), .int (iI cd), .int (iI now), .ref (w 1), .ref (w 2), .int (iI gr), .int (iI md), .ref (w 3), .ref (w 4), .ref (w 5), .ref (w 6), .ref (w 7), .ref (w 8), .int (iI dO), .ref (w 9), .ref (w 10)])), (w 5, .inl (z.1, 66, .inl (aI pcn))), (w 6, .inl (z.1, 1584, .inl (aI prt))), (w 7, .inl (z.1, 1584, .inl (aI pnt))), (w 8, .inl (z.1, 1584, .inl (aI pco))), (w 9, .inl (z.2.1, 1536, .inl (aI pus))), (w 10, .inl (z.1, 64, .inl (aI pfa)))] H := hP
  have hD : va_D A [(w 0, .inr (4, [.int (iI it), .int (iI cd), .int (iI now), .ref (w 1), .ref (w 2), .int (iI gr), .int (iI md), .ref (w 3), .ref (w 4), .ref (w 5), .ref (w 6), .ref (w 7), .ref (w 8), .int (iI dO), .ref (w 9), .ref (w 10)])), (w 5, .inl (z.1, 66, .inl (aI pcn))), (w 6, .inl (z.1, 1584, .inl (aI prt))), (w 7, .inl (z.1, 1584, .inl (aI pnt))), (w 8, .inl (z.1, 1584, .inl (aI pco))), (w 9, .inl (z.2.1, 1536, .inl (aI pus))), (w 10, .inl (z.1, 64, .inl (aI pfa)))] := hD
  refine rv_if_eq (tgt := 15) hx hb d_M_firsts_8 (by decide) (by constructor <;> omega) (fun c_3 => ?_) (fun c_3 => ?_)
  · skip
    refine lv_iconst (v := iI 1) hx hb d_M_firsts_15 rfl ?_
    refine va_put (D := G) (ci := 4) (v := .int (iI 1)) (ty := .int) (C := R_M) (T := T_M) (N := 16) hx hb hg iw_M ty_M ty_M_ok nm_M hown hE.1 hP hD hS 0 rfl rfl 1 (by decide) (hg _ fl_M_48) (fun _ h9 => h9) rfl (by decide +kernel) rfl rfl (Nat.le_of_ble_eq_true rfl) d_M_firsts_16 (fun H locs hP hD hS => ?_)
    have hP : va_P G cls0 [(w 0, .inr (4, [.int (iI it), .int (iI 1), .int (iI now), .ref (w 1), .ref (w 2), .int (iI gr), .int (iI md), .ref (w 3), .ref (w 4), .ref (w 5), .ref (w 6), .ref (w 7), .ref (w 8), .int (iI dO), .ref (w 9), .ref (w 10)])), (w 5, .inl (z.1, 66, .inl (aI pcn))), (w 6, .inl (z.1, 1584, .inl (aI prt))), (w 7, .inl (z.1, 1584, .inl (aI pnt))), (w 8, .inl (z.1, 1584, .inl (aI pco))), (w 9, .inl (z.2.1, 1536, .inl (aI pus))), (w 10, .inl (z.1, 64, .inl (aI pfa)))] H := hP
    have hD : va_D A [(w 0, .inr (4, [.int (iI it), .int (iI 1), .int (iI now), .ref (w 1), .ref (w 2), .int (iI gr), .int (iI md), .ref (w 3), .ref (w 4), .ref (w 5), .ref (w 6), .ref (w 7), .ref (w 8), .int (iI dO), .ref (w 9), .ref (w 10)])), (w 5, .inl (z.1, 66, .inl (aI pcn))), (w 6, .inl (z.1, 1584, .inl (aI prt))), (w 7, .inl (z.1, 1584, .inl (aI pnt))), (w 8, .inl (z.1, 1584, .inl (aI pco))), (w 9, .inl (z.2.1, 1536, .inl (aI pus))), (w 10, .inl (z.1, 64, .inl (aI pfa)))] := hD
    refine lv_aload_n hx hb d_M_firsts_19 rfl (lv_at hl 0 rfl) ?_
    refine va_get (D := G) (ci := 4) (v := .int (iI 1)) (C := R_M) (T := T_M) (N := 16) hx hb hg iw_M hown hE.1 hP 0 rfl rfl 1 (by decide) (hg _ fl_M_48) (fun _ h9 => h9) rfl d_M_firsts_20 ?_
    refine rv_if_le (tgt := 30) hx hb d_M_firsts_23 (by decide) ⟨by decide, by decide⟩ (fun c_4 => ?_) (fun c_4 => ?_)
    · exact absurd c_4 (by decide)
    · skip
      refine lv_iconst (v := iI 0) hx hb d_M_firsts_26 rfl ?_
      refine lv_goto (tgt := 36) hx hb d_M_firsts_27 (by decide) ?_
      have hP9 : va_P G cls0 [(w 0, .inr (4, [.int (iI it), .int (iI 1), .int (iI now), .ref (w 1), .ref (w 2), .int (iI gr), .int (iI md), .ref (w 3), .ref (w 4), .ref (w 5), .ref (w 6), .ref (w 7), .ref (w 8), .int (iI dO), .ref (w 9), .ref (w 10)])), (w 5, .inl (z.1, 66, .inl (aI pcn))), (w 6, .inl (z.1, 1584, .inl (aI prt))), (w 7, .inl (z.1, 1584, .inl (aI pnt))), (w 8, .inl (z.1, 1584, .inl (aI pco))), (w 9, .inl (z.2.1, 1536, .inl (aI pus))), (w 10, .inl (z.1, 64, .inl (aI pfa)))] H := hP.sub [0, 1, 2, 3, 4, 5, 6] rfl
      have hD9 : va_D A [(w 0, .inr (4, [.int (iI it), .int (iI 1), .int (iI now), .ref (w 1), .ref (w 2), .int (iI gr), .int (iI md), .ref (w 3), .ref (w 4), .ref (w 5), .ref (w 6), .ref (w 7), .ref (w 8), .int (iI dO), .ref (w 9), .ref (w 10)])), (w 5, .inl (z.1, 66, .inl (aI pcn))), (w 6, .inl (z.1, 1584, .inl (aI prt))), (w 7, .inl (z.1, 1584, .inl (aI pnt))), (w 8, .inl (z.1, 1584, .inl (aI pco))), (w 9, .inl (z.2.1, 1536, .inl (aI pus))), (w 10, .inl (z.1, 64, .inl (aI pfa)))] := hD.sub [0, 1, 2, 3, 4, 5, 6] (by decide) rfl
      refine rv_iret hx hb hRt (nar_int _) hlocks (Nat.le_of_ble_eq_true rfl) (Nat.le_of_ble_eq_true rfl) hP9 hD9 hS d_M_firsts_36 ?_
      exact ⟨0, 1, pus, pfa, rfl, rfl, (by first | exact rgus | exact rus), (by first | exact rgfa | exact rfa), (by first | exact Or.inl ⟨by omega, rfl⟩ | exact Or.inr ⟨by omega, rfl, fs1⟩)⟩
  · skip
    refine lv_iconst (v := iI 0) hx hb d_M_firsts_11 rfl ?_
    refine lv_goto (tgt := 16) hx hb d_M_firsts_12 (by decide) ?_
    refine va_put (D := G) (ci := 4) (v := .int (iI 0)) (ty := .int) (C := R_M) (T := T_M) (N := 16) hx hb hg iw_M ty_M ty_M_ok nm_M hown hE.1 hP hD hS 0 rfl rfl 1 (by decide) (hg _ fl_M_48) (fun _ h9 => h9) rfl (by decide +kernel) rfl rfl (Nat.le_of_ble_eq_true rfl) d_M_firsts_16 (fun H locs hP hD hS => ?_)
    have hP : va_P G cls0 [(w 0, .inr (4, [.int (iI it), .int (iI 0), .int (iI now), .ref (w 1), .ref (w 2), .int (iI gr), .int (iI md), .ref (w 3), .ref (w 4), .ref (w 5), .ref (w 6), .ref (w 7), .ref (w 8), .int (iI dO), .ref (w 9), .ref (w 10)])), (w 5, .inl (z.1, 66, .inl (aI pcn))), (w 6, .inl (z.1, 1584, .inl (aI prt))), (w 7, .inl (z.1, 1584, .inl (aI pnt))), (w 8, .inl (z.1, 1584, .inl (aI pco))), (w 9, .inl (z.2.1, 1536, .inl (aI pus))), (w 10, .inl (z.1, 64, .inl (aI pfa)))] H := hP
    have hD : va_D A [(w 0, .inr (4, [.int (iI it), .int (iI 0), .int (iI now), .ref (w 1), .ref (w 2), .int (iI gr), .int (iI md), .ref (w 3), .ref (w 4), .ref (w 5), .ref (w 6), .ref (w 7), .ref (w 8), .int (iI dO), .ref (w 9), .ref (w 10)])), (w 5, .inl (z.1, 66, .inl (aI pcn))), (w 6, .inl (z.1, 1584, .inl (aI prt))), (w 7, .inl (z.1, 1584, .inl (aI pnt))), (w 8, .inl (z.1, 1584, .inl (aI pco))), (w 9, .inl (z.2.1, 1536, .inl (aI pus))), (w 10, .inl (z.1, 64, .inl (aI pfa)))] := hD
    refine lv_aload_n hx hb d_M_firsts_19 rfl (lv_at hl 0 rfl) ?_
    refine va_get (D := G) (ci := 4) (v := .int (iI 0)) (C := R_M) (T := T_M) (N := 16) hx hb hg iw_M hown hE.1 hP 0 rfl rfl 1 (by decide) (hg _ fl_M_48) (fun _ h9 => h9) rfl d_M_firsts_20 ?_
    refine rv_if_le (tgt := 30) hx hb d_M_firsts_23 (by decide) ⟨by decide, by decide⟩ (fun c_5 => ?_) (fun c_5 => ?_)
    · skip
      refine lv_aload_n hx hb d_M_firsts_30 rfl (lv_at hl 0 rfl) ?_
      refine lv_iload_n hx hb d_M_firsts_31 rfl (lv_at hl 1 rfl) ?_
      refine lv_iconst (v := iI (-1)) hx hb d_M_firsts_32 rfl ?_
      refine qV_i (As := [.int (iI a), .int (iI ((-1)))]) (rest := []) (wr := []) hx hb hml hown hg hE hA hS hP hD (k_M_step l G z w it 0 now gr md dO pcn prt pnt pco pus pfa a ((-1)) (by omega) (by omega) (by assumption) (by assumption) (by assumption) (by assumption) (by assumption) (by assumption) (by assumption) (by omega) (by assumption)) [0, 1, 2, 3, 4, 5, 6] [] rfl rfl (by decide) (by decide) (by decide) (q0 := 0) rfl rfl ml_M_103 im_M_step se_M_step in_M co_M_step ok_M_step ⟨Nat.le_of_ble_eq_true rfl, Nat.le_of_ble_eq_true rfl⟩ hl.1 rfl (Nat.le_of_ble_eq_true rfl) d_M_firsts_33 ⟨Nat.le_of_ble_eq_true rfl, Nat.le_of_ble_eq_true rfl⟩ (fun r9 u9 H locs hw hP hD hS => ?_)
      obtain ⟨rs, gus, gfa, rfl, rfl, rgus, rgfa, fs0, fs1⟩ := hw
      have hP : va_P G cls0 [(w 0, .inr (4, [.int (iI it), .int (iI 0), .int (iI now), .ref (w 1), .ref (w 2), .int (iI gr), .int (iI md), .ref (w 3), .ref (w 4), .ref (w 5), .ref (w 6), .ref (w 7), .ref (w 8), .int (iI dO), .ref (w 9), .ref (w 10)])), (w 5, .inl (z.1, 66, .inl (aI pcn))), (w 6, .inl (z.1, 1584, .inl (aI prt))), (w 7, .inl (z.1, 1584, .inl (aI pnt))), (w 8, .inl (z.1, 1584, .inl (aI pco))), (w 9, .inl (z.2.1, 1536, .inl (aI gus))), (w 10, .inl (z.1, 64, .inl (aI gfa)))] H := hP
      have hD : va_D A [(w 0, .inr (4, [.int (iI it), .int (iI 0), .int (iI now), .ref (w 1), .ref (w 2), .int (iI gr), .int (iI md), .ref (w 3), .ref (w 4), .ref (w 5), .ref (w 6), .ref (w 7), .ref (w 8), .int (iI dO), .ref (w 9), .ref (w 10)])), (w 5, .inl (z.1, 66, .inl (aI pcn))), (w 6, .inl (z.1, 1584, .inl (aI prt))), (w 7, .inl (z.1, 1584, .inl (aI pnt))), (w 8, .inl (z.1, 1584, .inl (aI pco))), (w 9, .inl (z.2.1, 1536, .inl (aI gus))), (w 10, .inl (z.1, 64, .inl (aI gfa)))] := hD
      have hP9 : va_P G cls0 [(w 0, .inr (4, [.int (iI it), .int (iI 0), .int (iI now), .ref (w 1), .ref (w 2), .int (iI gr), .int (iI md), .ref (w 3), .ref (w 4), .ref (w 5), .ref (w 6), .ref (w 7), .ref (w 8), .int (iI dO), .ref (w 9), .ref (w 10)])), (w 5, .inl (z.1, 66, .inl (aI pcn))), (w 6, .inl (z.1, 1584, .inl (aI prt))), (w 7, .inl (z.1, 1584, .inl (aI pnt))), (w 8, .inl (z.1, 1584, .inl (aI pco))), (w 9, .inl (z.2.1, 1536, .inl (aI gus))), (w 10, .inl (z.1, 64, .inl (aI gfa)))] H := hP.sub [0, 1, 2, 3, 4, 5, 6] rfl
      have hD9 : va_D A [(w 0, .inr (4, [.int (iI it), .int (iI 0), .int (iI now), .ref (w 1), .ref (w 2), .int (iI gr), .int (iI md), .ref (w 3), .ref (w 4), .ref (w 5), .ref (w 6), .ref (w 7), .ref (w 8), .int (iI dO), .ref (w 9), .ref (w 10)])), (w 5, .inl (z.1, 66, .inl (aI pcn))), (w 6, .inl (z.1, 1584, .inl (aI prt))), (w 7, .inl (z.1, 1584, .inl (aI pnt))), (w 8, .inl (z.1, 1584, .inl (aI pco))), (w 9, .inl (z.2.1, 1536, .inl (aI gus))), (w 10, .inl (z.1, 64, .inl (aI gfa)))] := hD.sub [0, 1, 2, 3, 4, 5, 6] (by decide) rfl
      refine rv_iret hx hb hRt (nar_int _) hlocks (Nat.le_of_ble_eq_true rfl) (Nat.le_of_ble_eq_true rfl) hP9 hD9 hS d_M_firsts_36 ?_
      exact ⟨rs, 0, gus, gfa, rfl, rfl, (by first | exact rgus | exact rus), (by first | exact rgfa | exact rfa), (by first | exact Or.inl ⟨by omega, rfl⟩ | exact Or.inr ⟨by omega, rfl, fs1⟩)⟩
    · exact absurd c_5 (by decide)
set_option maxHeartbeats 4000000 in
set_option maxRecDepth 100000 in
theorem k_M_first (l : Launch) (G : va_G) (z : tz3) (w : Nat → Nat) (it : Int) (cd : Int) (now : Int) (gr : Int) (md : Int) (dO : Int) (pcn : Int → Int) (prt : Int → Int) (pnt : Int → Int) (pco : Int → Int) (pus : Int → Int) (pfa : Int → Int) (a : Int) (k : Int) (ha : inR a) (hk : inR k) (rcn : ∀ i : Int, 0 ≤ pcn i ∧ pcn i ≤ 24) (rrt : ∀ i : Int, -1 ≤ prt i ∧ prt i ≤ 63) (rnt : ∀ i : Int, 0 ≤ pnt i ∧ pnt i ≤ 63) (rco : ∀ i : Int, 0 ≤ pco i ∧ pco i ≤ 1000) (rus : ∀ i : Int, 0 ≤ pus i ∧ pus i ≤ 1) (rfa : ∀ i : Int, -1 ≤ pfa i ∧ pfa i ≤ 64000) (hAK : AOK pcn prt pco) (hit : 0 ≤ it ∧ it < 64) (hUQ : UNQ pcn prt pnt) : Ki l y_M_first c_M_first 4 (some .int) (rmD 4) G z [.ref (w 0), .int (iI a), .int (iI k)] [(w 0, .inr (4, [.int (iI it), .int (iI cd), .int (iI now), .ref (w 1), .ref (w 2), .int (iI gr), .int (iI md), .ref (w 3), .ref (w 4), .ref (w 5), .ref (w 6), .ref (w 7), .ref (w 8), .int (iI dO), .ref (w 9), .ref (w 10)])), (w 5, .inl (z.1, 66, .inl (aI pcn))), (w 6, .inl (z.1, 1584, .inl (aI prt))), (w 7, .inl (z.1, 1584, .inl (aI pnt))), (w 8, .inl (z.1, 1584, .inl (aI pco))), (w 9, .inl (z.2.1, 1536, .inl (aI pus))), (w 10, .inl (z.1, 64, .inl (aI pfa)))] (fun r9 u9 => ∃ (rv : Int) (c2 : Int) (gus : Int → Int) (gfa : Int → Int), u9 = [(w 0, .inr (4, [.int (iI it), .int (iI c2), .int (iI now), .ref (w 1), .ref (w 2), .int (iI gr), .int (iI md), .ref (w 3), .ref (w 4), .ref (w 5), .ref (w 6), .ref (w 7), .ref (w 8), .int (iI dO), .ref (w 9), .ref (w 10)])), (w 5, .inl (z.1, 66, .inl (aI pcn))), (w 6, .inl (z.1, 1584, .inl (aI prt))), (w 7, .inl (z.1, 1584, .inl (aI pnt))), (w 8, .inl (z.1, 1584, .inl (aI pco))), (w 9, .inl (z.2.1, 1536, .inl (aI gus))), (w 10, .inl (z.1, 64, .inl (aI gfa)))] ∧ r9 = iI rv ∧ (∀ i : Int, 0 ≤ gus i ∧ gus i ≤ 1) ∧ (∀ i : Int, -1 ≤ gfa i ∧ gfa i ≤ 64000) ∧ ((¬ (0 ≤ a ∧ a < 64) ∧ c2 = 1) ∨ ((0 ≤ a ∧ a < 64) ∧ k < 0 ∧ c2 = 2) ∨ ((0 ≤ a ∧ a < 64) ∧ 0 ≤ k ∧ ∃ sv : Int, ((sv < 0 ∧ c2 = 2) ∨ (0 ≤ sv ∧ c2 = 0 ∧ rv = sv)) ∧ ∃ (fa1 : Int → Int) (L : Int), isD (eg pcn prt pnt pco) it fa1 ∧ LST pcn prt pnt pco fa1 a 64 L ∧ STP pcn prt pnt pco fa1 it a k L sv))) := by
  refine Ki.of (by decide) (Nat.le_of_ble_eq_true rfl) ?_
  intro p e s m below meth c A hB hP hD ls hl
  obtain ⟨hx, hb, hRt, hml, hown, hlocks, hg, hE, hA, hin⟩ := hB
  have hown : s.vm.findClass R_M = some m.cls := hown
  have hl : lv_has ls 4 [(0, .ref (w 0)), (1, .int (iI a)), (2, .int (iI k))] := hl
  obtain ⟨H, hH⟩ : ∃ H, H = s.heap := ⟨_, rfl⟩
  have hS : va_S A s.heap H [] := by rw [hH]; exact va_S.rf
  rw [← hH] at hP
  rw [← hH]
  have hP : va_P G cls0 [(w 0, .inr (4, [.int (iI it), .int (iI cd), .int (iI now), .ref (w 1), .ref (w 2), .int (iI gr), .int (iI md), .ref (w 3), .ref (w 4), .ref (w 5), .ref (w 6), .ref (w 7), .ref (w 8), .int (iI dO), .ref (w 9), .ref (w 10)])), (w 5, .inl (z.1, 66, .inl (aI pcn))), (w 6, .inl (z.1, 1584, .inl (aI prt))), (w 7, .inl (z.1, 1584, .inl (aI pnt))), (w 8, .inl (z.1, 1584, .inl (aI pco))), (w 9, .inl (z.2.1, 1536, .inl (aI pus))), (w 10, .inl (z.1, 64, .inl (aI pfa)))] H := hP
  have hD : va_D A [(w 0, .inr (4, [.int (iI it), .int (iI cd), .int (iI now), .ref (w 1), .ref (w 2), .int (iI gr), .int (iI md), .ref (w 3), .ref (w 4), .ref (w 5), .ref (w 6), .ref (w 7), .ref (w 8), .int (iI dO), .ref (w 9), .ref (w 10)])), (w 5, .inl (z.1, 66, .inl (aI pcn))), (w 6, .inl (z.1, 1584, .inl (aI prt))), (w 7, .inl (z.1, 1584, .inl (aI pnt))), (w 8, .inl (z.1, 1584, .inl (aI pco))), (w 9, .inl (z.2.1, 1536, .inl (aI pus))), (w 10, .inl (z.1, 64, .inl (aI pfa)))] := hD
  refine lv_aload_n hx hb d_M_first_0 rfl (lv_at hl 0 rfl) ?_
  refine lv_iload_n hx hb d_M_first_1 rfl (lv_at hl 1 rfl) ?_
  refine lv_iconst (v := iI 0) hx hb d_M_first_2 rfl ?_
  refine lv_bipush (v := iI 63) hx hb d_M_first_3 (by decide +kernel) ?_
  refine qS_i (As := [.int (iI a), .int (iI 0), .int (iI 63)]) (rest := [.ref (w 0)]) (wr := [(w 0, .inr (4, [.int (iI it), .int (iI cd), .int (iI now), .ref (w 1), .ref (w 2), .int (iI gr), .int (iI md), .ref (w 3), .ref (w 4), .ref (w 5), .ref (w 6), .ref (w 7), .ref (w 8), .int (iI dO), .ref (w 9), .ref (w 10)])), (w 5, .inl (z.1, 66, .inl (aI pcn))), (w 6, .inl (z.1, 1584, .inl (aI prt))), (w 7, .inl (z.1, 1584, .inl (aI pnt))), (w 8, .inl (z.1, 1584, .inl (aI pco))), (w 9, .inl (z.2.1, 1536, .inl (aI pus))), (w 10, .inl (z.1, 64, .inl (aI pfa)))]) hx hb hml hown hg hE hA hS hP hD (k_M_in l G z a 0 63 (by omega) (by omega) (by omega)) [] [0, 1, 2, 3, 4, 5, 6] rfl rfl (by decide) (by decide) (by decide) ml_M_51 st_M_in in_M co_M_in ok_M_in ⟨Nat.le_of_ble_eq_true rfl, Nat.le_of_ble_eq_true rfl⟩ hl.1 rfl (Nat.le_of_ble_eq_true rfl) d_M_first_5 ⟨Nat.le_of_ble_eq_true rfl, Nat.le_of_ble_eq_true rfl⟩ (fun r9 u9 H locs hw hP hD hS => ?_)
  obtain ⟨rb_1, rfl, rfl, fb_2⟩ := hw
  have hP : va_P G cls0 [(w 0, .inr (4, [.int (iI it), .int (iI cd), .int (iI now), .ref (w 1), .ref (w 2), .int (iI gr), .int (iI md), .ref (w 3), .ref (w 4), .ref (w 5), .ref (w 6), .ref (w 7), .ref (w 8), .int (iI dO), .ref (w 9), .ref (w 10)])), (w 5, .inl (z.1, 66, .inl (aI pcn))), (w 6, .inl (z.1, 1584, .inl (aI prt))), (w 7, .inl (z.1, 1584, .inl (aI pnt))), (w 8, .inl (z.1, 1584, .inl (aI pco))), (w 9, .inl (z.2.1, 1536, .inl (aI pus))), (w 10, .inl (z.1, 64, .inl (aI pfa)))] H := hP
  have hD : va_D A [(w 0, .inr (4, [.int (iI it), .int (iI cd), .int (iI now), .ref (w 1), .ref (w 2), .int (iI gr), .int (iI md), .ref (w 3), .ref (w 4), .ref (w 5), .ref (w 6), .ref (w 7), .ref (w 8), .int (iI dO), .ref (w 9), .ref (w 10)])), (w 5, .inl (z.1, 66, .inl (aI pcn))), (w 6, .inl (z.1, 1584, .inl (aI prt))), (w 7, .inl (z.1, 1584, .inl (aI pnt))), (w 8, .inl (z.1, 1584, .inl (aI pco))), (w 9, .inl (z.2.1, 1536, .inl (aI pus))), (w 10, .inl (z.1, 64, .inl (aI pfa)))] := hD
  refine rv_if_eq (tgt := 15) hx hb d_M_first_8 (by decide) (by constructor <;> omega) (fun c_3 => ?_) (fun c_3 => ?_)
  · skip
    refine lv_iconst (v := iI 1) hx hb d_M_first_15 rfl ?_
    refine va_put (D := G) (ci := 4) (v := .int (iI 1)) (ty := .int) (C := R_M) (T := T_M) (N := 16) hx hb hg iw_M ty_M ty_M_ok nm_M hown hE.1 hP hD hS 0 rfl rfl 1 (by decide) (hg _ fl_M_48) (fun _ h9 => h9) rfl (by decide +kernel) rfl rfl (Nat.le_of_ble_eq_true rfl) d_M_first_16 (fun H locs hP hD hS => ?_)
    have hP : va_P G cls0 [(w 0, .inr (4, [.int (iI it), .int (iI 1), .int (iI now), .ref (w 1), .ref (w 2), .int (iI gr), .int (iI md), .ref (w 3), .ref (w 4), .ref (w 5), .ref (w 6), .ref (w 7), .ref (w 8), .int (iI dO), .ref (w 9), .ref (w 10)])), (w 5, .inl (z.1, 66, .inl (aI pcn))), (w 6, .inl (z.1, 1584, .inl (aI prt))), (w 7, .inl (z.1, 1584, .inl (aI pnt))), (w 8, .inl (z.1, 1584, .inl (aI pco))), (w 9, .inl (z.2.1, 1536, .inl (aI pus))), (w 10, .inl (z.1, 64, .inl (aI pfa)))] H := hP
    have hD : va_D A [(w 0, .inr (4, [.int (iI it), .int (iI 1), .int (iI now), .ref (w 1), .ref (w 2), .int (iI gr), .int (iI md), .ref (w 3), .ref (w 4), .ref (w 5), .ref (w 6), .ref (w 7), .ref (w 8), .int (iI dO), .ref (w 9), .ref (w 10)])), (w 5, .inl (z.1, 66, .inl (aI pcn))), (w 6, .inl (z.1, 1584, .inl (aI prt))), (w 7, .inl (z.1, 1584, .inl (aI pnt))), (w 8, .inl (z.1, 1584, .inl (aI pco))), (w 9, .inl (z.2.1, 1536, .inl (aI pus))), (w 10, .inl (z.1, 64, .inl (aI pfa)))] := hD
    refine lv_aload_n hx hb d_M_first_19 rfl (lv_at hl 0 rfl) ?_
    refine va_get (D := G) (ci := 4) (v := .int (iI 1)) (C := R_M) (T := T_M) (N := 16) hx hb hg iw_M hown hE.1 hP 0 rfl rfl 1 (by decide) (hg _ fl_M_48) (fun _ h9 => h9) rfl d_M_first_20 ?_
    refine rv_if_le (tgt := 28) hx hb d_M_first_23 (by decide) ⟨by decide, by decide⟩ (fun c_4 => ?_) (fun c_4 => ?_)
    · exact absurd c_4 (by decide)
    · skip
      refine lv_iconst (v := iI 0) hx hb d_M_first_26 rfl ?_
      have hP9 : va_P G cls0 [(w 0, .inr (4, [.int (iI it), .int (iI 1), .int (iI now), .ref (w 1), .ref (w 2), .int (iI gr), .int (iI md), .ref (w 3), .ref (w 4), .ref (w 5), .ref (w 6), .ref (w 7), .ref (w 8), .int (iI dO), .ref (w 9), .ref (w 10)])), (w 5, .inl (z.1, 66, .inl (aI pcn))), (w 6, .inl (z.1, 1584, .inl (aI prt))), (w 7, .inl (z.1, 1584, .inl (aI pnt))), (w 8, .inl (z.1, 1584, .inl (aI pco))), (w 9, .inl (z.2.1, 1536, .inl (aI pus))), (w 10, .inl (z.1, 64, .inl (aI pfa)))] H := hP.sub [0, 1, 2, 3, 4, 5, 6] rfl
      have hD9 : va_D A [(w 0, .inr (4, [.int (iI it), .int (iI 1), .int (iI now), .ref (w 1), .ref (w 2), .int (iI gr), .int (iI md), .ref (w 3), .ref (w 4), .ref (w 5), .ref (w 6), .ref (w 7), .ref (w 8), .int (iI dO), .ref (w 9), .ref (w 10)])), (w 5, .inl (z.1, 66, .inl (aI pcn))), (w 6, .inl (z.1, 1584, .inl (aI prt))), (w 7, .inl (z.1, 1584, .inl (aI pnt))), (w 8, .inl (z.1, 1584, .inl (aI pco))), (w 9, .inl (z.2.1, 1536, .inl (aI pus))), (w 10, .inl (z.1, 64, .inl (aI pfa)))] := hD.sub [0, 1, 2, 3, 4, 5, 6] (by decide) rfl
      refine rv_iret hx hb hRt (nar_int _) hlocks (Nat.le_of_ble_eq_true rfl) (Nat.le_of_ble_eq_true rfl) hP9 hD9 hS d_M_first_27 ?_
      exact ⟨0, 1, pus, pfa, rfl, rfl, rus, rfa, (Or.inl ⟨by omega, rfl⟩)⟩
  · skip
    refine lv_iconst (v := iI 0) hx hb d_M_first_11 rfl ?_
    refine lv_goto (tgt := 16) hx hb d_M_first_12 (by decide) ?_
    refine va_put (D := G) (ci := 4) (v := .int (iI 0)) (ty := .int) (C := R_M) (T := T_M) (N := 16) hx hb hg iw_M ty_M ty_M_ok nm_M hown hE.1 hP hD hS 0 rfl rfl 1 (by decide) (hg _ fl_M_48) (fun _ h9 => h9) rfl (by decide +kernel) rfl rfl (Nat.le_of_ble_eq_true rfl) d_M_first_16 (fun H locs hP hD hS => ?_)
    have hP : va_P G cls0 [(w 0, .inr (4, [.int (iI it), .int (iI 0), .int (iI now), .ref (w 1), .ref (w 2), .int (iI gr), .int (iI md), .ref (w 3), .ref (w 4), .ref (w 5), .ref (w 6), .ref (w 7), .ref (w 8), .int (iI dO), .ref (w 9), .ref (w 10)])), (w 5, .inl (z.1, 66, .inl (aI pcn))), (w 6, .inl (z.1, 1584, .inl (aI prt))), (w 7, .inl (z.1, 1584, .inl (aI pnt))), (w 8, .inl (z.1, 1584, .inl (aI pco))), (w 9, .inl (z.2.1, 1536, .inl (aI pus))), (w 10, .inl (z.1, 64, .inl (aI pfa)))] H := hP
    have hD : va_D A [(w 0, .inr (4, [.int (iI it), .int (iI 0), .int (iI now), .ref (w 1), .ref (w 2), .int (iI gr), .int (iI md), .ref (w 3), .ref (w 4), .ref (w 5), .ref (w 6), .ref (w 7), .ref (w 8), .int (iI dO), .ref (w 9), .ref (w 10)])), (w 5, .inl (z.1, 66, .inl (aI pcn))), (w 6, .inl (z.1, 1584, .inl (aI prt))), (w 7, .inl (z.1, 1584, .inl (aI pnt))), (w 8, .inl (z.1, 1584, .inl (aI pco))), (w 9, .inl (z.2.1, 1536, .inl (aI pus))), (w 10, .inl (z.1, 64, .inl (aI pfa)))] := hD
    refine lv_aload_n hx hb d_M_first_19 rfl (lv_at hl 0 rfl) ?_
    refine va_get (D := G) (ci := 4) (v := .int (iI 0)) (C := R_M) (T := T_M) (N := 16) hx hb hg iw_M hown hE.1 hP 0 rfl rfl 1 (by decide) (hg _ fl_M_48) (fun _ h9 => h9) rfl d_M_first_20 ?_
    refine rv_if_le (tgt := 28) hx hb d_M_first_23 (by decide) ⟨by decide, by decide⟩ (fun c_5 => ?_) (fun c_5 => ?_)
    · skip
      refine lv_iload_n hx hb d_M_first_28 rfl (lv_at hl 2 rfl) ?_
      refine rv_if_ge (tgt := 36) hx hb d_M_first_29 (by decide) (by constructor <;> omega) (fun c_6 => ?_) (fun c_6 => ?_)
      · skip
        refine lv_aload_n hx hb d_M_first_36 rfl (lv_at hl 0 rfl) ?_
        refine lv_iload_n hx hb d_M_first_37 rfl (lv_at hl 1 rfl) ?_
        refine lv_iload_n hx hb d_M_first_38 rfl (lv_at hl 2 rfl) ?_
        refine qV_i (As := [.int (iI a), .int (iI k)]) (rest := []) (wr := []) hx hb hml hown hg hE hA hS hP hD (k_M_step l G z w it 0 now gr md dO pcn prt pnt pco pus pfa a k (by omega) (by omega) (by assumption) (by assumption) (by assumption) (by assumption) (by assumption) (by assumption) (by assumption) (by omega) (by assumption)) [0, 1, 2, 3, 4, 5, 6] [] rfl rfl (by decide) (by decide) (by decide) (q0 := 0) rfl rfl ml_M_103 im_M_step se_M_step in_M co_M_step ok_M_step ⟨Nat.le_of_ble_eq_true rfl, Nat.le_of_ble_eq_true rfl⟩ hl.1 rfl (Nat.le_of_ble_eq_true rfl) d_M_first_39 ⟨Nat.le_of_ble_eq_true rfl, Nat.le_of_ble_eq_true rfl⟩ (fun r9 u9 H locs hw hP hD hS => ?_)
        obtain ⟨rs, gus, gfa, rfl, rfl, rgus, rgfa, fs0, fs1⟩ := hw
        have hP : va_P G cls0 [(w 0, .inr (4, [.int (iI it), .int (iI 0), .int (iI now), .ref (w 1), .ref (w 2), .int (iI gr), .int (iI md), .ref (w 3), .ref (w 4), .ref (w 5), .ref (w 6), .ref (w 7), .ref (w 8), .int (iI dO), .ref (w 9), .ref (w 10)])), (w 5, .inl (z.1, 66, .inl (aI pcn))), (w 6, .inl (z.1, 1584, .inl (aI prt))), (w 7, .inl (z.1, 1584, .inl (aI pnt))), (w 8, .inl (z.1, 1584, .inl (aI pco))), (w 9, .inl (z.2.1, 1536, .inl (aI gus))), (w 10, .inl (z.1, 64, .inl (aI gfa)))] H := hP
        have hD : va_D A [(w 0, .inr (4, [.int (iI it), .int (iI 0), .int (iI now), .ref (w 1), .ref (w 2), .int (iI gr), .int (iI md), .ref (w 3), .ref (w 4), .ref (w 5), .ref (w 6), .ref (w 7), .ref (w 8), .int (iI dO), .ref (w 9), .ref (w 10)])), (w 5, .inl (z.1, 66, .inl (aI pcn))), (w 6, .inl (z.1, 1584, .inl (aI prt))), (w 7, .inl (z.1, 1584, .inl (aI pnt))), (w 8, .inl (z.1, 1584, .inl (aI pco))), (w 9, .inl (z.2.1, 1536, .inl (aI gus))), (w 10, .inl (z.1, 64, .inl (aI gfa)))] := hD
        refine lv_istore_n (lv' := [(3, .int (iI rs)), (0, .ref (w 0)), (1, .int (iI a)), (2, .int (iI k))]) hx hb d_M_first_42 rfl hl (by decide) rfl (fun ls hl => ?_)
        refine lv_aload_n hx hb d_M_first_43 rfl (lv_at hl 1 rfl) ?_
        refine lv_iload_n hx hb d_M_first_44 rfl (lv_at hl 0 rfl) ?_
        refine rv_if_ge (tgt := 52) hx hb d_M_first_45 (by decide) (by constructor <;> omega) (fun c_7 => ?_) (fun c_7 => ?_)
        · skip
          refine lv_iconst (v := iI 0) hx hb d_M_first_52 rfl ?_
          refine va_put (D := G) (ci := 4) (v := .int (iI 0)) (ty := .int) (C := R_M) (T := T_M) (N := 16) hx hb hg iw_M ty_M ty_M_ok nm_M hown hE.1 hP hD hS 0 rfl rfl 1 (by decide) (hg _ fl_M_48) (fun _ h9 => h9) rfl (by decide +kernel) rfl rfl (Nat.le_of_ble_eq_true rfl) d_M_first_53 (fun H locs hP hD hS => ?_)
          have hP : va_P G cls0 [(w 0, .inr (4, [.int (iI it), .int (iI 0), .int (iI now), .ref (w 1), .ref (w 2), .int (iI gr), .int (iI md), .ref (w 3), .ref (w 4), .ref (w 5), .ref (w 6), .ref (w 7), .ref (w 8), .int (iI dO), .ref (w 9), .ref (w 10)])), (w 5, .inl (z.1, 66, .inl (aI pcn))), (w 6, .inl (z.1, 1584, .inl (aI prt))), (w 7, .inl (z.1, 1584, .inl (aI pnt))), (w 8, .inl (z.1, 1584, .inl (aI pco))), (w 9, .inl (z.2.1, 1536, .inl (aI gus))), (w 10, .inl (z.1, 64, .inl (aI gfa)))] H := hP
          have hD : va_D A [(w 0, .inr (4, [.int (iI it), .int (iI 0), .int (iI now), .ref (w 1), .ref (w 2), .int (iI gr), .int (iI md), .ref (w 3), .ref (w 4), .ref (w 5), .ref (w 6), .ref (w 7), .ref (w 8), .int (iI dO), .ref (w 9), .ref (w 10)])), (w 5, .inl (z.1, 66, .inl (aI pcn))), (w 6, .inl (z.1, 1584, .inl (aI prt))), (w 7, .inl (z.1, 1584, .inl (aI pnt))), (w 8, .inl (z.1, 1584, .inl (aI pco))), (w 9, .inl (z.2.1, 1536, .inl (aI gus))), (w 10, .inl (z.1, 64, .inl (aI gfa)))] := hD
          refine lv_aload_n hx hb d_M_first_56 rfl (lv_at hl 1 rfl) ?_
          refine va_get (D := G) (ci := 4) (v := .int (iI 0)) (C := R_M) (T := T_M) (N := 16) hx hb hg iw_M hown hE.1 hP 0 rfl rfl 1 (by decide) (hg _ fl_M_48) (fun _ h9 => h9) rfl d_M_first_57 ?_
          refine rv_if_le (tgt := 67) hx hb d_M_first_60 (by decide) ⟨by decide, by decide⟩ (fun c_8 => ?_) (fun c_8 => ?_)
          · skip
            refine lv_iload_n hx hb d_M_first_67 rfl (lv_at hl 0 rfl) ?_
            have hP9 : va_P G cls0 [(w 0, .inr (4, [.int (iI it), .int (iI 0), .int (iI now), .ref (w 1), .ref (w 2), .int (iI gr), .int (iI md), .ref (w 3), .ref (w 4), .ref (w 5), .ref (w 6), .ref (w 7), .ref (w 8), .int (iI dO), .ref (w 9), .ref (w 10)])), (w 5, .inl (z.1, 66, .inl (aI pcn))), (w 6, .inl (z.1, 1584, .inl (aI prt))), (w 7, .inl (z.1, 1584, .inl (aI pnt))), (w 8, .inl (z.1, 1584, .inl (aI pco))), (w 9, .inl (z.2.1, 1536, .inl (aI gus))), (w 10, .inl (z.1, 64, .inl (aI gfa)))] H := hP.sub [0, 1, 2, 3, 4, 5, 6] rfl
            have hD9 : va_D A [(w 0, .inr (4, [.int (iI it), .int (iI 0), .int (iI now), .ref (w 1), .ref (w 2), .int (iI gr), .int (iI md), .ref (w 3), .ref (w 4), .ref (w 5), .ref (w 6), .ref (w 7), .ref (w 8), .int (iI dO), .ref (w 9), .ref (w 10)])), (w 5, .inl (z.1, 66, .inl (aI pcn))), (w 6, .inl (z.1, 1584, .inl (aI prt))), (w 7, .inl (z.1, 1584, .inl (aI pnt))), (w 8, .inl (z.1, 1584, .inl (aI pco))), (w 9, .inl (z.2.1, 1536, .inl (aI gus))), (w 10, .inl (z.1, 64, .inl (aI gfa)))] := hD.sub [0, 1, 2, 3, 4, 5, 6] (by decide) rfl
            refine rv_iret hx hb hRt (nar_int _) hlocks (Nat.le_of_ble_eq_true rfl) (Nat.le_of_ble_eq_true rfl) hP9 hD9 hS d_M_first_68 ?_
            exact ⟨rs, 0, gus, gfa, rfl, rfl, (by first | exact rgus | exact rus), (by first | exact rgfa | exact rfa), (by first | exact Or.inr (Or.inl ⟨by omega, by omega, rfl⟩) | exact Or.inr (Or.inr ⟨by omega, by omega, rs, by first | exact Or.inl ⟨by omega, rfl⟩ | exact Or.inr ⟨by omega, rfl, rfl⟩, fs1⟩))⟩
          · exact absurd c_8 (by decide)
        · skip
          refine lv_iconst (v := iI 2) hx hb d_M_first_48 rfl ?_
          refine lv_goto (tgt := 53) hx hb d_M_first_49 (by decide) ?_
          refine va_put (D := G) (ci := 4) (v := .int (iI 2)) (ty := .int) (C := R_M) (T := T_M) (N := 16) hx hb hg iw_M ty_M ty_M_ok nm_M hown hE.1 hP hD hS 0 rfl rfl 1 (by decide) (hg _ fl_M_48) (fun _ h9 => h9) rfl (by decide +kernel) rfl rfl (Nat.le_of_ble_eq_true rfl) d_M_first_53 (fun H locs hP hD hS => ?_)
          have hP : va_P G cls0 [(w 0, .inr (4, [.int (iI it), .int (iI 2), .int (iI now), .ref (w 1), .ref (w 2), .int (iI gr), .int (iI md), .ref (w 3), .ref (w 4), .ref (w 5), .ref (w 6), .ref (w 7), .ref (w 8), .int (iI dO), .ref (w 9), .ref (w 10)])), (w 5, .inl (z.1, 66, .inl (aI pcn))), (w 6, .inl (z.1, 1584, .inl (aI prt))), (w 7, .inl (z.1, 1584, .inl (aI pnt))), (w 8, .inl (z.1, 1584, .inl (aI pco))), (w 9, .inl (z.2.1, 1536, .inl (aI gus))), (w 10, .inl (z.1, 64, .inl (aI gfa)))] H := hP
          have hD : va_D A [(w 0, .inr (4, [.int (iI it), .int (iI 2), .int (iI now), .ref (w 1), .ref (w 2), .int (iI gr), .int (iI md), .ref (w 3), .ref (w 4), .ref (w 5), .ref (w 6), .ref (w 7), .ref (w 8), .int (iI dO), .ref (w 9), .ref (w 10)])), (w 5, .inl (z.1, 66, .inl (aI pcn))), (w 6, .inl (z.1, 1584, .inl (aI prt))), (w 7, .inl (z.1, 1584, .inl (aI pnt))), (w 8, .inl (z.1, 1584, .inl (aI pco))), (w 9, .inl (z.2.1, 1536, .inl (aI gus))), (w 10, .inl (z.1, 64, .inl (aI gfa)))] := hD
          refine lv_aload_n hx hb d_M_first_56 rfl (lv_at hl 1 rfl) ?_
          refine va_get (D := G) (ci := 4) (v := .int (iI 2)) (C := R_M) (T := T_M) (N := 16) hx hb hg iw_M hown hE.1 hP 0 rfl rfl 1 (by decide) (hg _ fl_M_48) (fun _ h9 => h9) rfl d_M_first_57 ?_
          refine rv_if_le (tgt := 67) hx hb d_M_first_60 (by decide) ⟨by decide, by decide⟩ (fun c_9 => ?_) (fun c_9 => ?_)
          · exact absurd c_9 (by decide)
          · skip
            refine lv_iconst (v := iI 0) hx hb d_M_first_63 rfl ?_
            refine lv_goto (tgt := 68) hx hb d_M_first_64 (by decide) ?_
            have hP9 : va_P G cls0 [(w 0, .inr (4, [.int (iI it), .int (iI 2), .int (iI now), .ref (w 1), .ref (w 2), .int (iI gr), .int (iI md), .ref (w 3), .ref (w 4), .ref (w 5), .ref (w 6), .ref (w 7), .ref (w 8), .int (iI dO), .ref (w 9), .ref (w 10)])), (w 5, .inl (z.1, 66, .inl (aI pcn))), (w 6, .inl (z.1, 1584, .inl (aI prt))), (w 7, .inl (z.1, 1584, .inl (aI pnt))), (w 8, .inl (z.1, 1584, .inl (aI pco))), (w 9, .inl (z.2.1, 1536, .inl (aI gus))), (w 10, .inl (z.1, 64, .inl (aI gfa)))] H := hP.sub [0, 1, 2, 3, 4, 5, 6] rfl
            have hD9 : va_D A [(w 0, .inr (4, [.int (iI it), .int (iI 2), .int (iI now), .ref (w 1), .ref (w 2), .int (iI gr), .int (iI md), .ref (w 3), .ref (w 4), .ref (w 5), .ref (w 6), .ref (w 7), .ref (w 8), .int (iI dO), .ref (w 9), .ref (w 10)])), (w 5, .inl (z.1, 66, .inl (aI pcn))), (w 6, .inl (z.1, 1584, .inl (aI prt))), (w 7, .inl (z.1, 1584, .inl (aI pnt))), (w 8, .inl (z.1, 1584, .inl (aI pco))), (w 9, .inl (z.2.1, 1536, .inl (aI gus))), (w 10, .inl (z.1, 64, .inl (aI gfa)))] := hD.sub [0, 1, 2, 3, 4, 5, 6] (by decide) rfl
            refine rv_iret hx hb hRt (nar_int _) hlocks (Nat.le_of_ble_eq_true rfl) (Nat.le_of_ble_eq_true rfl) hP9 hD9 hS d_M_first_68 ?_
            exact ⟨0, 2, gus, gfa, rfl, rfl, (by first | exact rgus | exact rus), (by first | exact rgfa | exact rfa), (by first | exact Or.inr (Or.inl ⟨by omega, by omega, rfl⟩) | exact Or.inr (Or.inr ⟨by omega, by omega, rs, by first | exact Or.inl ⟨by omega, rfl⟩ | exact Or.inr ⟨by omega, rfl, rfl⟩, fs1⟩))⟩
      · skip
        refine lv_iconst (v := iI (-1)) hx hb d_M_first_32 rfl ?_
        refine lv_goto (tgt := 42) hx hb d_M_first_33 (by decide) ?_
        refine lv_istore_n (lv' := [(3, .int (iI ((-1)))), (0, .ref (w 0)), (1, .int (iI a)), (2, .int (iI k))]) hx hb d_M_first_42 rfl hl (by decide) rfl (fun ls hl => ?_)
        refine lv_aload_n hx hb d_M_first_43 rfl (lv_at hl 1 rfl) ?_
        refine lv_iload_n hx hb d_M_first_44 rfl (lv_at hl 0 rfl) ?_
        refine rv_if_ge (tgt := 52) hx hb d_M_first_45 (by decide) ⟨by decide, by decide⟩ (fun c_10 => ?_) (fun c_10 => ?_)
        · exact absurd c_10 (by decide)
        · skip
          refine lv_iconst (v := iI 2) hx hb d_M_first_48 rfl ?_
          refine lv_goto (tgt := 53) hx hb d_M_first_49 (by decide) ?_
          refine va_put (D := G) (ci := 4) (v := .int (iI 2)) (ty := .int) (C := R_M) (T := T_M) (N := 16) hx hb hg iw_M ty_M ty_M_ok nm_M hown hE.1 hP hD hS 0 rfl rfl 1 (by decide) (hg _ fl_M_48) (fun _ h9 => h9) rfl (by decide +kernel) rfl rfl (Nat.le_of_ble_eq_true rfl) d_M_first_53 (fun H locs hP hD hS => ?_)
          have hP : va_P G cls0 [(w 0, .inr (4, [.int (iI it), .int (iI 2), .int (iI now), .ref (w 1), .ref (w 2), .int (iI gr), .int (iI md), .ref (w 3), .ref (w 4), .ref (w 5), .ref (w 6), .ref (w 7), .ref (w 8), .int (iI dO), .ref (w 9), .ref (w 10)])), (w 5, .inl (z.1, 66, .inl (aI pcn))), (w 6, .inl (z.1, 1584, .inl (aI prt))), (w 7, .inl (z.1, 1584, .inl (aI pnt))), (w 8, .inl (z.1, 1584, .inl (aI pco))), (w 9, .inl (z.2.1, 1536, .inl (aI pus))), (w 10, .inl (z.1, 64, .inl (aI pfa)))] H := hP
          have hD : va_D A [(w 0, .inr (4, [.int (iI it), .int (iI 2), .int (iI now), .ref (w 1), .ref (w 2), .int (iI gr), .int (iI md), .ref (w 3), .ref (w 4), .ref (w 5), .ref (w 6), .ref (w 7), .ref (w 8), .int (iI dO), .ref (w 9), .ref (w 10)])), (w 5, .inl (z.1, 66, .inl (aI pcn))), (w 6, .inl (z.1, 1584, .inl (aI prt))), (w 7, .inl (z.1, 1584, .inl (aI pnt))), (w 8, .inl (z.1, 1584, .inl (aI pco))), (w 9, .inl (z.2.1, 1536, .inl (aI pus))), (w 10, .inl (z.1, 64, .inl (aI pfa)))] := hD
          refine lv_aload_n hx hb d_M_first_56 rfl (lv_at hl 1 rfl) ?_
          refine va_get (D := G) (ci := 4) (v := .int (iI 2)) (C := R_M) (T := T_M) (N := 16) hx hb hg iw_M hown hE.1 hP 0 rfl rfl 1 (by decide) (hg _ fl_M_48) (fun _ h9 => h9) rfl d_M_first_57 ?_
          refine rv_if_le (tgt := 67) hx hb d_M_first_60 (by decide) ⟨by decide, by decide⟩ (fun c_11 => ?_) (fun c_11 => ?_)
          · exact absurd c_11 (by decide)
          · skip
            refine lv_iconst (v := iI 0) hx hb d_M_first_63 rfl ?_
            refine lv_goto (tgt := 68) hx hb d_M_first_64 (by decide) ?_
            have hP9 : va_P G cls0 [(w 0, .inr (4, [.int (iI it), .int (iI 2), .int (iI now), .ref (w 1), .ref (w 2), .int (iI gr), .int (iI md), .ref (w 3), .ref (w 4), .ref (w 5), .ref (w 6), .ref (w 7), .ref (w 8), .int (iI dO), .ref (w 9), .ref (w 10)])), (w 5, .inl (z.1, 66, .inl (aI pcn))), (w 6, .inl (z.1, 1584, .inl (aI prt))), (w 7, .inl (z.1, 1584, .inl (aI pnt))), (w 8, .inl (z.1, 1584, .inl (aI pco))), (w 9, .inl (z.2.1, 1536, .inl (aI pus))), (w 10, .inl (z.1, 64, .inl (aI pfa)))] H := hP.sub [0, 1, 2, 3, 4, 5, 6] rfl
            have hD9 : va_D A [(w 0, .inr (4, [.int (iI it), .int (iI 2), .int (iI now), .ref (w 1), .ref (w 2), .int (iI gr), .int (iI md), .ref (w 3), .ref (w 4), .ref (w 5), .ref (w 6), .ref (w 7), .ref (w 8), .int (iI dO), .ref (w 9), .ref (w 10)])), (w 5, .inl (z.1, 66, .inl (aI pcn))), (w 6, .inl (z.1, 1584, .inl (aI prt))), (w 7, .inl (z.1, 1584, .inl (aI pnt))), (w 8, .inl (z.1, 1584, .inl (aI pco))), (w 9, .inl (z.2.1, 1536, .inl (aI pus))), (w 10, .inl (z.1, 64, .inl (aI pfa)))] := hD.sub [0, 1, 2, 3, 4, 5, 6] (by decide) rfl
            refine rv_iret hx hb hRt (nar_int _) hlocks (Nat.le_of_ble_eq_true rfl) (Nat.le_of_ble_eq_true rfl) hP9 hD9 hS d_M_first_68 ?_
            exact ⟨0, 2, pus, pfa, rfl, rfl, (by first | exact rgus | exact rus), (by first | exact rgfa | exact rfa), (by first | exact Or.inr (Or.inl ⟨by omega, by omega, rfl⟩) | exact Or.inr (Or.inr ⟨by omega, by omega, rs, by first | exact Or.inl ⟨by omega, rfl⟩ | exact Or.inr ⟨by omega, rfl, rfl⟩, fs1⟩))⟩
    · exact absurd c_5 (by decide)
