set_option maxHeartbeats 4000000 in
set_option maxRecDepth 100000 in
theorem k_M_entry (l : Launch) (G : va_G) (z : tz3) (w : Nat → Nat) (it : Int) (cd : Int) (now : Int) (gr : Int) (md : Int) (dO : Int) (pnu : Int → Int) (pcn : Int → Int) (prt : Int → Int) (pnt : Int → Int) (pco : Int → Int) (router : Int) (net : Int) (cost : Int) (rnu : ∀ i : Int, 0 ≤ pnu i ∧ pnu i ≤ 1100000000) (rcn : ∀ i : Int, 0 ≤ pcn i ∧ pcn i ≤ 24) (rrt : ∀ i : Int, -1 ≤ prt i ∧ prt i ≤ 63) (rnt : ∀ i : Int, 0 ≤ pnt i ∧ pnt i ≤ 63) (rco : ∀ i : Int, 0 ≤ pco i ∧ pco i ≤ 1000) (hrr : inR router) (hnn : inR net) (hcc : inR cost) (hdO : inR dO) : Ki l y_M_entry c_M_entry 5 (some .int) (rmD 1) G z [.ref (w 0), .int (iI router), .int (iI net), .int (iI cost)] [(w 0, .inr (4, [.int (iI it), .int (iI cd), .int (iI now), .ref (w 1), .ref (w 2), .int (iI gr), .int (iI md), .ref (w 3), .ref (w 4), .ref (w 5), .ref (w 6), .ref (w 7), .ref (w 8), .int (iI dO), .ref (w 9), .ref (w 10)])), (w 3, .inl (z.1, 66, .inl (aI pnu))), (w 5, .inl (z.1, 66, .inl (aI pcn))), (w 6, .inl (z.1, 1584, .inl (aI prt))), (w 7, .inl (z.1, 1584, .inl (aI pnt))), (w 8, .inl (z.1, 1584, .inl (aI pco)))] (fun r9 u9 => ∃ (rv : Int) (c2 : Int) (gcn : Int → Int) (grt : Int → Int) (gnt : Int → Int) (gco : Int → Int), u9 = [(w 0, .inr (4, [.int (iI it), .int (iI c2), .int (iI now), .ref (w 1), .ref (w 2), .int (iI gr), .int (iI md), .ref (w 3), .ref (w 4), .ref (w 5), .ref (w 6), .ref (w 7), .ref (w 8), .int (iI dO), .ref (w 9), .ref (w 10)])), (w 3, .inl (z.1, 66, .inl (aI pnu))), (w 5, .inl (z.1, 66, .inl (aI gcn))), (w 6, .inl (z.1, 1584, .inl (aI grt))), (w 7, .inl (z.1, 1584, .inl (aI gnt))), (w 8, .inl (z.1, 1584, .inl (aI gco)))] ∧ r9 = iI rv ∧ ((¬ (-1 ≤ router ∧ router < 64 ∧ 0 ≤ net ∧ net < 64 ∧ 1 ≤ cost ∧ cost ≤ 1000 ∧ (pnu 64 = 0 ∨ router ≠ dO)) ∧ c2 = 1 ∧ gcn = pcn ∧ grt = prt ∧ gnt = pnt ∧ gco = pco) ∨ ((-1 ≤ router ∧ router < 64 ∧ 0 ≤ net ∧ net < 64 ∧ 1 ≤ cost ∧ cost ≤ 1000 ∧ (pnu 64 = 0 ∨ router ≠ dO)) ∧ (pnu 64 = 0 ∨ pcn 64 = 24 ∨ hasE pcn prt pnt 64 router net) ∧ c2 = 2 ∧ gcn = pcn ∧ grt = prt ∧ gnt = pnt ∧ gco = pco) ∨ ((-1 ≤ router ∧ router < 64 ∧ 0 ≤ net ∧ net < 64 ∧ 1 ≤ cost ∧ cost ≤ 1000 ∧ (pnu 64 = 0 ∨ router ≠ dO)) ∧ ¬ pnu 64 = 0 ∧ ¬ pcn 64 = 24 ∧ ¬ hasE pcn prt pnt 64 router net ∧ c2 = 0 ∧ rv = pcn 64 + 1 ∧ gcn = uZ pcn 64 (pcn 64 + 1) ∧ grt = uZ prt (24 * 64 + pcn 64) router ∧ gnt = uZ pnt (24 * 64 + pcn 64) net ∧ gco = uZ pco (24 * 64 + pcn 64) cost))) := by
  refine Ki.of (by decide) (Nat.le_of_ble_eq_true rfl) ?_
  intro p e s m below meth c A hB hP hD ls hl
  obtain ⟨hx, hb, hRt, hml, hown, hlocks, hg, hE, hA, hin⟩ := hB
  have hown : s.vm.findClass R_M = some m.cls := hown
  have hl : lv_has ls 5 [(0, .ref (w 0)), (1, .int (iI router)), (2, .int (iI net)), (3, .int (iI cost))] := hl
  obtain ⟨H, hH⟩ : ∃ H, H = s.heap := ⟨_, rfl⟩
  have hS : va_S A s.heap H [] := by rw [hH]; exact va_S.rf
  rw [← hH] at hP
  rw [← hH]
  have hP : va_P G cls0 [(w 0, .inr (4, [.int (iI it), .int (iI cd), .int (iI now), .ref (w 1), .ref (w 2), .int (iI gr), .int (iI md), .ref (w 3), .ref (w 4), .ref (w 5), .ref (w 6), .ref (w 7), .ref (w 8), .int (iI dO), .ref (w 9), .ref (w 10)])), (w 3, .inl (z.1, 66, .inl (aI pnu))), (w 5, .inl (z.1, 66, .inl (aI pcn))), (w 6, .inl (z.1, 1584, .inl (aI prt))), (w 7, .inl (z.1, 1584, .inl (aI pnt))), (w 8, .inl (z.1, 1584, .inl (aI pco)))] H := hP
  have hD : va_D A [(w 0, .inr (4, [.int (iI it), .int (iI cd), .int (iI now), .ref (w 1), .ref (w 2), .int (iI gr), .int (iI md), .ref (w 3), .ref (w 4), .ref (w 5), .ref (w 6), .ref (w 7), .ref (w 8), .int (iI dO), .ref (w 9), .ref (w 10)])), (w 3, .inl (z.1, 66, .inl (aI pnu))), (w 5, .inl (z.1, 66, .inl (aI pcn))), (w 6, .inl (z.1, 1584, .inl (aI prt))), (w 7, .inl (z.1, 1584, .inl (aI pnt))), (w 8, .inl (z.1, 1584, .inl (aI pco)))] := hD
  refine lv_iload_n hx hb d_M_entry_0 rfl (lv_at hl 1 rfl) ?_
  refine lv_iconst (v := iI (-1)) hx hb d_M_entry_1 rfl ?_
  refine lv_bipush (v := iI 63) hx hb d_M_entry_2 (by decide +kernel) ?_
  refine qS_i (As := [.int (iI router), .int (iI ((-1))), .int (iI 63)]) (rest := []) (wr := [(w 0, .inr (4, [.int (iI it), .int (iI cd), .int (iI now), .ref (w 1), .ref (w 2), .int (iI gr), .int (iI md), .ref (w 3), .ref (w 4), .ref (w 5), .ref (w 6), .ref (w 7), .ref (w 8), .int (iI dO), .ref (w 9), .ref (w 10)])), (w 3, .inl (z.1, 66, .inl (aI pnu))), (w 5, .inl (z.1, 66, .inl (aI pcn))), (w 6, .inl (z.1, 1584, .inl (aI prt))), (w 7, .inl (z.1, 1584, .inl (aI pnt))), (w 8, .inl (z.1, 1584, .inl (aI pco)))]) hx hb hml hown hg hE hA hS hP hD (k_M_in l G z router ((-1)) 63 (by omega) (by omega) (by omega)) [] [0, 1, 2, 3, 4, 5] rfl rfl (by decide) (by decide) (by decide) ml_M_51 st_M_in in_M co_M_in ok_M_in ⟨Nat.le_of_ble_eq_true rfl, Nat.le_of_ble_eq_true rfl⟩ hl.1 rfl (Nat.le_of_ble_eq_true rfl) d_M_entry_4 ⟨Nat.le_of_ble_eq_true rfl, Nat.le_of_ble_eq_true rfl⟩ (fun r9 u9 H locs hw hP hD hS => ?_)
  obtain ⟨rb_1, rfl, rfl, fb_2⟩ := hw
  have hP : va_P G cls0 [(w 0, .inr (4, [.int (iI it), .int (iI cd), .int (iI now), .ref (w 1), .ref (w 2), .int (iI gr), .int (iI md), .ref (w 3), .ref (w 4), .ref (w 5), .ref (w 6), .ref (w 7), .ref (w 8), .int (iI dO), .ref (w 9), .ref (w 10)])), (w 3, .inl (z.1, 66, .inl (aI pnu))), (w 5, .inl (z.1, 66, .inl (aI pcn))), (w 6, .inl (z.1, 1584, .inl (aI prt))), (w 7, .inl (z.1, 1584, .inl (aI pnt))), (w 8, .inl (z.1, 1584, .inl (aI pco)))] H := hP
  have hD : va_D A [(w 0, .inr (4, [.int (iI it), .int (iI cd), .int (iI now), .ref (w 1), .ref (w 2), .int (iI gr), .int (iI md), .ref (w 3), .ref (w 4), .ref (w 5), .ref (w 6), .ref (w 7), .ref (w 8), .int (iI dO), .ref (w 9), .ref (w 10)])), (w 3, .inl (z.1, 66, .inl (aI pnu))), (w 5, .inl (z.1, 66, .inl (aI pcn))), (w 6, .inl (z.1, 1584, .inl (aI prt))), (w 7, .inl (z.1, 1584, .inl (aI pnt))), (w 8, .inl (z.1, 1584, .inl (aI pco)))] := hD
  refine rv_if_eq (tgt := 53) hx hb d_M_entry_7 (by decide) (by constructor <;> omega) (fun c_3 => ?_) (fun c_3 => ?_)
  · skip
    refine lv_iconst (v := iI 0) hx hb d_M_entry_53 rfl ?_
    refine lv_istore (lv' := [(4, .int (iI 0)), (0, .ref (w 0)), (1, .int (iI router)), (2, .int (iI net)), (3, .int (iI cost))]) hx hb d_M_entry_54 hl (by decide) rfl (fun ls hl => ?_)
    refine lv_aload_n hx hb d_M_entry_56 rfl (lv_at hl 1 rfl) ?_
    refine lv_iload hx hb d_M_entry_57 (lv_at hl 0 rfl) ?_
    refine rv_if_ne (tgt := 66) hx hb d_M_entry_59 (by decide) ⟨by decide, by decide⟩ (fun c_4 => ?_) (fun c_4 => ?_)
    · exact absurd c_4 (by decide)
    · skip
      refine lv_iconst (v := iI 1) hx hb d_M_entry_62 rfl ?_
      refine lv_goto (tgt := 104) hx hb d_M_entry_63 (by decide) ?_
      refine va_put (D := G) (ci := 4) (v := .int (iI 1)) (ty := .int) (C := R_M) (T := T_M) (N := 16) hx hb hg iw_M ty_M ty_M_ok nm_M hown hE.1 hP hD hS 0 rfl rfl 1 (by decide) (hg _ fl_M_48) (fun _ h9 => h9) rfl (by decide +kernel) rfl rfl (Nat.le_of_ble_eq_true rfl) d_M_entry_104 (fun H locs hP hD hS => ?_)
      have hP : va_P G cls0 [(w 0, .inr (4, [.int (iI it), .int (iI 1), .int (iI now), .ref (w 1), .ref (w 2), .int (iI gr), .int (iI md), .ref (w 3), .ref (w 4), .ref (w 5), .ref (w 6), .ref (w 7), .ref (w 8), .int (iI dO), .ref (w 9), .ref (w 10)])), (w 3, .inl (z.1, 66, .inl (aI pnu))), (w 5, .inl (z.1, 66, .inl (aI pcn))), (w 6, .inl (z.1, 1584, .inl (aI prt))), (w 7, .inl (z.1, 1584, .inl (aI pnt))), (w 8, .inl (z.1, 1584, .inl (aI pco)))] H := hP
      have hD : va_D A [(w 0, .inr (4, [.int (iI it), .int (iI 1), .int (iI now), .ref (w 1), .ref (w 2), .int (iI gr), .int (iI md), .ref (w 3), .ref (w 4), .ref (w 5), .ref (w 6), .ref (w 7), .ref (w 8), .int (iI dO), .ref (w 9), .ref (w 10)])), (w 3, .inl (z.1, 66, .inl (aI pnu))), (w 5, .inl (z.1, 66, .inl (aI pcn))), (w 6, .inl (z.1, 1584, .inl (aI prt))), (w 7, .inl (z.1, 1584, .inl (aI pnt))), (w 8, .inl (z.1, 1584, .inl (aI pco)))] := hD
      refine lv_aload_n hx hb d_M_entry_107 rfl (lv_at hl 1 rfl) ?_
      refine va_get (D := G) (ci := 4) (v := .int (iI 1)) (C := R_M) (T := T_M) (N := 16) hx hb hg iw_M hown hE.1 hP 0 rfl rfl 1 (by decide) (hg _ fl_M_48) (fun _ h9 => h9) rfl d_M_entry_108 ?_
      refine rv_if_le (tgt := 116) hx hb d_M_entry_111 (by decide) ⟨by decide, by decide⟩ (fun c_5 => ?_) (fun c_5 => ?_)
      · exact absurd c_5 (by decide)
      · skip
        refine lv_iconst (v := iI 0) hx hb d_M_entry_114 rfl ?_
        have hP9 : va_P G cls0 [(w 0, .inr (4, [.int (iI it), .int (iI 1), .int (iI now), .ref (w 1), .ref (w 2), .int (iI gr), .int (iI md), .ref (w 3), .ref (w 4), .ref (w 5), .ref (w 6), .ref (w 7), .ref (w 8), .int (iI dO), .ref (w 9), .ref (w 10)])), (w 3, .inl (z.1, 66, .inl (aI pnu))), (w 5, .inl (z.1, 66, .inl (aI pcn))), (w 6, .inl (z.1, 1584, .inl (aI prt))), (w 7, .inl (z.1, 1584, .inl (aI pnt))), (w 8, .inl (z.1, 1584, .inl (aI pco)))] H := hP.sub [0, 1, 2, 3, 4, 5] rfl
        have hD9 : va_D A [(w 0, .inr (4, [.int (iI it), .int (iI 1), .int (iI now), .ref (w 1), .ref (w 2), .int (iI gr), .int (iI md), .ref (w 3), .ref (w 4), .ref (w 5), .ref (w 6), .ref (w 7), .ref (w 8), .int (iI dO), .ref (w 9), .ref (w 10)])), (w 3, .inl (z.1, 66, .inl (aI pnu))), (w 5, .inl (z.1, 66, .inl (aI pcn))), (w 6, .inl (z.1, 1584, .inl (aI prt))), (w 7, .inl (z.1, 1584, .inl (aI pnt))), (w 8, .inl (z.1, 1584, .inl (aI pco)))] := hD.sub [0, 1, 2, 3, 4, 5] (by decide) rfl
        refine rv_iret hx hb hRt (nar_int _) hlocks (Nat.le_of_ble_eq_true rfl) (Nat.le_of_ble_eq_true rfl) hP9 hD9 hS d_M_entry_115 ?_
        exact ⟨0, 1, pcn, prt, pnt, pco, rfl, rfl, (by first | exact Or.inr (Or.inl ⟨by omega, hw2, rfl, rfl, rfl, rfl, rfl⟩) | exact Or.inl ⟨by omega, rfl, rfl, rfl, rfl, rfl⟩)⟩
  · skip
    refine lv_iload_n hx hb d_M_entry_10 rfl (lv_at hl 2 rfl) ?_
    refine lv_iconst (v := iI 0) hx hb d_M_entry_11 rfl ?_
    refine lv_bipush (v := iI 63) hx hb d_M_entry_12 (by decide +kernel) ?_
    refine qS_i (As := [.int (iI net), .int (iI 0), .int (iI 63)]) (rest := []) (wr := [(w 0, .inr (4, [.int (iI it), .int (iI cd), .int (iI now), .ref (w 1), .ref (w 2), .int (iI gr), .int (iI md), .ref (w 3), .ref (w 4), .ref (w 5), .ref (w 6), .ref (w 7), .ref (w 8), .int (iI dO), .ref (w 9), .ref (w 10)])), (w 3, .inl (z.1, 66, .inl (aI pnu))), (w 5, .inl (z.1, 66, .inl (aI pcn))), (w 6, .inl (z.1, 1584, .inl (aI prt))), (w 7, .inl (z.1, 1584, .inl (aI pnt))), (w 8, .inl (z.1, 1584, .inl (aI pco)))]) hx hb hml hown hg hE hA hS hP hD (k_M_in l G z net 0 63 (by omega) (by omega) (by omega)) [] [0, 1, 2, 3, 4, 5] rfl rfl (by decide) (by decide) (by decide) ml_M_51 st_M_in in_M co_M_in ok_M_in ⟨Nat.le_of_ble_eq_true rfl, Nat.le_of_ble_eq_true rfl⟩ hl.1 rfl (Nat.le_of_ble_eq_true rfl) d_M_entry_14 ⟨Nat.le_of_ble_eq_true rfl, Nat.le_of_ble_eq_true rfl⟩ (fun r9 u9 H locs hw hP hD hS => ?_)
    obtain ⟨rb_6, rfl, rfl, fb_7⟩ := hw
    have hP : va_P G cls0 [(w 0, .inr (4, [.int (iI it), .int (iI cd), .int (iI now), .ref (w 1), .ref (w 2), .int (iI gr), .int (iI md), .ref (w 3), .ref (w 4), .ref (w 5), .ref (w 6), .ref (w 7), .ref (w 8), .int (iI dO), .ref (w 9), .ref (w 10)])), (w 3, .inl (z.1, 66, .inl (aI pnu))), (w 5, .inl (z.1, 66, .inl (aI pcn))), (w 6, .inl (z.1, 1584, .inl (aI prt))), (w 7, .inl (z.1, 1584, .inl (aI pnt))), (w 8, .inl (z.1, 1584, .inl (aI pco)))] H := hP
    have hD : va_D A [(w 0, .inr (4, [.int (iI it), .int (iI cd), .int (iI now), .ref (w 1), .ref (w 2), .int (iI gr), .int (iI md), .ref (w 3), .ref (w 4), .ref (w 5), .ref (w 6), .ref (w 7), .ref (w 8), .int (iI dO), .ref (w 9), .ref (w 10)])), (w 3, .inl (z.1, 66, .inl (aI pnu))), (w 5, .inl (z.1, 66, .inl (aI pcn))), (w 6, .inl (z.1, 1584, .inl (aI prt))), (w 7, .inl (z.1, 1584, .inl (aI pnt))), (w 8, .inl (z.1, 1584, .inl (aI pco)))] := hD
    refine rv_if_eq (tgt := 53) hx hb d_M_entry_17 (by decide) (by constructor <;> omega) (fun c_8 => ?_) (fun c_8 => ?_)
    · skip
      refine lv_iconst (v := iI 0) hx hb d_M_entry_53 rfl ?_
      refine lv_istore (lv' := [(4, .int (iI 0)), (0, .ref (w 0)), (1, .int (iI router)), (2, .int (iI net)), (3, .int (iI cost))]) hx hb d_M_entry_54 hl (by decide) rfl (fun ls hl => ?_)
      refine lv_aload_n hx hb d_M_entry_56 rfl (lv_at hl 1 rfl) ?_
      refine lv_iload hx hb d_M_entry_57 (lv_at hl 0 rfl) ?_
      refine rv_if_ne (tgt := 66) hx hb d_M_entry_59 (by decide) ⟨by decide, by decide⟩ (fun c_9 => ?_) (fun c_9 => ?_)
      · exact absurd c_9 (by decide)
      · skip
        refine lv_iconst (v := iI 1) hx hb d_M_entry_62 rfl ?_
        refine lv_goto (tgt := 104) hx hb d_M_entry_63 (by decide) ?_
        refine va_put (D := G) (ci := 4) (v := .int (iI 1)) (ty := .int) (C := R_M) (T := T_M) (N := 16) hx hb hg iw_M ty_M ty_M_ok nm_M hown hE.1 hP hD hS 0 rfl rfl 1 (by decide) (hg _ fl_M_48) (fun _ h9 => h9) rfl (by decide +kernel) rfl rfl (Nat.le_of_ble_eq_true rfl) d_M_entry_104 (fun H locs hP hD hS => ?_)
        have hP : va_P G cls0 [(w 0, .inr (4, [.int (iI it), .int (iI 1), .int (iI now), .ref (w 1), .ref (w 2), .int (iI gr), .int (iI md), .ref (w 3), .ref (w 4), .ref (w 5), .ref (w 6), .ref (w 7), .ref (w 8), .int (iI dO), .ref (w 9), .ref (w 10)])), (w 3, .inl (z.1, 66, .inl (aI pnu))), (w 5, .inl (z.1, 66, .inl (aI pcn))), (w 6, .inl (z.1, 1584, .inl (aI prt))), (w 7, .inl (z.1, 1584, .inl (aI pnt))), (w 8, .inl (z.1, 1584, .inl (aI pco)))] H := hP
        have hD : va_D A [(w 0, .inr (4, [.int (iI it), .int (iI 1), .int (iI now), .ref (w 1), .ref (w 2), .int (iI gr), .int (iI md), .ref (w 3), .ref (w 4), .ref (w 5), .ref (w 6), .ref (w 7), .ref (w 8), .int (iI dO), .ref (w 9), .ref (w 10)])), (w 3, .inl (z.1, 66, .inl (aI pnu))), (w 5, .inl (z.1, 66, .inl (aI pcn))), (w 6, .inl (z.1, 1584, .inl (aI prt))), (w 7, .inl (z.1, 1584, .inl (aI pnt))), (w 8, .inl (z.1, 1584, .inl (aI pco)))] := hD
        refine lv_aload_n hx hb d_M_entry_107 rfl (lv_at hl 1 rfl) ?_
        refine va_get (D := G) (ci := 4) (v := .int (iI 1)) (C := R_M) (T := T_M) (N := 16) hx hb hg iw_M hown hE.1 hP 0 rfl rfl 1 (by decide) (hg _ fl_M_48) (fun _ h9 => h9) rfl d_M_entry_108 ?_
        refine rv_if_le (tgt := 116) hx hb d_M_entry_111 (by decide) ⟨by decide, by decide⟩ (fun c_10 => ?_) (fun c_10 => ?_)
        · exact absurd c_10 (by decide)
        · skip
          refine lv_iconst (v := iI 0) hx hb d_M_entry_114 rfl ?_
          have hP9 : va_P G cls0 [(w 0, .inr (4, [.int (iI it), .int (iI 1), .int (iI now), .ref (w 1), .ref (w 2), .int (iI gr), .int (iI md), .ref (w 3), .ref (w 4), .ref (w 5), .ref (w 6), .ref (w 7), .ref (w 8), .int (iI dO), .ref (w 9), .ref (w 10)])), (w 3, .inl (z.1, 66, .inl (aI pnu))), (w 5, .inl (z.1, 66, .inl (aI pcn))), (w 6, .inl (z.1, 1584, .inl (aI prt))), (w 7, .inl (z.1, 1584, .inl (aI pnt))), (w 8, .inl (z.1, 1584, .inl (aI pco)))] H := hP.sub [0, 1, 2, 3, 4, 5] rfl
          have hD9 : va_D A [(w 0, .inr (4, [.int (iI it), .int (iI 1), .int (iI now), .ref (w 1), .ref (w 2), .int (iI gr), .int (iI md), .ref (w 3), .ref (w 4), .ref (w 5), .ref (w 6), .ref (w 7), .ref (w 8), .int (iI dO), .ref (w 9), .ref (w 10)])), (w 3, .inl (z.1, 66, .inl (aI pnu))), (w 5, .inl (z.1, 66, .inl (aI pcn))), (w 6, .inl (z.1, 1584, .inl (aI prt))), (w 7, .inl (z.1, 1584, .inl (aI pnt))), (w 8, .inl (z.1, 1584, .inl (aI pco)))] := hD.sub [0, 1, 2, 3, 4, 5] (by decide) rfl
          refine rv_iret hx hb hRt (nar_int _) hlocks (Nat.le_of_ble_eq_true rfl) (Nat.le_of_ble_eq_true rfl) hP9 hD9 hS d_M_entry_115 ?_
          exact ⟨0, 1, pcn, prt, pnt, pco, rfl, rfl, (by first | exact Or.inr (Or.inl ⟨by omega, hw2, rfl, rfl, rfl, rfl, rfl⟩) | exact Or.inl ⟨by omega, rfl, rfl, rfl, rfl, rfl⟩)⟩
    · skip
      refine lv_iload_n hx hb d_M_entry_20 rfl (lv_at hl 3 rfl) ?_
      refine lv_iconst (v := iI 1) hx hb d_M_entry_21 rfl ?_
      refine lv_sipush (v := iI 1000) hx hb d_M_entry_22 (by decide +kernel) ?_
      refine qS_i (As := [.int (iI cost), .int (iI 1), .int (iI 1000)]) (rest := []) (wr := [(w 0, .inr (4, [.int (iI it), .int (iI cd), .int (iI now), .ref (w 1), .ref (w 2), .int (iI gr), .int (iI md), .ref (w 3), .ref (w 4), .ref (w 5), .ref (w 6), .ref (w 7), .ref (w 8), .int (iI dO), .ref (w 9), .ref (w 10)])), (w 3, .inl (z.1, 66, .inl (aI pnu))), (w 5, .inl (z.1, 66, .inl (aI pcn))), (w 6, .inl (z.1, 1584, .inl (aI prt))), (w 7, .inl (z.1, 1584, .inl (aI pnt))), (w 8, .inl (z.1, 1584, .inl (aI pco)))]) hx hb hml hown hg hE hA hS hP hD (k_M_in l G z cost 1 1000 (by omega) (by omega) (by omega)) [] [0, 1, 2, 3, 4, 5] rfl rfl (by decide) (by decide) (by decide) ml_M_51 st_M_in in_M co_M_in ok_M_in ⟨Nat.le_of_ble_eq_true rfl, Nat.le_of_ble_eq_true rfl⟩ hl.1 rfl (Nat.le_of_ble_eq_true rfl) d_M_entry_25 ⟨Nat.le_of_ble_eq_true rfl, Nat.le_of_ble_eq_true rfl⟩ (fun r9 u9 H locs hw hP hD hS => ?_)
      obtain ⟨rb_11, rfl, rfl, fb_12⟩ := hw
      have hP : va_P G cls0 [(w 0, .inr (4, [.int (iI it), .int (iI cd), .int (iI now), .ref (w 1), .ref (w 2), .int (iI gr), .int (iI md), .ref (w 3), .ref (w 4), .ref (w 5), .ref (w 6), .ref (w 7), .ref (w 8), .int (iI dO), .ref (w 9), .ref (w 10)])), (w 3, .inl (z.1, 66, .inl (aI pnu))), (w 5, .inl (z.1, 66, .inl (aI pcn))), (w 6, .inl (z.1, 1584, .inl (aI prt))), (w 7, .inl (z.1, 1584, .inl (aI pnt))), (w 8, .inl (z.1, 1584, .inl (aI pco)))] H := hP
      have hD : va_D A [(w 0, .inr (4, [.int (iI it), .int (iI cd), .int (iI now), .ref (w 1), .ref (w 2), .int (iI gr), .int (iI md), .ref (w 3), .ref (w 4), .ref (w 5), .ref (w 6), .ref (w 7), .ref (w 8), .int (iI dO), .ref (w 9), .ref (w 10)])), (w 3, .inl (z.1, 66, .inl (aI pnu))), (w 5, .inl (z.1, 66, .inl (aI pcn))), (w 6, .inl (z.1, 1584, .inl (aI prt))), (w 7, .inl (z.1, 1584, .inl (aI pnt))), (w 8, .inl (z.1, 1584, .inl (aI pco)))] := hD
      refine rv_if_eq (tgt := 53) hx hb d_M_entry_28 (by decide) (by constructor <;> omega) (fun c_13 => ?_) (fun c_13 => ?_)
      · skip
        refine lv_iconst (v := iI 0) hx hb d_M_entry_53 rfl ?_
        refine lv_istore (lv' := [(4, .int (iI 0)), (0, .ref (w 0)), (1, .int (iI router)), (2, .int (iI net)), (3, .int (iI cost))]) hx hb d_M_entry_54 hl (by decide) rfl (fun ls hl => ?_)
        refine lv_aload_n hx hb d_M_entry_56 rfl (lv_at hl 1 rfl) ?_
        refine lv_iload hx hb d_M_entry_57 (lv_at hl 0 rfl) ?_
        refine rv_if_ne (tgt := 66) hx hb d_M_entry_59 (by decide) ⟨by decide, by decide⟩ (fun c_14 => ?_) (fun c_14 => ?_)
        · exact absurd c_14 (by decide)
        · skip
          refine lv_iconst (v := iI 1) hx hb d_M_entry_62 rfl ?_
          refine lv_goto (tgt := 104) hx hb d_M_entry_63 (by decide) ?_
          refine va_put (D := G) (ci := 4) (v := .int (iI 1)) (ty := .int) (C := R_M) (T := T_M) (N := 16) hx hb hg iw_M ty_M ty_M_ok nm_M hown hE.1 hP hD hS 0 rfl rfl 1 (by decide) (hg _ fl_M_48) (fun _ h9 => h9) rfl (by decide +kernel) rfl rfl (Nat.le_of_ble_eq_true rfl) d_M_entry_104 (fun H locs hP hD hS => ?_)
          have hP : va_P G cls0 [(w 0, .inr (4, [.int (iI it), .int (iI 1), .int (iI now), .ref (w 1), .ref (w 2), .int (iI gr), .int (iI md), .ref (w 3), .ref (w 4), .ref (w 5), .ref (w 6), .ref (w 7), .ref (w 8), .int (iI dO), .ref (w 9), .ref (w 10)])), (w 3, .inl (z.1, 66, .inl (aI pnu))), (w 5, .inl (z.1, 66, .inl (aI pcn))), (w 6, .inl (z.1, 1584, .inl (aI prt))), (w 7, .inl (z.1, 1584, .inl (aI pnt))), (w 8, .inl (z.1, 1584, .inl (aI pco)))] H := hP
          have hD : va_D A [(w 0, .inr (4, [.int (iI it), .int (iI 1), .int (iI now), .ref (w 1), .ref (w 2), .int (iI gr), .int (iI md), .ref (w 3), .ref (w 4), .ref (w 5), .ref (w 6), .ref (w 7), .ref (w 8), .int (iI dO), .ref (w 9), .ref (w 10)])), (w 3, .inl (z.1, 66, .inl (aI pnu))), (w 5, .inl (z.1, 66, .inl (aI pcn))), (w 6, .inl (z.1, 1584, .inl (aI prt))), (w 7, .inl (z.1, 1584, .inl (aI pnt))), (w 8, .inl (z.1, 1584, .inl (aI pco)))] := hD
          refine lv_aload_n hx hb d_M_entry_107 rfl (lv_at hl 1 rfl) ?_
          refine va_get (D := G) (ci := 4) (v := .int (iI 1)) (C := R_M) (T := T_M) (N := 16) hx hb hg iw_M hown hE.1 hP 0 rfl rfl 1 (by decide) (hg _ fl_M_48) (fun _ h9 => h9) rfl d_M_entry_108 ?_
          refine rv_if_le (tgt := 116) hx hb d_M_entry_111 (by decide) ⟨by decide, by decide⟩ (fun c_15 => ?_) (fun c_15 => ?_)
          · exact absurd c_15 (by decide)
          · skip
            refine lv_iconst (v := iI 0) hx hb d_M_entry_114 rfl ?_
            have hP9 : va_P G cls0 [(w 0, .inr (4, [.int (iI it), .int (iI 1), .int (iI now), .ref (w 1), .ref (w 2), .int (iI gr), .int (iI md), .ref (w 3), .ref (w 4), .ref (w 5), .ref (w 6), .ref (w 7), .ref (w 8), .int (iI dO), .ref (w 9), .ref (w 10)])), (w 3, .inl (z.1, 66, .inl (aI pnu))), (w 5, .inl (z.1, 66, .inl (aI pcn))), (w 6, .inl (z.1, 1584, .inl (aI prt))), (w 7, .inl (z.1, 1584, .inl (aI pnt))), (w 8, .inl (z.1, 1584, .inl (aI pco)))] H := hP.sub [0, 1, 2, 3, 4, 5] rfl
            have hD9 : va_D A [(w 0, .inr (4, [.int (iI it), .int (iI 1), .int (iI now), .ref (w 1), .ref (w 2), .int (iI gr), .int (iI md), .ref (w 3), .ref (w 4), .ref (w 5), .ref (w 6), .ref (w 7), .ref (w 8), .int (iI dO), .ref (w 9), .ref (w 10)])), (w 3, .inl (z.1, 66, .inl (aI pnu))), (w 5, .inl (z.1, 66, .inl (aI pcn))), (w 6, .inl (z.1, 1584, .inl (aI prt))), (w 7, .inl (z.1, 1584, .inl (aI pnt))), (w 8, .inl (z.1, 1584, .inl (aI pco)))] := hD.sub [0, 1, 2, 3, 4, 5] (by decide) rfl
            refine rv_iret hx hb hRt (nar_int _) hlocks (Nat.le_of_ble_eq_true rfl) (Nat.le_of_ble_eq_true rfl) hP9 hD9 hS d_M_entry_115 ?_
            exact ⟨0, 1, pcn, prt, pnt, pco, rfl, rfl, (by first | exact Or.inr (Or.inl ⟨by omega, hw2, rfl, rfl, rfl, rfl, rfl⟩) | exact Or.inl ⟨by omega, rfl, rfl, rfl, rfl, rfl⟩)⟩
      · skip
        refine lv_aload_n hx hb d_M_entry_31 rfl (lv_at hl 0 rfl) ?_
        refine va_get (D := G) (ci := 4) (v := .ref (w 3)) (C := R_M) (T := T_M) (N := 16) hx hb hg iw_M hown hE.1 hP 0 rfl rfl 7 (by decide) (hg _ fl_M_21) (fun _ h9 => h9) rfl d_M_entry_32 ?_
        refine lv_bipush (v := iI 64) hx hb d_M_entry_35 (by decide +kernel) ?_
        refine rv_iald hx hb hE hP 1 rfl (i := 64) (by omega) (by omega) (by decide) d_M_entry_37 ?_
        refine rv_if_eq (tgt := 49) hx hb d_M_entry_38 (by decide) (by (try have := rnu 64); constructor <;> omega) (fun c_16 => ?_) (fun c_16 => ?_)
        · skip
          refine lv_iconst (v := iI 1) hx hb d_M_entry_49 rfl ?_
          refine lv_goto (tgt := 54) hx hb d_M_entry_50 (by decide) ?_
          refine lv_istore (lv' := [(4, .int (iI 1)), (0, .ref (w 0)), (1, .int (iI router)), (2, .int (iI net)), (3, .int (iI cost))]) hx hb d_M_entry_54 hl (by decide) rfl (fun ls hl => ?_)
          refine lv_aload_n hx hb d_M_entry_56 rfl (lv_at hl 1 rfl) ?_
          refine lv_iload hx hb d_M_entry_57 (lv_at hl 0 rfl) ?_
          refine rv_if_ne (tgt := 66) hx hb d_M_entry_59 (by decide) ⟨by decide, by decide⟩ (fun c_17 => ?_) (fun c_17 => ?_)
          · skip
            refine lv_aload_n hx hb d_M_entry_66 rfl (lv_at hl 1 rfl) ?_
            refine va_get (D := G) (ci := 4) (v := .ref (w 3)) (C := R_M) (T := T_M) (N := 16) hx hb hg iw_M hown hE.1 hP 0 rfl rfl 7 (by decide) (hg _ fl_M_21) (fun _ h9 => h9) rfl d_M_entry_67 ?_
            refine lv_bipush (v := iI 64) hx hb d_M_entry_70 (by decide +kernel) ?_
            refine rv_iald hx hb hE hP 1 rfl (i := 64) (by omega) (by omega) (by decide) d_M_entry_72 ?_
            refine rv_if_eq (tgt := 99) hx hb d_M_entry_73 (by decide) (by (try have := rnu 64); constructor <;> omega) (fun c_18 => ?_) (fun c_18 => ?_)
            · skip
              have hw2 : pnu 64 = 0 ∨ pcn 64 = 24 ∨ hasE pcn prt pnt 64 router net := Or.inl c_18
              refine lv_iconst (v := iI 2) hx hb d_M_entry_99 rfl ?_
              refine lv_goto (tgt := 104) hx hb d_M_entry_100 (by decide) ?_
              refine va_put (D := G) (ci := 4) (v := .int (iI 2)) (ty := .int) (C := R_M) (T := T_M) (N := 16) hx hb hg iw_M ty_M ty_M_ok nm_M hown hE.1 hP hD hS 0 rfl rfl 1 (by decide) (hg _ fl_M_48) (fun _ h9 => h9) rfl (by decide +kernel) rfl rfl (Nat.le_of_ble_eq_true rfl) d_M_entry_104 (fun H locs hP hD hS => ?_)
              have hP : va_P G cls0 [(w 0, .inr (4, [.int (iI it), .int (iI 2), .int (iI now), .ref (w 1), .ref (w 2), .int (iI gr), .int (iI md), .ref (w 3), .ref (w 4), .ref (w 5), .ref (w 6), .ref (w 7), .ref (w 8), .int (iI dO), .ref (w 9), .ref (w 10)])), (w 3, .inl (z.1, 66, .inl (aI pnu))), (w 5, .inl (z.1, 66, .inl (aI pcn))), (w 6, .inl (z.1, 1584, .inl (aI prt))), (w 7, .inl (z.1, 1584, .inl (aI pnt))), (w 8, .inl (z.1, 1584, .inl (aI pco)))] H := hP
              have hD : va_D A [(w 0, .inr (4, [.int (iI it), .int (iI 2), .int (iI now), .ref (w 1), .ref (w 2), .int (iI gr), .int (iI md), .ref (w 3), .ref (w 4), .ref (w 5), .ref (w 6), .ref (w 7), .ref (w 8), .int (iI dO), .ref (w 9), .ref (w 10)])), (w 3, .inl (z.1, 66, .inl (aI pnu))), (w 5, .inl (z.1, 66, .inl (aI pcn))), (w 6, .inl (z.1, 1584, .inl (aI prt))), (w 7, .inl (z.1, 1584, .inl (aI pnt))), (w 8, .inl (z.1, 1584, .inl (aI pco)))] := hD
              refine lv_aload_n hx hb d_M_entry_107 rfl (lv_at hl 1 rfl) ?_
              refine va_get (D := G) (ci := 4) (v := .int (iI 2)) (C := R_M) (T := T_M) (N := 16) hx hb hg iw_M hown hE.1 hP 0 rfl rfl 1 (by decide) (hg _ fl_M_48) (fun _ h9 => h9) rfl d_M_entry_108 ?_
              refine rv_if_le (tgt := 116) hx hb d_M_entry_111 (by decide) ⟨by decide, by decide⟩ (fun c_19 => ?_) (fun c_19 => ?_)
              · exact absurd c_19 (by decide)
              · skip
                refine lv_iconst (v := iI 0) hx hb d_M_entry_114 rfl ?_
                have hP9 : va_P G cls0 [(w 0, .inr (4, [.int (iI it), .int (iI 2), .int (iI now), .ref (w 1), .ref (w 2), .int (iI gr), .int (iI md), .ref (w 3), .ref (w 4), .ref (w 5), .ref (w 6), .ref (w 7), .ref (w 8), .int (iI dO), .ref (w 9), .ref (w 10)])), (w 3, .inl (z.1, 66, .inl (aI pnu))), (w 5, .inl (z.1, 66, .inl (aI pcn))), (w 6, .inl (z.1, 1584, .inl (aI prt))), (w 7, .inl (z.1, 1584, .inl (aI pnt))), (w 8, .inl (z.1, 1584, .inl (aI pco)))] H := hP.sub [0, 1, 2, 3, 4, 5] rfl
                have hD9 : va_D A [(w 0, .inr (4, [.int (iI it), .int (iI 2), .int (iI now), .ref (w 1), .ref (w 2), .int (iI gr), .int (iI md), .ref (w 3), .ref (w 4), .ref (w 5), .ref (w 6), .ref (w 7), .ref (w 8), .int (iI dO), .ref (w 9), .ref (w 10)])), (w 3, .inl (z.1, 66, .inl (aI pnu))), (w 5, .inl (z.1, 66, .inl (aI pcn))), (w 6, .inl (z.1, 1584, .inl (aI prt))), (w 7, .inl (z.1, 1584, .inl (aI pnt))), (w 8, .inl (z.1, 1584, .inl (aI pco)))] := hD.sub [0, 1, 2, 3, 4, 5] (by decide) rfl
                refine rv_iret hx hb hRt (nar_int _) hlocks (Nat.le_of_ble_eq_true rfl) (Nat.le_of_ble_eq_true rfl) hP9 hD9 hS d_M_entry_115 ?_
                exact ⟨0, 2, pcn, prt, pnt, pco, rfl, rfl, (by first | exact Or.inr (Or.inl ⟨by omega, hw2, rfl, rfl, rfl, rfl, rfl⟩) | exact Or.inl ⟨by omega, rfl, rfl, rfl, rfl, rfl⟩)⟩
            · skip
              refine lv_aload_n hx hb d_M_entry_76 rfl (lv_at hl 1 rfl) ?_
              refine va_get (D := G) (ci := 4) (v := .ref (w 5)) (C := R_M) (T := T_M) (N := 16) hx hb hg iw_M hown hE.1 hP 0 rfl rfl 9 (by decide) (hg _ fl_M_27) (fun _ h9 => h9) rfl d_M_entry_77 ?_
              refine lv_bipush (v := iI 64) hx hb d_M_entry_80 (by decide +kernel) ?_
              refine rv_iald hx hb hE hP 2 rfl (i := 64) (by omega) (by omega) (by decide) d_M_entry_82 ?_
              refine lv_bipush (v := iI 24) hx hb d_M_entry_83 (by decide +kernel) ?_
              refine rv_icmp_eq (tgt := 99) hx hb d_M_entry_85 (by decide) (by (try have := rcn 64); constructor <;> omega) ⟨by decide, by decide⟩ (fun c_20 => ?_) (fun c_20 => ?_)
              · skip
                have hw2 : pnu 64 = 0 ∨ pcn 64 = 24 ∨ hasE pcn prt pnt 64 router net := Or.inr (Or.inl c_20)
                refine lv_iconst (v := iI 2) hx hb d_M_entry_99 rfl ?_
                refine lv_goto (tgt := 104) hx hb d_M_entry_100 (by decide) ?_
                refine va_put (D := G) (ci := 4) (v := .int (iI 2)) (ty := .int) (C := R_M) (T := T_M) (N := 16) hx hb hg iw_M ty_M ty_M_ok nm_M hown hE.1 hP hD hS 0 rfl rfl 1 (by decide) (hg _ fl_M_48) (fun _ h9 => h9) rfl (by decide +kernel) rfl rfl (Nat.le_of_ble_eq_true rfl) d_M_entry_104 (fun H locs hP hD hS => ?_)
                have hP : va_P G cls0 [(w 0, .inr (4, [.int (iI it), .int (iI 2), .int (iI now), .ref (w 1), .ref (w 2), .int (iI gr), .int (iI md), .ref (w 3), .ref (w 4), .ref (w 5), .ref (w 6), .ref (w 7), .ref (w 8), .int (iI dO), .ref (w 9), .ref (w 10)])), (w 3, .inl (z.1, 66, .inl (aI pnu))), (w 5, .inl (z.1, 66, .inl (aI pcn))), (w 6, .inl (z.1, 1584, .inl (aI prt))), (w 7, .inl (z.1, 1584, .inl (aI pnt))), (w 8, .inl (z.1, 1584, .inl (aI pco)))] H := hP
                have hD : va_D A [(w 0, .inr (4, [.int (iI it), .int (iI 2), .int (iI now), .ref (w 1), .ref (w 2), .int (iI gr), .int (iI md), .ref (w 3), .ref (w 4), .ref (w 5), .ref (w 6), .ref (w 7), .ref (w 8), .int (iI dO), .ref (w 9), .ref (w 10)])), (w 3, .inl (z.1, 66, .inl (aI pnu))), (w 5, .inl (z.1, 66, .inl (aI pcn))), (w 6, .inl (z.1, 1584, .inl (aI prt))), (w 7, .inl (z.1, 1584, .inl (aI pnt))), (w 8, .inl (z.1, 1584, .inl (aI pco)))] := hD
                refine lv_aload_n hx hb d_M_entry_107 rfl (lv_at hl 1 rfl) ?_
                refine va_get (D := G) (ci := 4) (v := .int (iI 2)) (C := R_M) (T := T_M) (N := 16) hx hb hg iw_M hown hE.1 hP 0 rfl rfl 1 (by decide) (hg _ fl_M_48) (fun _ h9 => h9) rfl d_M_entry_108 ?_
                refine rv_if_le (tgt := 116) hx hb d_M_entry_111 (by decide) ⟨by decide, by decide⟩ (fun c_21 => ?_) (fun c_21 => ?_)
                · exact absurd c_21 (by decide)
                · skip
                  refine lv_iconst (v := iI 0) hx hb d_M_entry_114 rfl ?_
                  have hP9 : va_P G cls0 [(w 0, .inr (4, [.int (iI it), .int (iI 2), .int (iI now), .ref (w 1), .ref (w 2), .int (iI gr), .int (iI md), .ref (w 3), .ref (w 4), .ref (w 5), .ref (w 6), .ref (w 7), .ref (w 8), .int (iI dO), .ref (w 9), .ref (w 10)])), (w 3, .inl (z.1, 66, .inl (aI pnu))), (w 5, .inl (z.1, 66, .inl (aI pcn))), (w 6, .inl (z.1, 1584, .inl (aI prt))), (w 7, .inl (z.1, 1584, .inl (aI pnt))), (w 8, .inl (z.1, 1584, .inl (aI pco)))] H := hP.sub [0, 1, 2, 3, 4, 5] rfl
                  have hD9 : va_D A [(w 0, .inr (4, [.int (iI it), .int (iI 2), .int (iI now), .ref (w 1), .ref (w 2), .int (iI gr), .int (iI md), .ref (w 3), .ref (w 4), .ref (w 5), .ref (w 6), .ref (w 7), .ref (w 8), .int (iI dO), .ref (w 9), .ref (w 10)])), (w 3, .inl (z.1, 66, .inl (aI pnu))), (w 5, .inl (z.1, 66, .inl (aI pcn))), (w 6, .inl (z.1, 1584, .inl (aI prt))), (w 7, .inl (z.1, 1584, .inl (aI pnt))), (w 8, .inl (z.1, 1584, .inl (aI pco)))] := hD.sub [0, 1, 2, 3, 4, 5] (by decide) rfl
                  refine rv_iret hx hb hRt (nar_int _) hlocks (Nat.le_of_ble_eq_true rfl) (Nat.le_of_ble_eq_true rfl) hP9 hD9 hS d_M_entry_115 ?_
                  exact ⟨0, 2, pcn, prt, pnt, pco, rfl, rfl, (by first | exact Or.inr (Or.inl ⟨by omega, hw2, rfl, rfl, rfl, rfl, rfl⟩) | exact Or.inl ⟨by omega, rfl, rfl, rfl, rfl, rfl⟩)⟩
              · skip
                refine lv_aload_n hx hb d_M_entry_88 rfl (lv_at hl 1 rfl) ?_
                refine lv_bipush (v := iI 64) hx hb d_M_entry_89 (by decide +kernel) ?_
                refine lv_iload_n hx hb d_M_entry_91 rfl (lv_at hl 2 rfl) ?_
                refine lv_iload_n hx hb d_M_entry_92 rfl (lv_at hl 3 rfl) ?_
                refine qV_i (As := [.int (iI 64), .int (iI router), .int (iI net)]) (rest := [.ref (w 0)]) (wr := [(w 3, .inl (z.1, 66, .inl (aI pnu))), (w 8, .inl (z.1, 1584, .inl (aI pco)))]) hx hb hml hown hg hE hA hS hP hD (k_M_find l G z w it cd now gr md dO pcn prt pnt 64 router net (by assumption) (by assumption) (by assumption) (by omega) (by omega) (by omega)) [0, 2, 3, 4] [1, 5] rfl rfl (by decide) (by decide) (by decide) (q0 := 0) rfl rfl ml_M_70 im_M_find se_M_find in_M co_M_find ok_M_find ⟨Nat.le_of_ble_eq_true rfl, Nat.le_of_ble_eq_true rfl⟩ hl.1 rfl (Nat.le_of_ble_eq_true rfl) d_M_entry_93 ⟨Nat.le_of_ble_eq_true rfl, Nat.le_of_ble_eq_true rfl⟩ (fun r9 u9 H locs hw hP hD hS => ?_)
                obtain ⟨fd, rfl, rfl, fd0, fd1⟩ := hw
                have hP : va_P G cls0 [(w 3, .inl (z.1, 66, .inl (aI pnu))), (w 8, .inl (z.1, 1584, .inl (aI pco))), (w 0, .inr (4, [.int (iI it), .int (iI cd), .int (iI now), .ref (w 1), .ref (w 2), .int (iI gr), .int (iI md), .ref (w 3), .ref (w 4), .ref (w 5), .ref (w 6), .ref (w 7), .ref (w 8), .int (iI dO), .ref (w 9), .ref (w 10)])), (w 5, .inl (z.1, 66, .inl (aI pcn))), (w 6, .inl (z.1, 1584, .inl (aI prt))), (w 7, .inl (z.1, 1584, .inl (aI pnt)))] H := hP
                have hD : va_D A [(w 3, .inl (z.1, 66, .inl (aI pnu))), (w 8, .inl (z.1, 1584, .inl (aI pco))), (w 0, .inr (4, [.int (iI it), .int (iI cd), .int (iI now), .ref (w 1), .ref (w 2), .int (iI gr), .int (iI md), .ref (w 3), .ref (w 4), .ref (w 5), .ref (w 6), .ref (w 7), .ref (w 8), .int (iI dO), .ref (w 9), .ref (w 10)])), (w 5, .inl (z.1, 66, .inl (aI pcn))), (w 6, .inl (z.1, 1584, .inl (aI prt))), (w 7, .inl (z.1, 1584, .inl (aI pnt)))] := hD
                have hh1 : ¬ fd = -1 → hasE pcn prt pnt 64 router net := fun w => by rcases fd1 with ⟨q, -⟩ | ⟨k, k0, k1, k2, k3, -⟩; exact absurd q w; exact ⟨k, k0, k1, k2, k3⟩
                have hh0 : fd = -1 → ¬ hasE pcn prt pnt 64 router net := by
                  rintro w ⟨k, k0, k1, k2, k3⟩
                  rcases fd1 with ⟨-, q⟩ | ⟨j, j0, -, -, -, q⟩
                  · exact q k k0 k1 ⟨k2, k3⟩
                  · omega
                clear fd1
                refine rv_if_lt (tgt := 103) hx hb d_M_entry_96 (by decide) (by constructor <;> omega) (fun c_22 => ?_) (fun c_22 => ?_)
                · skip
                  have hw0 : ¬ hasE pcn prt pnt 64 router net := hh0 (by omega)
                  refine lv_iconst (v := iI 0) hx hb d_M_entry_103 rfl ?_
                  refine va_put (D := G) (ci := 4) (v := .int (iI 0)) (ty := .int) (C := R_M) (T := T_M) (N := 16) hx hb hg iw_M ty_M ty_M_ok nm_M hown hE.1 hP hD hS 2 rfl rfl 1 (by decide) (hg _ fl_M_48) (fun _ h9 => h9) rfl (by decide +kernel) rfl rfl (Nat.le_of_ble_eq_true rfl) d_M_entry_104 (fun H locs hP hD hS => ?_)
                  have hP : va_P G cls0 [(w 3, .inl (z.1, 66, .inl (aI pnu))), (w 8, .inl (z.1, 1584, .inl (aI pco))), (w 0, .inr (4, [.int (iI it), .int (iI 0), .int (iI now), .ref (w 1), .ref (w 2), .int (iI gr), .int (iI md), .ref (w 3), .ref (w 4), .ref (w 5), .ref (w 6), .ref (w 7), .ref (w 8), .int (iI dO), .ref (w 9), .ref (w 10)])), (w 5, .inl (z.1, 66, .inl (aI pcn))), (w 6, .inl (z.1, 1584, .inl (aI prt))), (w 7, .inl (z.1, 1584, .inl (aI pnt)))] H := hP
                  have hD : va_D A [(w 3, .inl (z.1, 66, .inl (aI pnu))), (w 8, .inl (z.1, 1584, .inl (aI pco))), (w 0, .inr (4, [.int (iI it), .int (iI 0), .int (iI now), .ref (w 1), .ref (w 2), .int (iI gr), .int (iI md), .ref (w 3), .ref (w 4), .ref (w 5), .ref (w 6), .ref (w 7), .ref (w 8), .int (iI dO), .ref (w 9), .ref (w 10)])), (w 5, .inl (z.1, 66, .inl (aI pcn))), (w 6, .inl (z.1, 1584, .inl (aI prt))), (w 7, .inl (z.1, 1584, .inl (aI pnt)))] := hD
                  refine lv_aload_n hx hb d_M_entry_107 rfl (lv_at hl 1 rfl) ?_
                  refine va_get (D := G) (ci := 4) (v := .int (iI 0)) (C := R_M) (T := T_M) (N := 16) hx hb hg iw_M hown hE.1 hP 2 rfl rfl 1 (by decide) (hg _ fl_M_48) (fun _ h9 => h9) rfl d_M_entry_108 ?_
                  refine rv_if_le (tgt := 116) hx hb d_M_entry_111 (by decide) ⟨by decide, by decide⟩ (fun c_23 => ?_) (fun c_23 => ?_)
                  · skip
                    refine lv_aload_n hx hb d_M_entry_116 rfl (lv_at hl 1 rfl) ?_
                    refine lv_bipush (v := iI 64) hx hb d_M_entry_117 (by decide +kernel) ?_
                    refine lv_iload_n hx hb d_M_entry_119 rfl (lv_at hl 2 rfl) ?_
                    refine lv_iload_n hx hb d_M_entry_120 rfl (lv_at hl 3 rfl) ?_
                    refine lv_iload_n hx hb d_M_entry_121 rfl (lv_at hl 4 rfl) ?_
                    refine qV_v (As := [.int (iI 64), .int (iI router), .int (iI net), .int (iI cost)]) (rest := []) (wr := [(w 3, .inl (z.1, 66, .inl (aI pnu)))]) hx hb hml hown hg hE hA hS hP hD (k_M_add l G z w it 0 now gr md dO pcn prt pnt pco 64 router net cost (by assumption) (by (try have := rcn 64); omega) (by (try have := rcn 64); (try have := rcn 64); omega)) [2, 3, 4, 5, 1] [0] rfl rfl (by decide) (by decide) (by decide) (q0 := 0) rfl rfl ml_M_62 im_M_add se_M_add in_M co_M_add ok_M_add ⟨Nat.le_of_ble_eq_true rfl, Nat.le_of_ble_eq_true rfl⟩ hl.1 rfl (Nat.le_of_ble_eq_true rfl) d_M_entry_122 ⟨Nat.le_of_ble_eq_true rfl, Nat.le_of_ble_eq_true rfl⟩ (fun u9 H locs hw hP hD hS => ?_)
                    subst hw
                    have hP : va_P G cls0 [(w 3, .inl (z.1, 66, .inl (aI pnu))), (w 0, .inr (4, [.int (iI it), .int (iI 0), .int (iI now), .ref (w 1), .ref (w 2), .int (iI gr), .int (iI md), .ref (w 3), .ref (w 4), .ref (w 5), .ref (w 6), .ref (w 7), .ref (w 8), .int (iI dO), .ref (w 9), .ref (w 10)])), (w 5, .inl (z.1, 66, .inl (aI (uZ pcn 64 (pcn 64 + 1))))), (w 6, .inl (z.1, 1584, .inl (aI (uZ prt (24 * 64 + pcn 64) router)))), (w 7, .inl (z.1, 1584, .inl (aI (uZ pnt (24 * 64 + pcn 64) net)))), (w 8, .inl (z.1, 1584, .inl (aI (uZ pco (24 * 64 + pcn 64) cost))))] H := hP
                    have hD : va_D A [(w 3, .inl (z.1, 66, .inl (aI pnu))), (w 0, .inr (4, [.int (iI it), .int (iI 0), .int (iI now), .ref (w 1), .ref (w 2), .int (iI gr), .int (iI md), .ref (w 3), .ref (w 4), .ref (w 5), .ref (w 6), .ref (w 7), .ref (w 8), .int (iI dO), .ref (w 9), .ref (w 10)])), (w 5, .inl (z.1, 66, .inl (aI (uZ pcn 64 (pcn 64 + 1))))), (w 6, .inl (z.1, 1584, .inl (aI (uZ prt (24 * 64 + pcn 64) router)))), (w 7, .inl (z.1, 1584, .inl (aI (uZ pnt (24 * 64 + pcn 64) net)))), (w 8, .inl (z.1, 1584, .inl (aI (uZ pco (24 * 64 + pcn 64) cost))))] := hD
                    refine lv_aload_n hx hb d_M_entry_125 rfl (lv_at hl 1 rfl) ?_
                    refine va_get (D := G) (ci := 4) (v := .ref (w 5)) (C := R_M) (T := T_M) (N := 16) hx hb hg iw_M hown hE.1 hP 1 rfl rfl 9 (by decide) (hg _ fl_M_27) (fun _ h9 => h9) rfl d_M_entry_126 ?_
                    refine lv_bipush (v := iI 64) hx hb d_M_entry_129 (by decide +kernel) ?_
                    refine rv_iald hx hb hE hP 2 rfl (i := 64) (by omega) (by omega) (by decide) d_M_entry_131 ?_
                    have hP9 : va_P G cls0 [(w 0, .inr (4, [.int (iI it), .int (iI 0), .int (iI now), .ref (w 1), .ref (w 2), .int (iI gr), .int (iI md), .ref (w 3), .ref (w 4), .ref (w 5), .ref (w 6), .ref (w 7), .ref (w 8), .int (iI dO), .ref (w 9), .ref (w 10)])), (w 3, .inl (z.1, 66, .inl (aI pnu))), (w 5, .inl (z.1, 66, .inl (aI (uZ pcn 64 (pcn 64 + 1))))), (w 6, .inl (z.1, 1584, .inl (aI (uZ prt (24 * 64 + pcn 64) router)))), (w 7, .inl (z.1, 1584, .inl (aI (uZ pnt (24 * 64 + pcn 64) net)))), (w 8, .inl (z.1, 1584, .inl (aI (uZ pco (24 * 64 + pcn 64) cost))))] H := hP.sub [1, 0, 2, 3, 4, 5] rfl
                    have hD9 : va_D A [(w 0, .inr (4, [.int (iI it), .int (iI 0), .int (iI now), .ref (w 1), .ref (w 2), .int (iI gr), .int (iI md), .ref (w 3), .ref (w 4), .ref (w 5), .ref (w 6), .ref (w 7), .ref (w 8), .int (iI dO), .ref (w 9), .ref (w 10)])), (w 3, .inl (z.1, 66, .inl (aI pnu))), (w 5, .inl (z.1, 66, .inl (aI (uZ pcn 64 (pcn 64 + 1))))), (w 6, .inl (z.1, 1584, .inl (aI (uZ prt (24 * 64 + pcn 64) router)))), (w 7, .inl (z.1, 1584, .inl (aI (uZ pnt (24 * 64 + pcn 64) net)))), (w 8, .inl (z.1, 1584, .inl (aI (uZ pco (24 * 64 + pcn 64) cost))))] := hD.sub [1, 0, 2, 3, 4, 5] (by decide) rfl
                    refine rv_iret hx hb hRt (nar_int _) hlocks (Nat.le_of_ble_eq_true rfl) (Nat.le_of_ble_eq_true rfl) hP9 hD9 hS d_M_entry_132 ?_
                    exact ⟨((uZ pcn 64 (pcn 64 + 1)) 64), 0, (uZ pcn 64 (pcn 64 + 1)), (uZ prt (24 * 64 + pcn 64) router), (uZ pnt (24 * 64 + pcn 64) net), (uZ pco (24 * 64 + pcn 64) cost), rfl, rfl, (Or.inr (Or.inr ⟨by omega, by omega, by omega, hw0, rfl, uZ_s, rfl, rfl, rfl, rfl⟩))⟩
                  · exact absurd c_23 (by decide)
                · skip
                  have hw2 : pnu 64 = 0 ∨ pcn 64 = 24 ∨ hasE pcn prt pnt 64 router net := Or.inr (Or.inr (hh1 (by omega)))
                  refine lv_iconst (v := iI 2) hx hb d_M_entry_99 rfl ?_
                  refine lv_goto (tgt := 104) hx hb d_M_entry_100 (by decide) ?_
                  refine va_put (D := G) (ci := 4) (v := .int (iI 2)) (ty := .int) (C := R_M) (T := T_M) (N := 16) hx hb hg iw_M ty_M ty_M_ok nm_M hown hE.1 hP hD hS 2 rfl rfl 1 (by decide) (hg _ fl_M_48) (fun _ h9 => h9) rfl (by decide +kernel) rfl rfl (Nat.le_of_ble_eq_true rfl) d_M_entry_104 (fun H locs hP hD hS => ?_)
                  have hP : va_P G cls0 [(w 3, .inl (z.1, 66, .inl (aI pnu))), (w 8, .inl (z.1, 1584, .inl (aI pco))), (w 0, .inr (4, [.int (iI it), .int (iI 2), .int (iI now), .ref (w 1), .ref (w 2), .int (iI gr), .int (iI md), .ref (w 3), .ref (w 4), .ref (w 5), .ref (w 6), .ref (w 7), .ref (w 8), .int (iI dO), .ref (w 9), .ref (w 10)])), (w 5, .inl (z.1, 66, .inl (aI pcn))), (w 6, .inl (z.1, 1584, .inl (aI prt))), (w 7, .inl (z.1, 1584, .inl (aI pnt)))] H := hP
                  have hD : va_D A [(w 3, .inl (z.1, 66, .inl (aI pnu))), (w 8, .inl (z.1, 1584, .inl (aI pco))), (w 0, .inr (4, [.int (iI it), .int (iI 2), .int (iI now), .ref (w 1), .ref (w 2), .int (iI gr), .int (iI md), .ref (w 3), .ref (w 4), .ref (w 5), .ref (w 6), .ref (w 7), .ref (w 8), .int (iI dO), .ref (w 9), .ref (w 10)])), (w 5, .inl (z.1, 66, .inl (aI pcn))), (w 6, .inl (z.1, 1584, .inl (aI prt))), (w 7, .inl (z.1, 1584, .inl (aI pnt)))] := hD
                  refine lv_aload_n hx hb d_M_entry_107 rfl (lv_at hl 1 rfl) ?_
                  refine va_get (D := G) (ci := 4) (v := .int (iI 2)) (C := R_M) (T := T_M) (N := 16) hx hb hg iw_M hown hE.1 hP 2 rfl rfl 1 (by decide) (hg _ fl_M_48) (fun _ h9 => h9) rfl d_M_entry_108 ?_
                  refine rv_if_le (tgt := 116) hx hb d_M_entry_111 (by decide) ⟨by decide, by decide⟩ (fun c_24 => ?_) (fun c_24 => ?_)
                  · exact absurd c_24 (by decide)
                  · skip
                    refine lv_iconst (v := iI 0) hx hb d_M_entry_114 rfl ?_
                    have hP9 : va_P G cls0 [(w 0, .inr (4, [.int (iI it), .int (iI 2), .int (iI now), .ref (w 1), .ref (w 2), .int (iI gr), .int (iI md), .ref (w 3), .ref (w 4), .ref (w 5), .ref (w 6), .ref (w 7), .ref (w 8), .int (iI dO), .ref (w 9), .ref (w 10)])), (w 3, .inl (z.1, 66, .inl (aI pnu))), (w 5, .inl (z.1, 66, .inl (aI pcn))), (w 6, .inl (z.1, 1584, .inl (aI prt))), (w 7, .inl (z.1, 1584, .inl (aI pnt))), (w 8, .inl (z.1, 1584, .inl (aI pco)))] H := hP.sub [2, 0, 3, 4, 5, 1] rfl
                    have hD9 : va_D A [(w 0, .inr (4, [.int (iI it), .int (iI 2), .int (iI now), .ref (w 1), .ref (w 2), .int (iI gr), .int (iI md), .ref (w 3), .ref (w 4), .ref (w 5), .ref (w 6), .ref (w 7), .ref (w 8), .int (iI dO), .ref (w 9), .ref (w 10)])), (w 3, .inl (z.1, 66, .inl (aI pnu))), (w 5, .inl (z.1, 66, .inl (aI pcn))), (w 6, .inl (z.1, 1584, .inl (aI prt))), (w 7, .inl (z.1, 1584, .inl (aI pnt))), (w 8, .inl (z.1, 1584, .inl (aI pco)))] := hD.sub [2, 0, 3, 4, 5, 1] (by decide) rfl
                    refine rv_iret hx hb hRt (nar_int _) hlocks (Nat.le_of_ble_eq_true rfl) (Nat.le_of_ble_eq_true rfl) hP9 hD9 hS d_M_entry_115 ?_
                    exact ⟨0, 2, pcn, prt, pnt, pco, rfl, rfl, (by first | exact Or.inr (Or.inl ⟨by omega, hw2, rfl, rfl, rfl, rfl, rfl⟩) | exact Or.inl ⟨by omega, rfl, rfl, rfl, rfl, rfl⟩)⟩
          · exact absurd c_17 (by decide)
        · skip
          refine lv_iload_n hx hb d_M_entry_41 rfl (lv_at hl 1 rfl) ?_
          refine lv_aload_n hx hb d_M_entry_42 rfl (lv_at hl 0 rfl) ?_
          refine va_get (D := G) (ci := 4) (v := .int (iI dO)) (C := R_M) (T := T_M) (N := 16) hx hb hg iw_M hown hE.1 hP 0 rfl rfl 13 (by decide) (hg _ fl_M_67) (fun _ h9 => h9) rfl d_M_entry_43 ?_
          refine rv_icmp_eq (tgt := 53) hx hb d_M_entry_46 (by decide) (by constructor <;> omega) (by constructor <;> omega) (fun c_25 => ?_) (fun c_25 => ?_)
          · skip
            refine lv_iconst (v := iI 0) hx hb d_M_entry_53 rfl ?_
            refine lv_istore (lv' := [(4, .int (iI 0)), (0, .ref (w 0)), (1, .int (iI router)), (2, .int (iI net)), (3, .int (iI cost))]) hx hb d_M_entry_54 hl (by decide) rfl (fun ls hl => ?_)
            refine lv_aload_n hx hb d_M_entry_56 rfl (lv_at hl 1 rfl) ?_
            refine lv_iload hx hb d_M_entry_57 (lv_at hl 0 rfl) ?_
            refine rv_if_ne (tgt := 66) hx hb d_M_entry_59 (by decide) ⟨by decide, by decide⟩ (fun c_26 => ?_) (fun c_26 => ?_)
            · exact absurd c_26 (by decide)
            · skip
              refine lv_iconst (v := iI 1) hx hb d_M_entry_62 rfl ?_
              refine lv_goto (tgt := 104) hx hb d_M_entry_63 (by decide) ?_
              refine va_put (D := G) (ci := 4) (v := .int (iI 1)) (ty := .int) (C := R_M) (T := T_M) (N := 16) hx hb hg iw_M ty_M ty_M_ok nm_M hown hE.1 hP hD hS 0 rfl rfl 1 (by decide) (hg _ fl_M_48) (fun _ h9 => h9) rfl (by decide +kernel) rfl rfl (Nat.le_of_ble_eq_true rfl) d_M_entry_104 (fun H locs hP hD hS => ?_)
              have hP : va_P G cls0 [(w 0, .inr (4, [.int (iI it), .int (iI 1), .int (iI now), .ref (w 1), .ref (w 2), .int (iI gr), .int (iI md), .ref (w 3), .ref (w 4), .ref (w 5), .ref (w 6), .ref (w 7), .ref (w 8), .int (iI dO), .ref (w 9), .ref (w 10)])), (w 3, .inl (z.1, 66, .inl (aI pnu))), (w 5, .inl (z.1, 66, .inl (aI pcn))), (w 6, .inl (z.1, 1584, .inl (aI prt))), (w 7, .inl (z.1, 1584, .inl (aI pnt))), (w 8, .inl (z.1, 1584, .inl (aI pco)))] H := hP
              have hD : va_D A [(w 0, .inr (4, [.int (iI it), .int (iI 1), .int (iI now), .ref (w 1), .ref (w 2), .int (iI gr), .int (iI md), .ref (w 3), .ref (w 4), .ref (w 5), .ref (w 6), .ref (w 7), .ref (w 8), .int (iI dO), .ref (w 9), .ref (w 10)])), (w 3, .inl (z.1, 66, .inl (aI pnu))), (w 5, .inl (z.1, 66, .inl (aI pcn))), (w 6, .inl (z.1, 1584, .inl (aI prt))), (w 7, .inl (z.1, 1584, .inl (aI pnt))), (w 8, .inl (z.1, 1584, .inl (aI pco)))] := hD
              refine lv_aload_n hx hb d_M_entry_107 rfl (lv_at hl 1 rfl) ?_
              refine va_get (D := G) (ci := 4) (v := .int (iI 1)) (C := R_M) (T := T_M) (N := 16) hx hb hg iw_M hown hE.1 hP 0 rfl rfl 1 (by decide) (hg _ fl_M_48) (fun _ h9 => h9) rfl d_M_entry_108 ?_
              refine rv_if_le (tgt := 116) hx hb d_M_entry_111 (by decide) ⟨by decide, by decide⟩ (fun c_27 => ?_) (fun c_27 => ?_)
              · exact absurd c_27 (by decide)
              · skip
                refine lv_iconst (v := iI 0) hx hb d_M_entry_114 rfl ?_
                have hP9 : va_P G cls0 [(w 0, .inr (4, [.int (iI it), .int (iI 1), .int (iI now), .ref (w 1), .ref (w 2), .int (iI gr), .int (iI md), .ref (w 3), .ref (w 4), .ref (w 5), .ref (w 6), .ref (w 7), .ref (w 8), .int (iI dO), .ref (w 9), .ref (w 10)])), (w 3, .inl (z.1, 66, .inl (aI pnu))), (w 5, .inl (z.1, 66, .inl (aI pcn))), (w 6, .inl (z.1, 1584, .inl (aI prt))), (w 7, .inl (z.1, 1584, .inl (aI pnt))), (w 8, .inl (z.1, 1584, .inl (aI pco)))] H := hP.sub [0, 1, 2, 3, 4, 5] rfl
                have hD9 : va_D A [(w 0, .inr (4, [.int (iI it), .int (iI 1), .int (iI now), .ref (w 1), .ref (w 2), .int (iI gr), .int (iI md), .ref (w 3), .ref (w 4), .ref (w 5), .ref (w 6), .ref (w 7), .ref (w 8), .int (iI dO), .ref (w 9), .ref (w 10)])), (w 3, .inl (z.1, 66, .inl (aI pnu))), (w 5, .inl (z.1, 66, .inl (aI pcn))), (w 6, .inl (z.1, 1584, .inl (aI prt))), (w 7, .inl (z.1, 1584, .inl (aI pnt))), (w 8, .inl (z.1, 1584, .inl (aI pco)))] := hD.sub [0, 1, 2, 3, 4, 5] (by decide) rfl
                refine rv_iret hx hb hRt (nar_int _) hlocks (Nat.le_of_ble_eq_true rfl) (Nat.le_of_ble_eq_true rfl) hP9 hD9 hS d_M_entry_115 ?_
                exact ⟨0, 1, pcn, prt, pnt, pco, rfl, rfl, (by first | exact Or.inr (Or.inl ⟨by omega, hw2, rfl, rfl, rfl, rfl, rfl⟩) | exact Or.inl ⟨by omega, rfl, rfl, rfl, rfl, rfl⟩)⟩
          · skip
            refine lv_iconst (v := iI 1) hx hb d_M_entry_49 rfl ?_
            refine lv_goto (tgt := 54) hx hb d_M_entry_50 (by decide) ?_
            refine lv_istore (lv' := [(4, .int (iI 1)), (0, .ref (w 0)), (1, .int (iI router)), (2, .int (iI net)), (3, .int (iI cost))]) hx hb d_M_entry_54 hl (by decide) rfl (fun ls hl => ?_)
            refine lv_aload_n hx hb d_M_entry_56 rfl (lv_at hl 1 rfl) ?_
            refine lv_iload hx hb d_M_entry_57 (lv_at hl 0 rfl) ?_
            refine rv_if_ne (tgt := 66) hx hb d_M_entry_59 (by decide) ⟨by decide, by decide⟩ (fun c_28 => ?_) (fun c_28 => ?_)
            · skip
              refine lv_aload_n hx hb d_M_entry_66 rfl (lv_at hl 1 rfl) ?_
              refine va_get (D := G) (ci := 4) (v := .ref (w 3)) (C := R_M) (T := T_M) (N := 16) hx hb hg iw_M hown hE.1 hP 0 rfl rfl 7 (by decide) (hg _ fl_M_21) (fun _ h9 => h9) rfl d_M_entry_67 ?_
              refine lv_bipush (v := iI 64) hx hb d_M_entry_70 (by decide +kernel) ?_
              refine rv_iald hx hb hE hP 1 rfl (i := 64) (by omega) (by omega) (by decide) d_M_entry_72 ?_
              refine rv_if_eq (tgt := 99) hx hb d_M_entry_73 (by decide) (by (try have := rnu 64); constructor <;> omega) (fun c_29 => ?_) (fun c_29 => ?_)
              · skip
                have hw2 : pnu 64 = 0 ∨ pcn 64 = 24 ∨ hasE pcn prt pnt 64 router net := Or.inl c_29
                refine lv_iconst (v := iI 2) hx hb d_M_entry_99 rfl ?_
                refine lv_goto (tgt := 104) hx hb d_M_entry_100 (by decide) ?_
                refine va_put (D := G) (ci := 4) (v := .int (iI 2)) (ty := .int) (C := R_M) (T := T_M) (N := 16) hx hb hg iw_M ty_M ty_M_ok nm_M hown hE.1 hP hD hS 0 rfl rfl 1 (by decide) (hg _ fl_M_48) (fun _ h9 => h9) rfl (by decide +kernel) rfl rfl (Nat.le_of_ble_eq_true rfl) d_M_entry_104 (fun H locs hP hD hS => ?_)
                have hP : va_P G cls0 [(w 0, .inr (4, [.int (iI it), .int (iI 2), .int (iI now), .ref (w 1), .ref (w 2), .int (iI gr), .int (iI md), .ref (w 3), .ref (w 4), .ref (w 5), .ref (w 6), .ref (w 7), .ref (w 8), .int (iI dO), .ref (w 9), .ref (w 10)])), (w 3, .inl (z.1, 66, .inl (aI pnu))), (w 5, .inl (z.1, 66, .inl (aI pcn))), (w 6, .inl (z.1, 1584, .inl (aI prt))), (w 7, .inl (z.1, 1584, .inl (aI pnt))), (w 8, .inl (z.1, 1584, .inl (aI pco)))] H := hP
                have hD : va_D A [(w 0, .inr (4, [.int (iI it), .int (iI 2), .int (iI now), .ref (w 1), .ref (w 2), .int (iI gr), .int (iI md), .ref (w 3), .ref (w 4), .ref (w 5), .ref (w 6), .ref (w 7), .ref (w 8), .int (iI dO), .ref (w 9), .ref (w 10)])), (w 3, .inl (z.1, 66, .inl (aI pnu))), (w 5, .inl (z.1, 66, .inl (aI pcn))), (w 6, .inl (z.1, 1584, .inl (aI prt))), (w 7, .inl (z.1, 1584, .inl (aI pnt))), (w 8, .inl (z.1, 1584, .inl (aI pco)))] := hD
                refine lv_aload_n hx hb d_M_entry_107 rfl (lv_at hl 1 rfl) ?_
                refine va_get (D := G) (ci := 4) (v := .int (iI 2)) (C := R_M) (T := T_M) (N := 16) hx hb hg iw_M hown hE.1 hP 0 rfl rfl 1 (by decide) (hg _ fl_M_48) (fun _ h9 => h9) rfl d_M_entry_108 ?_
                refine rv_if_le (tgt := 116) hx hb d_M_entry_111 (by decide) ⟨by decide, by decide⟩ (fun c_30 => ?_) (fun c_30 => ?_)
                · exact absurd c_30 (by decide)
                · skip
                  refine lv_iconst (v := iI 0) hx hb d_M_entry_114 rfl ?_
                  have hP9 : va_P G cls0 [(w 0, .inr (4, [.int (iI it), .int (iI 2), .int (iI now), .ref (w 1), .ref (w 2), .int (iI gr), .int (iI md), .ref (w 3), .ref (w 4), .ref (w 5), .ref (w 6), .ref (w 7), .ref (w 8), .int (iI dO), .ref (w 9), .ref (w 10)])), (w 3, .inl (z.1, 66, .inl (aI pnu))), (w 5, .inl (z.1, 66, .inl (aI pcn))), (w 6, .inl (z.1, 1584, .inl (aI prt))), (w 7, .inl (z.1, 1584, .inl (aI pnt))), (w 8, .inl (z.1, 1584, .inl (aI pco)))] H := hP.sub [0, 1, 2, 3, 4, 5] rfl
                  have hD9 : va_D A [(w 0, .inr (4, [.int (iI it), .int (iI 2), .int (iI now), .ref (w 1), .ref (w 2), .int (iI gr), .int (iI md), .ref (w 3), .ref (w 4), .ref (w 5), .ref (w 6), .ref (w 7), .ref (w 8), .int (iI dO), .ref (w 9), .ref (w 10)])), (w 3, .inl (z.1, 66, .inl (aI pnu))), (w 5, .inl (z.1, 66, .inl (aI pcn))), (w 6, .inl (z.1, 1584, .inl (aI prt))), (w 7, .inl (z.1, 1584, .inl (aI pnt))), (w 8, .inl (z.1, 1584, .inl (aI pco)))] := hD.sub [0, 1, 2, 3, 4, 5] (by decide) rfl
                  refine rv_iret hx hb hRt (nar_int _) hlocks (Nat.le_of_ble_eq_true rfl) (Nat.le_of_ble_eq_true rfl) hP9 hD9 hS d_M_entry_115 ?_
                  exact ⟨0, 2, pcn, prt, pnt, pco, rfl, rfl, (by first | exact Or.inr (Or.inl ⟨by omega, hw2, rfl, rfl, rfl, rfl, rfl⟩) | exact Or.inl ⟨by omega, rfl, rfl, rfl, rfl, rfl⟩)⟩
              · skip
                refine lv_aload_n hx hb d_M_entry_76 rfl (lv_at hl 1 rfl) ?_
                refine va_get (D := G) (ci := 4) (v := .ref (w 5)) (C := R_M) (T := T_M) (N := 16) hx hb hg iw_M hown hE.1 hP 0 rfl rfl 9 (by decide) (hg _ fl_M_27) (fun _ h9 => h9) rfl d_M_entry_77 ?_
                refine lv_bipush (v := iI 64) hx hb d_M_entry_80 (by decide +kernel) ?_
                refine rv_iald hx hb hE hP 2 rfl (i := 64) (by omega) (by omega) (by decide) d_M_entry_82 ?_
                refine lv_bipush (v := iI 24) hx hb d_M_entry_83 (by decide +kernel) ?_
                refine rv_icmp_eq (tgt := 99) hx hb d_M_entry_85 (by decide) (by (try have := rcn 64); constructor <;> omega) ⟨by decide, by decide⟩ (fun c_31 => ?_) (fun c_31 => ?_)
                · skip
                  have hw2 : pnu 64 = 0 ∨ pcn 64 = 24 ∨ hasE pcn prt pnt 64 router net := Or.inr (Or.inl c_31)
                  refine lv_iconst (v := iI 2) hx hb d_M_entry_99 rfl ?_
                  refine lv_goto (tgt := 104) hx hb d_M_entry_100 (by decide) ?_
                  refine va_put (D := G) (ci := 4) (v := .int (iI 2)) (ty := .int) (C := R_M) (T := T_M) (N := 16) hx hb hg iw_M ty_M ty_M_ok nm_M hown hE.1 hP hD hS 0 rfl rfl 1 (by decide) (hg _ fl_M_48) (fun _ h9 => h9) rfl (by decide +kernel) rfl rfl (Nat.le_of_ble_eq_true rfl) d_M_entry_104 (fun H locs hP hD hS => ?_)
                  have hP : va_P G cls0 [(w 0, .inr (4, [.int (iI it), .int (iI 2), .int (iI now), .ref (w 1), .ref (w 2), .int (iI gr), .int (iI md), .ref (w 3), .ref (w 4), .ref (w 5), .ref (w 6), .ref (w 7), .ref (w 8), .int (iI dO), .ref (w 9), .ref (w 10)])), (w 3, .inl (z.1, 66, .inl (aI pnu))), (w 5, .inl (z.1, 66, .inl (aI pcn))), (w 6, .inl (z.1, 1584, .inl (aI prt))), (w 7, .inl (z.1, 1584, .inl (aI pnt))), (w 8, .inl (z.1, 1584, .inl (aI pco)))] H := hP
                  have hD : va_D A [(w 0, .inr (4, [.int (iI it), .int (iI 2), .int (iI now), .ref (w 1), .ref (w 2), .int (iI gr), .int (iI md), .ref (w 3), .ref (w 4), .ref (w 5), .ref (w 6), .ref (w 7), .ref (w 8), .int (iI dO), .ref (w 9), .ref (w 10)])), (w 3, .inl (z.1, 66, .inl (aI pnu))), (w 5, .inl (z.1, 66, .inl (aI pcn))), (w 6, .inl (z.1, 1584, .inl (aI prt))), (w 7, .inl (z.1, 1584, .inl (aI pnt))), (w 8, .inl (z.1, 1584, .inl (aI pco)))] := hD
                  refine lv_aload_n hx hb d_M_entry_107 rfl (lv_at hl 1 rfl) ?_
                  refine va_get (D := G) (ci := 4) (v := .int (iI 2)) (C := R_M) (T := T_M) (N := 16) hx hb hg iw_M hown hE.1 hP 0 rfl rfl 1 (by decide) (hg _ fl_M_48) (fun _ h9 => h9) rfl d_M_entry_108 ?_
                  refine rv_if_le (tgt := 116) hx hb d_M_entry_111 (by decide) ⟨by decide, by decide⟩ (fun c_32 => ?_) (fun c_32 => ?_)
                  · exact absurd c_32 (by decide)
                  · skip
                    refine lv_iconst (v := iI 0) hx hb d_M_entry_114 rfl ?_
                    have hP9 : va_P G cls0 [(w 0, .inr (4, [.int (iI it), .int (iI 2), .int (iI now), .ref (w 1), .ref (w 2), .int (iI gr), .int (iI md), .ref (w 3), .ref (w 4), .ref (w 5), .ref (w 6), .ref (w 7), .ref (w 8), .int (iI dO), .ref (w 9), .ref (w 10)])), (w 3, .inl (z.1, 66, .inl (aI pnu))), (w 5, .inl (z.1, 66, .inl (aI pcn))), (w 6, .inl (z.1, 1584, .inl (aI prt))), (w 7, .inl (z.1, 1584, .inl (aI pnt))), (w 8, .inl (z.1, 1584, .inl (aI pco)))] H := hP.sub [0, 1, 2, 3, 4, 5] rfl
                    have hD9 : va_D A [(w 0, .inr (4, [.int (iI it), .int (iI 2), .int (iI now), .ref (w 1), .ref (w 2), .int (iI gr), .int (iI md), .ref (w 3), .ref (w 4), .ref (w 5), .ref (w 6), .ref (w 7), .ref (w 8), .int (iI dO), .ref (w 9), .ref (w 10)])), (w 3, .inl (z.1, 66, .inl (aI pnu))), (w 5, .inl (z.1, 66, .inl (aI pcn))), (w 6, .inl (z.1, 1584, .inl (aI prt))), (w 7, .inl (z.1, 1584, .inl (aI pnt))), (w 8, .inl (z.1, 1584, .inl (aI pco)))] := hD.sub [0, 1, 2, 3, 4, 5] (by decide) rfl
                    refine rv_iret hx hb hRt (nar_int _) hlocks (Nat.le_of_ble_eq_true rfl) (Nat.le_of_ble_eq_true rfl) hP9 hD9 hS d_M_entry_115 ?_
                    exact ⟨0, 2, pcn, prt, pnt, pco, rfl, rfl, (by first | exact Or.inr (Or.inl ⟨by omega, hw2, rfl, rfl, rfl, rfl, rfl⟩) | exact Or.inl ⟨by omega, rfl, rfl, rfl, rfl, rfl⟩)⟩
                · skip
                  refine lv_aload_n hx hb d_M_entry_88 rfl (lv_at hl 1 rfl) ?_
                  refine lv_bipush (v := iI 64) hx hb d_M_entry_89 (by decide +kernel) ?_
                  refine lv_iload_n hx hb d_M_entry_91 rfl (lv_at hl 2 rfl) ?_
                  refine lv_iload_n hx hb d_M_entry_92 rfl (lv_at hl 3 rfl) ?_
                  refine qV_i (As := [.int (iI 64), .int (iI router), .int (iI net)]) (rest := [.ref (w 0)]) (wr := [(w 3, .inl (z.1, 66, .inl (aI pnu))), (w 8, .inl (z.1, 1584, .inl (aI pco)))]) hx hb hml hown hg hE hA hS hP hD (k_M_find l G z w it cd now gr md dO pcn prt pnt 64 router net (by assumption) (by assumption) (by assumption) (by omega) (by omega) (by omega)) [0, 2, 3, 4] [1, 5] rfl rfl (by decide) (by decide) (by decide) (q0 := 0) rfl rfl ml_M_70 im_M_find se_M_find in_M co_M_find ok_M_find ⟨Nat.le_of_ble_eq_true rfl, Nat.le_of_ble_eq_true rfl⟩ hl.1 rfl (Nat.le_of_ble_eq_true rfl) d_M_entry_93 ⟨Nat.le_of_ble_eq_true rfl, Nat.le_of_ble_eq_true rfl⟩ (fun r9 u9 H locs hw hP hD hS => ?_)
                  obtain ⟨fd, rfl, rfl, fd0, fd1⟩ := hw
                  have hP : va_P G cls0 [(w 3, .inl (z.1, 66, .inl (aI pnu))), (w 8, .inl (z.1, 1584, .inl (aI pco))), (w 0, .inr (4, [.int (iI it), .int (iI cd), .int (iI now), .ref (w 1), .ref (w 2), .int (iI gr), .int (iI md), .ref (w 3), .ref (w 4), .ref (w 5), .ref (w 6), .ref (w 7), .ref (w 8), .int (iI dO), .ref (w 9), .ref (w 10)])), (w 5, .inl (z.1, 66, .inl (aI pcn))), (w 6, .inl (z.1, 1584, .inl (aI prt))), (w 7, .inl (z.1, 1584, .inl (aI pnt)))] H := hP
                  have hD : va_D A [(w 3, .inl (z.1, 66, .inl (aI pnu))), (w 8, .inl (z.1, 1584, .inl (aI pco))), (w 0, .inr (4, [.int (iI it), .int (iI cd), .int (iI now), .ref (w 1), .ref (w 2), .int (iI gr), .int (iI md), .ref (w 3), .ref (w 4), .ref (w 5), .ref (w 6), .ref (w 7), .ref (w 8), .int (iI dO), .ref (w 9), .ref (w 10)])), (w 5, .inl (z.1, 66, .inl (aI pcn))), (w 6, .inl (z.1, 1584, .inl (aI prt))), (w 7, .inl (z.1, 1584, .inl (aI pnt)))] := hD
                  have hh1 : ¬ fd = -1 → hasE pcn prt pnt 64 router net := fun w => by rcases fd1 with ⟨q, -⟩ | ⟨k, k0, k1, k2, k3, -⟩; exact absurd q w; exact ⟨k, k0, k1, k2, k3⟩
                  have hh0 : fd = -1 → ¬ hasE pcn prt pnt 64 router net := by
                    rintro w ⟨k, k0, k1, k2, k3⟩
                    rcases fd1 with ⟨-, q⟩ | ⟨j, j0, -, -, -, q⟩
                    · exact q k k0 k1 ⟨k2, k3⟩
                    · omega
                  clear fd1
                  refine rv_if_lt (tgt := 103) hx hb d_M_entry_96 (by decide) (by constructor <;> omega) (fun c_33 => ?_) (fun c_33 => ?_)
                  · skip
                    have hw0 : ¬ hasE pcn prt pnt 64 router net := hh0 (by omega)
                    refine lv_iconst (v := iI 0) hx hb d_M_entry_103 rfl ?_
                    refine va_put (D := G) (ci := 4) (v := .int (iI 0)) (ty := .int) (C := R_M) (T := T_M) (N := 16) hx hb hg iw_M ty_M ty_M_ok nm_M hown hE.1 hP hD hS 2 rfl rfl 1 (by decide) (hg _ fl_M_48) (fun _ h9 => h9) rfl (by decide +kernel) rfl rfl (Nat.le_of_ble_eq_true rfl) d_M_entry_104 (fun H locs hP hD hS => ?_)
                    have hP : va_P G cls0 [(w 3, .inl (z.1, 66, .inl (aI pnu))), (w 8, .inl (z.1, 1584, .inl (aI pco))), (w 0, .inr (4, [.int (iI it), .int (iI 0), .int (iI now), .ref (w 1), .ref (w 2), .int (iI gr), .int (iI md), .ref (w 3), .ref (w 4), .ref (w 5), .ref (w 6), .ref (w 7), .ref (w 8), .int (iI dO), .ref (w 9), .ref (w 10)])), (w 5, .inl (z.1, 66, .inl (aI pcn))), (w 6, .inl (z.1, 1584, .inl (aI prt))), (w 7, .inl (z.1, 1584, .inl (aI pnt)))] H := hP
                    have hD : va_D A [(w 3, .inl (z.1, 66, .inl (aI pnu))), (w 8, .inl (z.1, 1584, .inl (aI pco))), (w 0, .inr (4, [.int (iI it), .int (iI 0), .int (iI now), .ref (w 1), .ref (w 2), .int (iI gr), .int (iI md), .ref (w 3), .ref (w 4), .ref (w 5), .ref (w 6), .ref (w 7), .ref (w 8), .int (iI dO), .ref (w 9), .ref (w 10)])), (w 5, .inl (z.1, 66, .inl (aI pcn))), (w 6, .inl (z.1, 1584, .inl (aI prt))), (w 7, .inl (z.1, 1584, .inl (aI pnt)))] := hD
                    refine lv_aload_n hx hb d_M_entry_107 rfl (lv_at hl 1 rfl) ?_
                    refine va_get (D := G) (ci := 4) (v := .int (iI 0)) (C := R_M) (T := T_M) (N := 16) hx hb hg iw_M hown hE.1 hP 2 rfl rfl 1 (by decide) (hg _ fl_M_48) (fun _ h9 => h9) rfl d_M_entry_108 ?_
                    refine rv_if_le (tgt := 116) hx hb d_M_entry_111 (by decide) ⟨by decide, by decide⟩ (fun c_34 => ?_) (fun c_34 => ?_)
                    · skip
                      refine lv_aload_n hx hb d_M_entry_116 rfl (lv_at hl 1 rfl) ?_
                      refine lv_bipush (v := iI 64) hx hb d_M_entry_117 (by decide +kernel) ?_
                      refine lv_iload_n hx hb d_M_entry_119 rfl (lv_at hl 2 rfl) ?_
                      refine lv_iload_n hx hb d_M_entry_120 rfl (lv_at hl 3 rfl) ?_
                      refine lv_iload_n hx hb d_M_entry_121 rfl (lv_at hl 4 rfl) ?_
                      refine qV_v (As := [.int (iI 64), .int (iI router), .int (iI net), .int (iI cost)]) (rest := []) (wr := [(w 3, .inl (z.1, 66, .inl (aI pnu)))]) hx hb hml hown hg hE hA hS hP hD (k_M_add l G z w it 0 now gr md dO pcn prt pnt pco 64 router net cost (by assumption) (by (try have := rcn 64); omega) (by (try have := rcn 64); (try have := rcn 64); omega)) [2, 3, 4, 5, 1] [0] rfl rfl (by decide) (by decide) (by decide) (q0 := 0) rfl rfl ml_M_62 im_M_add se_M_add in_M co_M_add ok_M_add ⟨Nat.le_of_ble_eq_true rfl, Nat.le_of_ble_eq_true rfl⟩ hl.1 rfl (Nat.le_of_ble_eq_true rfl) d_M_entry_122 ⟨Nat.le_of_ble_eq_true rfl, Nat.le_of_ble_eq_true rfl⟩ (fun u9 H locs hw hP hD hS => ?_)
                      subst hw
                      have hP : va_P G cls0 [(w 3, .inl (z.1, 66, .inl (aI pnu))), (w 0, .inr (4, [.int (iI it), .int (iI 0), .int (iI now), .ref (w 1), .ref (w 2), .int (iI gr), .int (iI md), .ref (w 3), .ref (w 4), .ref (w 5), .ref (w 6), .ref (w 7), .ref (w 8), .int (iI dO), .ref (w 9), .ref (w 10)])), (w 5, .inl (z.1, 66, .inl (aI (uZ pcn 64 (pcn 64 + 1))))), (w 6, .inl (z.1, 1584, .inl (aI (uZ prt (24 * 64 + pcn 64) router)))), (w 7, .inl (z.1, 1584, .inl (aI (uZ pnt (24 * 64 + pcn 64) net)))), (w 8, .inl (z.1, 1584, .inl (aI (uZ pco (24 * 64 + pcn 64) cost))))] H := hP
                      have hD : va_D A [(w 3, .inl (z.1, 66, .inl (aI pnu))), (w 0, .inr (4, [.int (iI it), .int (iI 0), .int (iI now), .ref (w 1), .ref (w 2), .int (iI gr), .int (iI md), .ref (w 3), .ref (w 4), .ref (w 5), .ref (w 6), .ref (w 7), .ref (w 8), .int (iI dO), .ref (w 9), .ref (w 10)])), (w 5, .inl (z.1, 66, .inl (aI (uZ pcn 64 (pcn 64 + 1))))), (w 6, .inl (z.1, 1584, .inl (aI (uZ prt (24 * 64 + pcn 64) router)))), (w 7, .inl (z.1, 1584, .inl (aI (uZ pnt (24 * 64 + pcn 64) net)))), (w 8, .inl (z.1, 1584, .inl (aI (uZ pco (24 * 64 + pcn 64) cost))))] := hD
                      refine lv_aload_n hx hb d_M_entry_125 rfl (lv_at hl 1 rfl) ?_
                      refine va_get (D := G) (ci := 4) (v := .ref (w 5)) (C := R_M) (T := T_M) (N := 16) hx hb hg iw_M hown hE.1 hP 1 rfl rfl 9 (by decide) (hg _ fl_M_27) (fun _ h9 => h9) rfl d_M_entry_126 ?_
                      refine lv_bipush (v := iI 64) hx hb d_M_entry_129 (by decide +kernel) ?_
                      refine rv_iald hx hb hE hP 2 rfl (i := 64) (by omega) (by omega) (by decide) d_M_entry_131 ?_
                      have hP9 : va_P G cls0 [(w 0, .inr (4, [.int (iI it), .int (iI 0), .int (iI now), .ref (w 1), .ref (w 2), .int (iI gr), .int (iI md), .ref (w 3), .ref (w 4), .ref (w 5), .ref (w 6), .ref (w 7), .ref (w 8), .int (iI dO), .ref (w 9), .ref (w 10)])), (w 3, .inl (z.1, 66, .inl (aI pnu))), (w 5, .inl (z.1, 66, .inl (aI (uZ pcn 64 (pcn 64 + 1))))), (w 6, .inl (z.1, 1584, .inl (aI (uZ prt (24 * 64 + pcn 64) router)))), (w 7, .inl (z.1, 1584, .inl (aI (uZ pnt (24 * 64 + pcn 64) net)))), (w 8, .inl (z.1, 1584, .inl (aI (uZ pco (24 * 64 + pcn 64) cost))))] H := hP.sub [1, 0, 2, 3, 4, 5] rfl
                      have hD9 : va_D A [(w 0, .inr (4, [.int (iI it), .int (iI 0), .int (iI now), .ref (w 1), .ref (w 2), .int (iI gr), .int (iI md), .ref (w 3), .ref (w 4), .ref (w 5), .ref (w 6), .ref (w 7), .ref (w 8), .int (iI dO), .ref (w 9), .ref (w 10)])), (w 3, .inl (z.1, 66, .inl (aI pnu))), (w 5, .inl (z.1, 66, .inl (aI (uZ pcn 64 (pcn 64 + 1))))), (w 6, .inl (z.1, 1584, .inl (aI (uZ prt (24 * 64 + pcn 64) router)))), (w 7, .inl (z.1, 1584, .inl (aI (uZ pnt (24 * 64 + pcn 64) net)))), (w 8, .inl (z.1, 1584, .inl (aI (uZ pco (24 * 64 + pcn 64) cost))))] := hD.sub [1, 0, 2, 3, 4, 5] (by decide) rfl
                      refine rv_iret hx hb hRt (nar_int _) hlocks (Nat.le_of_ble_eq_true rfl) (Nat.le_of_ble_eq_true rfl) hP9 hD9 hS d_M_entry_132 ?_
                      exact ⟨((uZ pcn 64 (pcn 64 + 1)) 64), 0, (uZ pcn 64 (pcn 64 + 1)), (uZ prt (24 * 64 + pcn 64) router), (uZ pnt (24 * 64 + pcn 64) net), (uZ pco (24 * 64 + pcn 64) cost), rfl, rfl, (Or.inr (Or.inr ⟨by omega, by omega, by omega, hw0, rfl, uZ_s, rfl, rfl, rfl, rfl⟩))⟩
                    · exact absurd c_34 (by decide)
                  · skip
                    have hw2 : pnu 64 = 0 ∨ pcn 64 = 24 ∨ hasE pcn prt pnt 64 router net := Or.inr (Or.inr (hh1 (by omega)))
                    refine lv_iconst (v := iI 2) hx hb d_M_entry_99 rfl ?_
                    refine lv_goto (tgt := 104) hx hb d_M_entry_100 (by decide) ?_
                    refine va_put (D := G) (ci := 4) (v := .int (iI 2)) (ty := .int) (C := R_M) (T := T_M) (N := 16) hx hb hg iw_M ty_M ty_M_ok nm_M hown hE.1 hP hD hS 2 rfl rfl 1 (by decide) (hg _ fl_M_48) (fun _ h9 => h9) rfl (by decide +kernel) rfl rfl (Nat.le_of_ble_eq_true rfl) d_M_entry_104 (fun H locs hP hD hS => ?_)
                    have hP : va_P G cls0 [(w 3, .inl (z.1, 66, .inl (aI pnu))), (w 8, .inl (z.1, 1584, .inl (aI pco))), (w 0, .inr (4, [.int (iI it), .int (iI 2), .int (iI now), .ref (w 1), .ref (w 2), .int (iI gr), .int (iI md), .ref (w 3), .ref (w 4), .ref (w 5), .ref (w 6), .ref (w 7), .ref (w 8), .int (iI dO), .ref (w 9), .ref (w 10)])), (w 5, .inl (z.1, 66, .inl (aI pcn))), (w 6, .inl (z.1, 1584, .inl (aI prt))), (w 7, .inl (z.1, 1584, .inl (aI pnt)))] H := hP
                    have hD : va_D A [(w 3, .inl (z.1, 66, .inl (aI pnu))), (w 8, .inl (z.1, 1584, .inl (aI pco))), (w 0, .inr (4, [.int (iI it), .int (iI 2), .int (iI now), .ref (w 1), .ref (w 2), .int (iI gr), .int (iI md), .ref (w 3), .ref (w 4), .ref (w 5), .ref (w 6), .ref (w 7), .ref (w 8), .int (iI dO), .ref (w 9), .ref (w 10)])), (w 5, .inl (z.1, 66, .inl (aI pcn))), (w 6, .inl (z.1, 1584, .inl (aI prt))), (w 7, .inl (z.1, 1584, .inl (aI pnt)))] := hD
                    refine lv_aload_n hx hb d_M_entry_107 rfl (lv_at hl 1 rfl) ?_
                    refine va_get (D := G) (ci := 4) (v := .int (iI 2)) (C := R_M) (T := T_M) (N := 16) hx hb hg iw_M hown hE.1 hP 2 rfl rfl 1 (by decide) (hg _ fl_M_48) (fun _ h9 => h9) rfl d_M_entry_108 ?_
                    refine rv_if_le (tgt := 116) hx hb d_M_entry_111 (by decide) ⟨by decide, by decide⟩ (fun c_35 => ?_) (fun c_35 => ?_)
                    · exact absurd c_35 (by decide)
                    · skip
                      refine lv_iconst (v := iI 0) hx hb d_M_entry_114 rfl ?_
                      have hP9 : va_P G cls0 [(w 0, .inr (4, [.int (iI it), .int (iI 2), .int (iI now), .ref (w 1), .ref (w 2), .int (iI gr), .int (iI md), .ref (w 3), .ref (w 4), .ref (w 5), .ref (w 6), .ref (w 7), .ref (w 8), .int (iI dO), .ref (w 9), .ref (w 10)])), (w 3, .inl (z.1, 66, .inl (aI pnu))), (w 5, .inl (z.1, 66, .inl (aI pcn))), (w 6, .inl (z.1, 1584, .inl (aI prt))), (w 7, .inl (z.1, 1584, .inl (aI pnt))), (w 8, .inl (z.1, 1584, .inl (aI pco)))] H := hP.sub [2, 0, 3, 4, 5, 1] rfl
                      have hD9 : va_D A [(w 0, .inr (4, [.int (iI it), .int (iI 2), .int (iI now), .ref (w 1), .ref (w 2), .int (iI gr), .int (iI md), .ref (w 3), .ref (w 4), .ref (w 5), .ref (w 6), .ref (w 7), .ref (w 8), .int (iI dO), .ref (w 9), .ref (w 10)])), (w 3, .inl (z.1, 66, .inl (aI pnu))), (w 5, .inl (z.1, 66, .inl (aI pcn))), (w 6, .inl (z.1, 1584, .inl (aI prt))), (w 7, .inl (z.1, 1584, .inl (aI pnt))), (w 8, .inl (z.1, 1584, .inl (aI pco)))] := hD.sub [2, 0, 3, 4, 5, 1] (by decide) rfl
                      refine rv_iret hx hb hRt (nar_int _) hlocks (Nat.le_of_ble_eq_true rfl) (Nat.le_of_ble_eq_true rfl) hP9 hD9 hS d_M_entry_115 ?_
                      exact ⟨0, 2, pcn, prt, pnt, pco, rfl, rfl, (by first | exact Or.inr (Or.inl ⟨by omega, hw2, rfl, rfl, rfl, rfl, rfl⟩) | exact Or.inl ⟨by omega, rfl, rfl, rfl, rfl, rfl⟩)⟩
            · exact absurd c_28 (by decide)
set_option maxHeartbeats 4000000 in
set_option maxRecDepth 100000 in
theorem k_M_come (l : Launch) (G : va_G) (z : tz3) (w : Nat → Nat) (it : Int) (cd : Int) (now : Int) (gr : Int) (md : Int) (dO : Int) (pnu : Int → Int) (psi : Int → Int) (pcn : Int → Int) (prt : Int → Int) (pnt : Int → Int) (pco : Int → Int) (rnu : ∀ i : Int, 0 ≤ pnu i ∧ pnu i ≤ 1100000000) (rcn : ∀ i : Int, 0 ≤ pcn i ∧ pcn i ≤ 24) (rrt : ∀ i : Int, -1 ≤ prt i ∧ prt i ≤ 63) (rnt : ∀ i : Int, 0 ≤ pnt i ∧ pnt i ≤ 63) (rco : ∀ i : Int, 0 ≤ pco i ∧ pco i ≤ 1000) (hdO : 0 ≤ dO ∧ dO < 64) (hit : 0 ≤ it ∧ it < 64) (hgr : 0 ≤ gr ∧ gr ≤ 1100000000) : Ki l y_M_come c_M_come 4 (some .int) (rmD 2) G z [.ref (w 0)] [(w 0, .inr (4, [.int (iI it), .int (iI cd), .int (iI now), .ref (w 1), .ref (w 2), .int (iI gr), .int (iI md), .ref (w 3), .ref (w 4), .ref (w 5), .ref (w 6), .ref (w 7), .ref (w 8), .int (iI dO), .ref (w 9), .ref (w 10)])), (w 3, .inl (z.1, 66, .inl (aI pnu))), (w 4, .inl (z.1, 66, .inl (aI psi))), (w 5, .inl (z.1, 66, .inl (aI pcn))), (w 6, .inl (z.1, 1584, .inl (aI prt))), (w 7, .inl (z.1, 1584, .inl (aI pnt))), (w 8, .inl (z.1, 1584, .inl (aI pco)))] (fun r9 u9 => ∃ (rv : Int) (c2 : Int) (gr2 : Int) (gnu : Int → Int) (gsi : Int → Int) (gcn : Int → Int) (grt : Int → Int) (gnt : Int → Int) (gco : Int → Int), u9 = [(w 0, .inr (4, [.int (iI it), .int (iI c2), .int (iI now), .ref (w 1), .ref (w 2), .int (iI gr2), .int (iI md), .ref (w 3), .ref (w 4), .ref (w 5), .ref (w 6), .ref (w 7), .ref (w 8), .int (iI dO), .ref (w 9), .ref (w 10)])), (w 3, .inl (z.1, 66, .inl (aI gnu))), (w 4, .inl (z.1, 66, .inl (aI gsi))), (w 5, .inl (z.1, 66, .inl (aI gcn))), (w 6, .inl (z.1, 1584, .inl (aI grt))), (w 7, .inl (z.1, 1584, .inl (aI gnt))), (w 8, .inl (z.1, 1584, .inl (aI gco)))] ∧ r9 = iI rv ∧ ((pnu 64 = 0 ∧ c2 = 1 ∧ gr2 = gr ∧ gnu = pnu ∧ gsi = psi ∧ gcn = pcn ∧ grt = prt ∧ gnt = pnt ∧ gco = pco) ∨ (¬ pnu 64 = 0 ∧ dO = it ∧ c2 = 0 ∧ gnu = uZ pnu 64 0 ∧ gsi = psi ∧ gcn = pcn ∧ grt = prt ∧ gnt = pnt ∧ gco = pco ∧ ((pnu 64 ≤ gr ∧ rv = 4 ∧ gr2 = gr) ∨ (gr < pnu 64 ∧ rv = 3 ∧ gr2 = pnu 64))) ∨ (¬ pnu 64 = 0 ∧ dO ≠ it ∧ c2 = 0 ∧ gr2 = gr ∧ pnu 64 ≤ pnu dO ∧ gnu = uZ pnu 64 0 ∧ gsi = psi ∧ gcn = pcn ∧ grt = prt ∧ gnt = pnt ∧ gco = pco ∧ ((pnu dO = pnu 64 ∧ rv = 1) ∨ (pnu dO ≠ pnu 64 ∧ rv = 2))) ∨ (¬ pnu 64 = 0 ∧ dO ≠ it ∧ c2 = 0 ∧ gr2 = gr ∧ pnu dO < pnu 64 ∧ rv = 0 ∧ gnu = uZ (uZ pnu 64 0) dO (pnu 64) ∧ gsi = uZ psi dO now ∧ gcn = uZ pcn dO (pcn 64) ∧ grt = cZ prt (24 * 64) (24 * dO) (pcn 64) ∧ gnt = cZ pnt (24 * 64) (24 * dO) (pcn 64) ∧ gco = cZ pco (24 * 64) (24 * dO) (pcn 64)))) := by
  refine Ki.of (by decide) (Nat.le_of_ble_eq_true rfl) ?_
  intro p e s m below meth c A hB hP hD ls hl
  obtain ⟨hx, hb, hRt, hml, hown, hlocks, hg, hE, hA, hin⟩ := hB
  have hown : s.vm.findClass R_M = some m.cls := hown
  have hl : lv_has ls 4 [(0, .ref (w 0))] := hl
  obtain ⟨H, hH⟩ : ∃ H, H = s.heap := ⟨_, rfl⟩
  have hS : va_S A s.heap H [] := by rw [hH]; exact va_S.rf
  rw [← hH] at hP
  rw [← hH]
  have hP : va_P G cls0 [(w 0, .inr (4, [.int (iI it), .int (iI cd), .int (iI now), .ref (w 1), .ref (w 2), .int (iI gr), .int (iI md), .ref (w 3), .ref (w 4), .ref (w 5), .ref (w 6), .ref (w 7), .ref (w 8), .int (iI dO), .ref (w 9), .ref (w 10)])), (w 3, .inl (z.1, 66, .inl (aI pnu))), (w 4, .inl (z.1, 66, .inl (aI psi))), (w 5, .inl (z.1, 66, .inl (aI pcn))), (w 6, .inl (z.1, 1584, .inl (aI prt))), (w 7, .inl (z.1, 1584, .inl (aI pnt))), (w 8, .inl (z.1, 1584, .inl (aI pco)))] H := hP
  have hD : va_D A [(w 0, .inr (4, [.int (iI it), .int (iI cd), .int (iI now), .ref (w 1), .ref (w 2), .int (iI gr), .int (iI md), .ref (w 3), .ref (w 4), .ref (w 5), .ref (w 6), .ref (w 7), .ref (w 8), .int (iI dO), .ref (w 9), .ref (w 10)])), (w 3, .inl (z.1, 66, .inl (aI pnu))), (w 4, .inl (z.1, 66, .inl (aI psi))), (w 5, .inl (z.1, 66, .inl (aI pcn))), (w 6, .inl (z.1, 1584, .inl (aI prt))), (w 7, .inl (z.1, 1584, .inl (aI pnt))), (w 8, .inl (z.1, 1584, .inl (aI pco)))] := hD
  refine lv_aload_n hx hb d_M_come_0 rfl (lv_at hl 0 rfl) ?_
  refine lv_aload_n hx hb d_M_come_1 rfl (lv_at hl 0 rfl) ?_
  refine va_get (D := G) (ci := 4) (v := .ref (w 3)) (C := R_M) (T := T_M) (N := 16) hx hb hg iw_M hown hE.1 hP 0 rfl rfl 7 (by decide) (hg _ fl_M_21) (fun _ h9 => h9) rfl d_M_come_2 ?_
  refine lv_bipush (v := iI 64) hx hb d_M_come_5 (by decide +kernel) ?_
  refine rv_iald hx hb hE hP 1 rfl (i := 64) (by omega) (by omega) (by decide) d_M_come_7 ?_
  refine rv_if_ne (tgt := 15) hx hb d_M_come_8 (by decide) (by (try have := rnu 64); constructor <;> omega) (fun c_1 => ?_) (fun c_1 => ?_)
  · skip
    refine lv_iconst (v := iI 0) hx hb d_M_come_15 rfl ?_
    refine va_put (D := G) (ci := 4) (v := .int (iI 0)) (ty := .int) (C := R_M) (T := T_M) (N := 16) hx hb hg iw_M ty_M ty_M_ok nm_M hown hE.1 hP hD hS 0 rfl rfl 1 (by decide) (hg _ fl_M_48) (fun _ h9 => h9) rfl (by decide +kernel) rfl rfl (Nat.le_of_ble_eq_true rfl) d_M_come_16 (fun H locs hP hD hS => ?_)
    have hP : va_P G cls0 [(w 0, .inr (4, [.int (iI it), .int (iI 0), .int (iI now), .ref (w 1), .ref (w 2), .int (iI gr), .int (iI md), .ref (w 3), .ref (w 4), .ref (w 5), .ref (w 6), .ref (w 7), .ref (w 8), .int (iI dO), .ref (w 9), .ref (w 10)])), (w 3, .inl (z.1, 66, .inl (aI pnu))), (w 4, .inl (z.1, 66, .inl (aI psi))), (w 5, .inl (z.1, 66, .inl (aI pcn))), (w 6, .inl (z.1, 1584, .inl (aI prt))), (w 7, .inl (z.1, 1584, .inl (aI pnt))), (w 8, .inl (z.1, 1584, .inl (aI pco)))] H := hP
    have hD : va_D A [(w 0, .inr (4, [.int (iI it), .int (iI 0), .int (iI now), .ref (w 1), .ref (w 2), .int (iI gr), .int (iI md), .ref (w 3), .ref (w 4), .ref (w 5), .ref (w 6), .ref (w 7), .ref (w 8), .int (iI dO), .ref (w 9), .ref (w 10)])), (w 3, .inl (z.1, 66, .inl (aI pnu))), (w 4, .inl (z.1, 66, .inl (aI psi))), (w 5, .inl (z.1, 66, .inl (aI pcn))), (w 6, .inl (z.1, 1584, .inl (aI prt))), (w 7, .inl (z.1, 1584, .inl (aI pnt))), (w 8, .inl (z.1, 1584, .inl (aI pco)))] := hD
    refine lv_aload_n hx hb d_M_come_19 rfl (lv_at hl 0 rfl) ?_
    refine va_get (D := G) (ci := 4) (v := .int (iI 0)) (C := R_M) (T := T_M) (N := 16) hx hb hg iw_M hown hE.1 hP 0 rfl rfl 1 (by decide) (hg _ fl_M_48) (fun _ h9 => h9) rfl d_M_come_20 ?_
    refine rv_if_le (tgt := 28) hx hb d_M_come_23 (by decide) ⟨by decide, by decide⟩ (fun c_2 => ?_) (fun c_2 => ?_)
    · skip
      refine lv_aload_n hx hb d_M_come_28 rfl (lv_at hl 0 rfl) ?_
      refine va_get (D := G) (ci := 4) (v := .ref (w 3)) (C := R_M) (T := T_M) (N := 16) hx hb hg iw_M hown hE.1 hP 0 rfl rfl 7 (by decide) (hg _ fl_M_21) (fun _ h9 => h9) rfl d_M_come_29 ?_
      refine lv_bipush (v := iI 64) hx hb d_M_come_32 (by decide +kernel) ?_
      refine rv_iald hx hb hE hP 1 rfl (i := 64) (by omega) (by omega) (by decide) d_M_come_34 ?_
      refine lv_istore_n (lv' := [(1, .int (iI (pnu 64))), (0, .ref (w 0))]) hx hb d_M_come_35 rfl hl (by decide) rfl (fun ls hl => ?_)
      refine lv_aload_n hx hb d_M_come_36 rfl (lv_at hl 1 rfl) ?_
      refine va_get (D := G) (ci := 4) (v := .int (iI dO)) (C := R_M) (T := T_M) (N := 16) hx hb hg iw_M hown hE.1 hP 0 rfl rfl 13 (by decide) (hg _ fl_M_67) (fun _ h9 => h9) rfl d_M_come_37 ?_
      refine lv_istore_n (lv' := [(2, .int (iI dO)), (1, .int (iI (pnu 64))), (0, .ref (w 0))]) hx hb d_M_come_40 rfl hl (by decide) rfl (fun ls hl => ?_)
      refine lv_aload_n hx hb d_M_come_41 rfl (lv_at hl 2 rfl) ?_
      refine va_get (D := G) (ci := 4) (v := .ref (w 3)) (C := R_M) (T := T_M) (N := 16) hx hb hg iw_M hown hE.1 hP 0 rfl rfl 7 (by decide) (hg _ fl_M_21) (fun _ h9 => h9) rfl d_M_come_42 ?_
      refine lv_bipush (v := iI 64) hx hb d_M_come_45 (by decide +kernel) ?_
      refine lv_iconst (v := iI 0) hx hb d_M_come_47 rfl ?_
      refine rv_iast hx hb hE hP hD hS 1 rfl (i := 64) (x := 0) (by omega) (by omega) (by decide) d_M_come_48 (fun H locs hP hD hS => ?_)
      have hP : va_P G cls0 [(w 0, .inr (4, [.int (iI it), .int (iI 0), .int (iI now), .ref (w 1), .ref (w 2), .int (iI gr), .int (iI md), .ref (w 3), .ref (w 4), .ref (w 5), .ref (w 6), .ref (w 7), .ref (w 8), .int (iI dO), .ref (w 9), .ref (w 10)])), (w 3, .inl (z.1, 66, .inl (aI (uZ pnu 64 0)))), (w 4, .inl (z.1, 66, .inl (aI psi))), (w 5, .inl (z.1, 66, .inl (aI pcn))), (w 6, .inl (z.1, 1584, .inl (aI prt))), (w 7, .inl (z.1, 1584, .inl (aI pnt))), (w 8, .inl (z.1, 1584, .inl (aI pco)))] H := hP
      have hD : va_D A [(w 0, .inr (4, [.int (iI it), .int (iI 0), .int (iI now), .ref (w 1), .ref (w 2), .int (iI gr), .int (iI md), .ref (w 3), .ref (w 4), .ref (w 5), .ref (w 6), .ref (w 7), .ref (w 8), .int (iI dO), .ref (w 9), .ref (w 10)])), (w 3, .inl (z.1, 66, .inl (aI (uZ pnu 64 0)))), (w 4, .inl (z.1, 66, .inl (aI psi))), (w 5, .inl (z.1, 66, .inl (aI pcn))), (w 6, .inl (z.1, 1584, .inl (aI prt))), (w 7, .inl (z.1, 1584, .inl (aI pnt))), (w 8, .inl (z.1, 1584, .inl (aI pco)))] := hD
      refine lv_iload_n hx hb d_M_come_49 rfl (lv_at hl 0 rfl) ?_
      refine lv_aload_n hx hb d_M_come_50 rfl (lv_at hl 2 rfl) ?_
      refine va_get (D := G) (ci := 4) (v := .int (iI it)) (C := R_M) (T := T_M) (N := 16) hx hb hg iw_M hown hE.1 hP 0 rfl rfl 0 (by decide) (hg _ fl_M_45) (fun _ h9 => h9) rfl d_M_come_51 ?_
      refine rv_icmp_ne (tgt := 93) hx hb d_M_come_54 (by decide) (by constructor <;> omega) (by constructor <;> omega) (fun c_3 => ?_) (fun c_3 => ?_)
      · skip
        have hun : uZ pnu 64 0 dO = pnu dO := uZ_n (by omega)
        refine lv_aload_n hx hb d_M_come_93 rfl (lv_at hl 2 rfl) ?_
        refine va_get (D := G) (ci := 4) (v := .ref (w 3)) (C := R_M) (T := T_M) (N := 16) hx hb hg iw_M hown hE.1 hP 0 rfl rfl 7 (by decide) (hg _ fl_M_21) (fun _ h9 => h9) rfl d_M_come_94 ?_
        refine lv_iload_n hx hb d_M_come_97 rfl (lv_at hl 0 rfl) ?_
        refine rv_iald hx hb hE hP 1 rfl (i := dO) (by omega) (by omega) (by decide) d_M_come_98 ?_
        refine lv_iload_n hx hb d_M_come_99 rfl (lv_at hl 1 rfl) ?_
        refine rv_icmp_lt (tgt := 119) hx hb d_M_come_100 (by decide) (by (try have := rnu dO); (try have := rnu 64); constructor <;> omega) (by (try have := rnu dO); (try have := rnu 64); constructor <;> omega) (fun c_4 => ?_) (fun c_4 => ?_)
        · skip
          refine lv_aload_n hx hb d_M_come_119 rfl (lv_at hl 2 rfl) ?_
          refine lv_bipush (v := iI 64) hx hb d_M_come_120 (by decide +kernel) ?_
          refine lv_iload_n hx hb d_M_come_122 rfl (lv_at hl 0 rfl) ?_
          refine qV_v (As := [.int (iI 64), .int (iI dO)]) (rest := []) (wr := [(w 3, .inl (z.1, 66, .inl (aI (uZ pnu 64 0)))), (w 4, .inl (z.1, 66, .inl (aI psi)))]) hx hb hml hown hg hE hA hS hP hD (k_M_copy l G z w it 0 now gr md dO pcn prt pnt pco 64 dO (by assumption) (by assumption) (by assumption) (by assumption) (by omega) (by omega) (by omega)) [0, 3, 4, 5, 6] [1, 2] rfl rfl (by decide) (by decide) (by decide) (q0 := 0) rfl rfl ml_M_77 im_M_copy se_M_copy in_M co_M_copy ok_M_copy ⟨Nat.le_of_ble_eq_true rfl, Nat.le_of_ble_eq_true rfl⟩ hl.1 rfl (Nat.le_of_ble_eq_true rfl) d_M_come_123 ⟨Nat.le_of_ble_eq_true rfl, Nat.le_of_ble_eq_true rfl⟩ (fun u9 H locs hw hP hD hS => ?_)
          subst hw
          have hP : va_P G cls0 [(w 3, .inl (z.1, 66, .inl (aI (uZ pnu 64 0)))), (w 4, .inl (z.1, 66, .inl (aI psi))), (w 0, .inr (4, [.int (iI it), .int (iI 0), .int (iI now), .ref (w 1), .ref (w 2), .int (iI gr), .int (iI md), .ref (w 3), .ref (w 4), .ref (w 5), .ref (w 6), .ref (w 7), .ref (w 8), .int (iI dO), .ref (w 9), .ref (w 10)])), (w 5, .inl (z.1, 66, .inl (aI (uZ pcn dO (pcn 64))))), (w 6, .inl (z.1, 1584, .inl (aI (cZ prt (24 * 64) (24 * dO) (pcn 64))))), (w 7, .inl (z.1, 1584, .inl (aI (cZ pnt (24 * 64) (24 * dO) (pcn 64))))), (w 8, .inl (z.1, 1584, .inl (aI (cZ pco (24 * 64) (24 * dO) (pcn 64)))))] H := hP
          have hD : va_D A [(w 3, .inl (z.1, 66, .inl (aI (uZ pnu 64 0)))), (w 4, .inl (z.1, 66, .inl (aI psi))), (w 0, .inr (4, [.int (iI it), .int (iI 0), .int (iI now), .ref (w 1), .ref (w 2), .int (iI gr), .int (iI md), .ref (w 3), .ref (w 4), .ref (w 5), .ref (w 6), .ref (w 7), .ref (w 8), .int (iI dO), .ref (w 9), .ref (w 10)])), (w 5, .inl (z.1, 66, .inl (aI (uZ pcn dO (pcn 64))))), (w 6, .inl (z.1, 1584, .inl (aI (cZ prt (24 * 64) (24 * dO) (pcn 64))))), (w 7, .inl (z.1, 1584, .inl (aI (cZ pnt (24 * 64) (24 * dO) (pcn 64))))), (w 8, .inl (z.1, 1584, .inl (aI (cZ pco (24 * 64) (24 * dO) (pcn 64)))))] := hD
          refine lv_aload_n hx hb d_M_come_126 rfl (lv_at hl 2 rfl) ?_
          refine va_get (D := G) (ci := 4) (v := .ref (w 3)) (C := R_M) (T := T_M) (N := 16) hx hb hg iw_M hown hE.1 hP 2 rfl rfl 7 (by decide) (hg _ fl_M_21) (fun _ h9 => h9) rfl d_M_come_127 ?_
          refine lv_iload_n hx hb d_M_come_130 rfl (lv_at hl 0 rfl) ?_
          refine lv_iload_n hx hb d_M_come_131 rfl (lv_at hl 1 rfl) ?_
          refine rv_iast hx hb hE hP hD hS 0 rfl (i := dO) (x := pnu 64) (by omega) (by omega) (by decide) d_M_come_132 (fun H locs hP hD hS => ?_)
          have hP : va_P G cls0 [(w 3, .inl (z.1, 66, .inl (aI (uZ (uZ pnu 64 0) dO (pnu 64))))), (w 4, .inl (z.1, 66, .inl (aI psi))), (w 0, .inr (4, [.int (iI it), .int (iI 0), .int (iI now), .ref (w 1), .ref (w 2), .int (iI gr), .int (iI md), .ref (w 3), .ref (w 4), .ref (w 5), .ref (w 6), .ref (w 7), .ref (w 8), .int (iI dO), .ref (w 9), .ref (w 10)])), (w 5, .inl (z.1, 66, .inl (aI (uZ pcn dO (pcn 64))))), (w 6, .inl (z.1, 1584, .inl (aI (cZ prt (24 * 64) (24 * dO) (pcn 64))))), (w 7, .inl (z.1, 1584, .inl (aI (cZ pnt (24 * 64) (24 * dO) (pcn 64))))), (w 8, .inl (z.1, 1584, .inl (aI (cZ pco (24 * 64) (24 * dO) (pcn 64)))))] H := hP
          have hD : va_D A [(w 3, .inl (z.1, 66, .inl (aI (uZ (uZ pnu 64 0) dO (pnu 64))))), (w 4, .inl (z.1, 66, .inl (aI psi))), (w 0, .inr (4, [.int (iI it), .int (iI 0), .int (iI now), .ref (w 1), .ref (w 2), .int (iI gr), .int (iI md), .ref (w 3), .ref (w 4), .ref (w 5), .ref (w 6), .ref (w 7), .ref (w 8), .int (iI dO), .ref (w 9), .ref (w 10)])), (w 5, .inl (z.1, 66, .inl (aI (uZ pcn dO (pcn 64))))), (w 6, .inl (z.1, 1584, .inl (aI (cZ prt (24 * 64) (24 * dO) (pcn 64))))), (w 7, .inl (z.1, 1584, .inl (aI (cZ pnt (24 * 64) (24 * dO) (pcn 64))))), (w 8, .inl (z.1, 1584, .inl (aI (cZ pco (24 * 64) (24 * dO) (pcn 64)))))] := hD
          refine lv_aload_n hx hb d_M_come_133 rfl (lv_at hl 2 rfl) ?_
          refine va_get (D := G) (ci := 4) (v := .ref (w 4)) (C := R_M) (T := T_M) (N := 16) hx hb hg iw_M hown hE.1 hP 2 rfl rfl 8 (by decide) (hg _ fl_M_24) (fun _ h9 => h9) rfl d_M_come_134 ?_
          refine lv_iload_n hx hb d_M_come_137 rfl (lv_at hl 0 rfl) ?_
          refine lv_aload_n hx hb d_M_come_138 rfl (lv_at hl 2 rfl) ?_
          refine va_get (D := G) (ci := 4) (v := .int (iI now)) (C := R_M) (T := T_M) (N := 16) hx hb hg iw_M hown hE.1 hP 2 rfl rfl 2 (by decide) (hg _ fl_M_81) (fun _ h9 => h9) rfl d_M_come_139 ?_
          refine rv_iast hx hb hE hP hD hS 1 rfl (i := dO) (x := now) (by omega) (by omega) (by decide) d_M_come_142 (fun H locs hP hD hS => ?_)
          have hP : va_P G cls0 [(w 3, .inl (z.1, 66, .inl (aI (uZ (uZ pnu 64 0) dO (pnu 64))))), (w 4, .inl (z.1, 66, .inl (aI (uZ psi dO now)))), (w 0, .inr (4, [.int (iI it), .int (iI 0), .int (iI now), .ref (w 1), .ref (w 2), .int (iI gr), .int (iI md), .ref (w 3), .ref (w 4), .ref (w 5), .ref (w 6), .ref (w 7), .ref (w 8), .int (iI dO), .ref (w 9), .ref (w 10)])), (w 5, .inl (z.1, 66, .inl (aI (uZ pcn dO (pcn 64))))), (w 6, .inl (z.1, 1584, .inl (aI (cZ prt (24 * 64) (24 * dO) (pcn 64))))), (w 7, .inl (z.1, 1584, .inl (aI (cZ pnt (24 * 64) (24 * dO) (pcn 64))))), (w 8, .inl (z.1, 1584, .inl (aI (cZ pco (24 * 64) (24 * dO) (pcn 64)))))] H := hP
          have hD : va_D A [(w 3, .inl (z.1, 66, .inl (aI (uZ (uZ pnu 64 0) dO (pnu 64))))), (w 4, .inl (z.1, 66, .inl (aI (uZ psi dO now)))), (w 0, .inr (4, [.int (iI it), .int (iI 0), .int (iI now), .ref (w 1), .ref (w 2), .int (iI gr), .int (iI md), .ref (w 3), .ref (w 4), .ref (w 5), .ref (w 6), .ref (w 7), .ref (w 8), .int (iI dO), .ref (w 9), .ref (w 10)])), (w 5, .inl (z.1, 66, .inl (aI (uZ pcn dO (pcn 64))))), (w 6, .inl (z.1, 1584, .inl (aI (cZ prt (24 * 64) (24 * dO) (pcn 64))))), (w 7, .inl (z.1, 1584, .inl (aI (cZ pnt (24 * 64) (24 * dO) (pcn 64))))), (w 8, .inl (z.1, 1584, .inl (aI (cZ pco (24 * 64) (24 * dO) (pcn 64)))))] := hD
          refine lv_iconst (v := iI 0) hx hb d_M_come_143 rfl ?_
          have hP9 : va_P G cls0 [(w 0, .inr (4, [.int (iI it), .int (iI 0), .int (iI now), .ref (w 1), .ref (w 2), .int (iI gr), .int (iI md), .ref (w 3), .ref (w 4), .ref (w 5), .ref (w 6), .ref (w 7), .ref (w 8), .int (iI dO), .ref (w 9), .ref (w 10)])), (w 3, .inl (z.1, 66, .inl (aI (uZ (uZ pnu 64 0) dO (pnu 64))))), (w 4, .inl (z.1, 66, .inl (aI (uZ psi dO now)))), (w 5, .inl (z.1, 66, .inl (aI (uZ pcn dO (pcn 64))))), (w 6, .inl (z.1, 1584, .inl (aI (cZ prt (24 * 64) (24 * dO) (pcn 64))))), (w 7, .inl (z.1, 1584, .inl (aI (cZ pnt (24 * 64) (24 * dO) (pcn 64))))), (w 8, .inl (z.1, 1584, .inl (aI (cZ pco (24 * 64) (24 * dO) (pcn 64)))))] H := hP.sub [2, 0, 1, 3, 4, 5, 6] rfl
          have hD9 : va_D A [(w 0, .inr (4, [.int (iI it), .int (iI 0), .int (iI now), .ref (w 1), .ref (w 2), .int (iI gr), .int (iI md), .ref (w 3), .ref (w 4), .ref (w 5), .ref (w 6), .ref (w 7), .ref (w 8), .int (iI dO), .ref (w 9), .ref (w 10)])), (w 3, .inl (z.1, 66, .inl (aI (uZ (uZ pnu 64 0) dO (pnu 64))))), (w 4, .inl (z.1, 66, .inl (aI (uZ psi dO now)))), (w 5, .inl (z.1, 66, .inl (aI (uZ pcn dO (pcn 64))))), (w 6, .inl (z.1, 1584, .inl (aI (cZ prt (24 * 64) (24 * dO) (pcn 64))))), (w 7, .inl (z.1, 1584, .inl (aI (cZ pnt (24 * 64) (24 * dO) (pcn 64))))), (w 8, .inl (z.1, 1584, .inl (aI (cZ pco (24 * 64) (24 * dO) (pcn 64)))))] := hD.sub [2, 0, 1, 3, 4, 5, 6] (by decide) rfl
          refine rv_iret hx hb hRt (nar_int _) hlocks (Nat.le_of_ble_eq_true rfl) (Nat.le_of_ble_eq_true rfl) hP9 hD9 hS d_M_come_144 ?_
          exact ⟨0, 0, gr, (uZ (uZ pnu 64 0) dO (pnu 64)), (uZ psi dO now), (uZ pcn dO (pcn 64)), (cZ prt (24 * 64) (24 * dO) (pcn 64)), (cZ pnt (24 * 64) (24 * dO) (pcn 64)), (cZ pco (24 * 64) (24 * dO) (pcn 64)), rfl, rfl, (Or.inr (Or.inr (Or.inr ⟨by omega, by omega, rfl, rfl, by omega, rfl, rfl, rfl, rfl, rfl, rfl, rfl⟩)))⟩
        · skip
          refine lv_aload_n hx hb d_M_come_103 rfl (lv_at hl 2 rfl) ?_
          refine va_get (D := G) (ci := 4) (v := .ref (w 3)) (C := R_M) (T := T_M) (N := 16) hx hb hg iw_M hown hE.1 hP 0 rfl rfl 7 (by decide) (hg _ fl_M_21) (fun _ h9 => h9) rfl d_M_come_104 ?_
          refine lv_iload_n hx hb d_M_come_107 rfl (lv_at hl 0 rfl) ?_
          refine rv_iald hx hb hE hP 1 rfl (i := dO) (by omega) (by omega) (by decide) d_M_come_108 ?_
          refine lv_iload_n hx hb d_M_come_109 rfl (lv_at hl 1 rfl) ?_
          refine rv_icmp_ne (tgt := 117) hx hb d_M_come_110 (by decide) (by (try have := rnu dO); (try have := rnu 64); constructor <;> omega) (by (try have := rnu dO); (try have := rnu 64); constructor <;> omega) (fun c_5 => ?_) (fun c_5 => ?_)
          · skip
            refine lv_iconst (v := iI 2) hx hb d_M_come_117 rfl ?_
            have hP9 : va_P G cls0 [(w 0, .inr (4, [.int (iI it), .int (iI 0), .int (iI now), .ref (w 1), .ref (w 2), .int (iI gr), .int (iI md), .ref (w 3), .ref (w 4), .ref (w 5), .ref (w 6), .ref (w 7), .ref (w 8), .int (iI dO), .ref (w 9), .ref (w 10)])), (w 3, .inl (z.1, 66, .inl (aI (uZ pnu 64 0)))), (w 4, .inl (z.1, 66, .inl (aI psi))), (w 5, .inl (z.1, 66, .inl (aI pcn))), (w 6, .inl (z.1, 1584, .inl (aI prt))), (w 7, .inl (z.1, 1584, .inl (aI pnt))), (w 8, .inl (z.1, 1584, .inl (aI pco)))] H := hP.sub [0, 1, 2, 3, 4, 5, 6] rfl
            have hD9 : va_D A [(w 0, .inr (4, [.int (iI it), .int (iI 0), .int (iI now), .ref (w 1), .ref (w 2), .int (iI gr), .int (iI md), .ref (w 3), .ref (w 4), .ref (w 5), .ref (w 6), .ref (w 7), .ref (w 8), .int (iI dO), .ref (w 9), .ref (w 10)])), (w 3, .inl (z.1, 66, .inl (aI (uZ pnu 64 0)))), (w 4, .inl (z.1, 66, .inl (aI psi))), (w 5, .inl (z.1, 66, .inl (aI pcn))), (w 6, .inl (z.1, 1584, .inl (aI prt))), (w 7, .inl (z.1, 1584, .inl (aI pnt))), (w 8, .inl (z.1, 1584, .inl (aI pco)))] := hD.sub [0, 1, 2, 3, 4, 5, 6] (by decide) rfl
            refine rv_iret hx hb hRt (nar_int _) hlocks (Nat.le_of_ble_eq_true rfl) (Nat.le_of_ble_eq_true rfl) hP9 hD9 hS d_M_come_118 ?_
            exact ⟨2, 0, gr, (uZ pnu 64 0), psi, pcn, prt, pnt, pco, rfl, rfl, (Or.inr (Or.inr (Or.inl ⟨by omega, by omega, rfl, rfl, by omega, rfl, rfl, rfl, rfl, rfl, rfl, by omega⟩)))⟩
          · skip
            refine lv_iconst (v := iI 1) hx hb d_M_come_113 rfl ?_
            refine lv_goto (tgt := 118) hx hb d_M_come_114 (by decide) ?_
            have hP9 : va_P G cls0 [(w 0, .inr (4, [.int (iI it), .int (iI 0), .int (iI now), .ref (w 1), .ref (w 2), .int (iI gr), .int (iI md), .ref (w 3), .ref (w 4), .ref (w 5), .ref (w 6), .ref (w 7), .ref (w 8), .int (iI dO), .ref (w 9), .ref (w 10)])), (w 3, .inl (z.1, 66, .inl (aI (uZ pnu 64 0)))), (w 4, .inl (z.1, 66, .inl (aI psi))), (w 5, .inl (z.1, 66, .inl (aI pcn))), (w 6, .inl (z.1, 1584, .inl (aI prt))), (w 7, .inl (z.1, 1584, .inl (aI pnt))), (w 8, .inl (z.1, 1584, .inl (aI pco)))] H := hP.sub [0, 1, 2, 3, 4, 5, 6] rfl
            have hD9 : va_D A [(w 0, .inr (4, [.int (iI it), .int (iI 0), .int (iI now), .ref (w 1), .ref (w 2), .int (iI gr), .int (iI md), .ref (w 3), .ref (w 4), .ref (w 5), .ref (w 6), .ref (w 7), .ref (w 8), .int (iI dO), .ref (w 9), .ref (w 10)])), (w 3, .inl (z.1, 66, .inl (aI (uZ pnu 64 0)))), (w 4, .inl (z.1, 66, .inl (aI psi))), (w 5, .inl (z.1, 66, .inl (aI pcn))), (w 6, .inl (z.1, 1584, .inl (aI prt))), (w 7, .inl (z.1, 1584, .inl (aI pnt))), (w 8, .inl (z.1, 1584, .inl (aI pco)))] := hD.sub [0, 1, 2, 3, 4, 5, 6] (by decide) rfl
            refine rv_iret hx hb hRt (nar_int _) hlocks (Nat.le_of_ble_eq_true rfl) (Nat.le_of_ble_eq_true rfl) hP9 hD9 hS d_M_come_118 ?_
            exact ⟨1, 0, gr, (uZ pnu 64 0), psi, pcn, prt, pnt, pco, rfl, rfl, (Or.inr (Or.inr (Or.inl ⟨by omega, by omega, rfl, rfl, by omega, rfl, rfl, rfl, rfl, rfl, rfl, by omega⟩)))⟩
      · skip
        refine lv_iload_n hx hb d_M_come_57 rfl (lv_at hl 1 rfl) ?_
        refine lv_aload_n hx hb d_M_come_58 rfl (lv_at hl 2 rfl) ?_
        refine va_get (D := G) (ci := 4) (v := .int (iI gr)) (C := R_M) (T := T_M) (N := 16) hx hb hg iw_M hown hE.1 hP 0 rfl rfl 5 (by decide) (hg _ fl_M_74) (fun _ h9 => h9) rfl d_M_come_59 ?_
        refine rv_icmp_le (tgt := 69) hx hb d_M_come_62 (by decide) (by (try have := rnu 64); constructor <;> omega) (by constructor <;> omega) (fun c_6 => ?_) (fun c_6 => ?_)
        · skip
          refine lv_iconst (v := iI 4) hx hb d_M_come_69 rfl ?_
          refine lv_istore_n (lv' := [(3, .int (iI 4)), (2, .int (iI dO)), (1, .int (iI (pnu 64))), (0, .ref (w 0))]) hx hb d_M_come_70 rfl hl (by decide) rfl (fun ls hl => ?_)
          refine lv_aload_n hx hb d_M_come_71 rfl (lv_at hl 3 rfl) ?_
          refine lv_iload_n hx hb d_M_come_72 rfl (lv_at hl 2 rfl) ?_
          refine lv_aload_n hx hb d_M_come_73 rfl (lv_at hl 3 rfl) ?_
          refine va_get (D := G) (ci := 4) (v := .int (iI gr)) (C := R_M) (T := T_M) (N := 16) hx hb hg iw_M hown hE.1 hP 0 rfl rfl 5 (by decide) (hg _ fl_M_74) (fun _ h9 => h9) rfl d_M_come_74 ?_
          refine rv_icmp_le (tgt := 84) hx hb d_M_come_77 (by decide) (by (try have := rnu 64); constructor <;> omega) (by constructor <;> omega) (fun c_7 => ?_) (fun c_7 => ?_)
          · skip
            refine lv_aload_n hx hb d_M_come_84 rfl (lv_at hl 3 rfl) ?_
            refine va_get (D := G) (ci := 4) (v := .int (iI gr)) (C := R_M) (T := T_M) (N := 16) hx hb hg iw_M hown hE.1 hP 0 rfl rfl 5 (by decide) (hg _ fl_M_74) (fun _ h9 => h9) rfl d_M_come_85 ?_
            refine va_put (D := G) (ci := 4) (v := .int (iI gr)) (ty := .int) (C := R_M) (T := T_M) (N := 16) hx hb hg iw_M ty_M ty_M_ok nm_M hown hE.1 hP hD hS 0 rfl rfl 5 (by decide) (hg _ fl_M_74) (fun _ h9 => h9) rfl (by decide +kernel) rfl rfl (Nat.le_of_ble_eq_true rfl) d_M_come_88 (fun H locs hP hD hS => ?_)
            have hP : va_P G cls0 [(w 0, .inr (4, [.int (iI it), .int (iI 0), .int (iI now), .ref (w 1), .ref (w 2), .int (iI gr), .int (iI md), .ref (w 3), .ref (w 4), .ref (w 5), .ref (w 6), .ref (w 7), .ref (w 8), .int (iI dO), .ref (w 9), .ref (w 10)])), (w 3, .inl (z.1, 66, .inl (aI (uZ pnu 64 0)))), (w 4, .inl (z.1, 66, .inl (aI psi))), (w 5, .inl (z.1, 66, .inl (aI pcn))), (w 6, .inl (z.1, 1584, .inl (aI prt))), (w 7, .inl (z.1, 1584, .inl (aI pnt))), (w 8, .inl (z.1, 1584, .inl (aI pco)))] H := hP
            have hD : va_D A [(w 0, .inr (4, [.int (iI it), .int (iI 0), .int (iI now), .ref (w 1), .ref (w 2), .int (iI gr), .int (iI md), .ref (w 3), .ref (w 4), .ref (w 5), .ref (w 6), .ref (w 7), .ref (w 8), .int (iI dO), .ref (w 9), .ref (w 10)])), (w 3, .inl (z.1, 66, .inl (aI (uZ pnu 64 0)))), (w 4, .inl (z.1, 66, .inl (aI psi))), (w 5, .inl (z.1, 66, .inl (aI pcn))), (w 6, .inl (z.1, 1584, .inl (aI prt))), (w 7, .inl (z.1, 1584, .inl (aI pnt))), (w 8, .inl (z.1, 1584, .inl (aI pco)))] := hD
            refine lv_iload_n hx hb d_M_come_91 rfl (lv_at hl 0 rfl) ?_
            have hP9 : va_P G cls0 [(w 0, .inr (4, [.int (iI it), .int (iI 0), .int (iI now), .ref (w 1), .ref (w 2), .int (iI gr), .int (iI md), .ref (w 3), .ref (w 4), .ref (w 5), .ref (w 6), .ref (w 7), .ref (w 8), .int (iI dO), .ref (w 9), .ref (w 10)])), (w 3, .inl (z.1, 66, .inl (aI (uZ pnu 64 0)))), (w 4, .inl (z.1, 66, .inl (aI psi))), (w 5, .inl (z.1, 66, .inl (aI pcn))), (w 6, .inl (z.1, 1584, .inl (aI prt))), (w 7, .inl (z.1, 1584, .inl (aI pnt))), (w 8, .inl (z.1, 1584, .inl (aI pco)))] H := hP.sub [0, 1, 2, 3, 4, 5, 6] rfl
            have hD9 : va_D A [(w 0, .inr (4, [.int (iI it), .int (iI 0), .int (iI now), .ref (w 1), .ref (w 2), .int (iI gr), .int (iI md), .ref (w 3), .ref (w 4), .ref (w 5), .ref (w 6), .ref (w 7), .ref (w 8), .int (iI dO), .ref (w 9), .ref (w 10)])), (w 3, .inl (z.1, 66, .inl (aI (uZ pnu 64 0)))), (w 4, .inl (z.1, 66, .inl (aI psi))), (w 5, .inl (z.1, 66, .inl (aI pcn))), (w 6, .inl (z.1, 1584, .inl (aI prt))), (w 7, .inl (z.1, 1584, .inl (aI pnt))), (w 8, .inl (z.1, 1584, .inl (aI pco)))] := hD.sub [0, 1, 2, 3, 4, 5, 6] (by decide) rfl
            refine rv_iret hx hb hRt (nar_int _) hlocks (Nat.le_of_ble_eq_true rfl) (Nat.le_of_ble_eq_true rfl) hP9 hD9 hS d_M_come_92 ?_
            exact ⟨4, 0, gr, (uZ pnu 64 0), psi, pcn, prt, pnt, pco, rfl, rfl, (Or.inr (Or.inl ⟨by omega, by omega, rfl, rfl, rfl, rfl, rfl, rfl, rfl, by omega⟩))⟩
          · skip
            refine lv_iload_n hx hb d_M_come_80 rfl (lv_at hl 2 rfl) ?_
            refine lv_goto (tgt := 88) hx hb d_M_come_81 (by decide) ?_
            refine va_put (D := G) (ci := 4) (v := .int (iI (pnu 64))) (ty := .int) (C := R_M) (T := T_M) (N := 16) hx hb hg iw_M ty_M ty_M_ok nm_M hown hE.1 hP hD hS 0 rfl rfl 5 (by decide) (hg _ fl_M_74) (fun _ h9 => h9) rfl (by decide +kernel) rfl rfl (Nat.le_of_ble_eq_true rfl) d_M_come_88 (fun H locs hP hD hS => ?_)
            have hP : va_P G cls0 [(w 0, .inr (4, [.int (iI it), .int (iI 0), .int (iI now), .ref (w 1), .ref (w 2), .int (iI (pnu 64)), .int (iI md), .ref (w 3), .ref (w 4), .ref (w 5), .ref (w 6), .ref (w 7), .ref (w 8), .int (iI dO), .ref (w 9), .ref (w 10)])), (w 3, .inl (z.1, 66, .inl (aI (uZ pnu 64 0)))), (w 4, .inl (z.1, 66, .inl (aI psi))), (w 5, .inl (z.1, 66, .inl (aI pcn))), (w 6, .inl (z.1, 1584, .inl (aI prt))), (w 7, .inl (z.1, 1584, .inl (aI pnt))), (w 8, .inl (z.1, 1584, .inl (aI pco)))] H := hP
            have hD : va_D A [(w 0, .inr (4, [.int (iI it), .int (iI 0), .int (iI now), .ref (w 1), .ref (w 2), .int (iI (pnu 64)), .int (iI md), .ref (w 3), .ref (w 4), .ref (w 5), .ref (w 6), .ref (w 7), .ref (w 8), .int (iI dO), .ref (w 9), .ref (w 10)])), (w 3, .inl (z.1, 66, .inl (aI (uZ pnu 64 0)))), (w 4, .inl (z.1, 66, .inl (aI psi))), (w 5, .inl (z.1, 66, .inl (aI pcn))), (w 6, .inl (z.1, 1584, .inl (aI prt))), (w 7, .inl (z.1, 1584, .inl (aI pnt))), (w 8, .inl (z.1, 1584, .inl (aI pco)))] := hD
            refine lv_iload_n hx hb d_M_come_91 rfl (lv_at hl 0 rfl) ?_
            have hP9 : va_P G cls0 [(w 0, .inr (4, [.int (iI it), .int (iI 0), .int (iI now), .ref (w 1), .ref (w 2), .int (iI (pnu 64)), .int (iI md), .ref (w 3), .ref (w 4), .ref (w 5), .ref (w 6), .ref (w 7), .ref (w 8), .int (iI dO), .ref (w 9), .ref (w 10)])), (w 3, .inl (z.1, 66, .inl (aI (uZ pnu 64 0)))), (w 4, .inl (z.1, 66, .inl (aI psi))), (w 5, .inl (z.1, 66, .inl (aI pcn))), (w 6, .inl (z.1, 1584, .inl (aI prt))), (w 7, .inl (z.1, 1584, .inl (aI pnt))), (w 8, .inl (z.1, 1584, .inl (aI pco)))] H := hP.sub [0, 1, 2, 3, 4, 5, 6] rfl
            have hD9 : va_D A [(w 0, .inr (4, [.int (iI it), .int (iI 0), .int (iI now), .ref (w 1), .ref (w 2), .int (iI (pnu 64)), .int (iI md), .ref (w 3), .ref (w 4), .ref (w 5), .ref (w 6), .ref (w 7), .ref (w 8), .int (iI dO), .ref (w 9), .ref (w 10)])), (w 3, .inl (z.1, 66, .inl (aI (uZ pnu 64 0)))), (w 4, .inl (z.1, 66, .inl (aI psi))), (w 5, .inl (z.1, 66, .inl (aI pcn))), (w 6, .inl (z.1, 1584, .inl (aI prt))), (w 7, .inl (z.1, 1584, .inl (aI pnt))), (w 8, .inl (z.1, 1584, .inl (aI pco)))] := hD.sub [0, 1, 2, 3, 4, 5, 6] (by decide) rfl
            refine rv_iret hx hb hRt (nar_int _) hlocks (Nat.le_of_ble_eq_true rfl) (Nat.le_of_ble_eq_true rfl) hP9 hD9 hS d_M_come_92 ?_
            exact ⟨4, 0, (pnu 64), (uZ pnu 64 0), psi, pcn, prt, pnt, pco, rfl, rfl, (Or.inr (Or.inl ⟨by omega, by omega, rfl, rfl, rfl, rfl, rfl, rfl, rfl, by omega⟩))⟩
        · skip
          refine lv_iconst (v := iI 3) hx hb d_M_come_65 rfl ?_
          refine lv_goto (tgt := 70) hx hb d_M_come_66 (by decide) ?_
          refine lv_istore_n (lv' := [(3, .int (iI 3)), (2, .int (iI dO)), (1, .int (iI (pnu 64))), (0, .ref (w 0))]) hx hb d_M_come_70 rfl hl (by decide) rfl (fun ls hl => ?_)
          refine lv_aload_n hx hb d_M_come_71 rfl (lv_at hl 3 rfl) ?_
          refine lv_iload_n hx hb d_M_come_72 rfl (lv_at hl 2 rfl) ?_
          refine lv_aload_n hx hb d_M_come_73 rfl (lv_at hl 3 rfl) ?_
          refine va_get (D := G) (ci := 4) (v := .int (iI gr)) (C := R_M) (T := T_M) (N := 16) hx hb hg iw_M hown hE.1 hP 0 rfl rfl 5 (by decide) (hg _ fl_M_74) (fun _ h9 => h9) rfl d_M_come_74 ?_
          refine rv_icmp_le (tgt := 84) hx hb d_M_come_77 (by decide) (by (try have := rnu 64); constructor <;> omega) (by constructor <;> omega) (fun c_8 => ?_) (fun c_8 => ?_)
          · skip
            refine lv_aload_n hx hb d_M_come_84 rfl (lv_at hl 3 rfl) ?_
            refine va_get (D := G) (ci := 4) (v := .int (iI gr)) (C := R_M) (T := T_M) (N := 16) hx hb hg iw_M hown hE.1 hP 0 rfl rfl 5 (by decide) (hg _ fl_M_74) (fun _ h9 => h9) rfl d_M_come_85 ?_
            refine va_put (D := G) (ci := 4) (v := .int (iI gr)) (ty := .int) (C := R_M) (T := T_M) (N := 16) hx hb hg iw_M ty_M ty_M_ok nm_M hown hE.1 hP hD hS 0 rfl rfl 5 (by decide) (hg _ fl_M_74) (fun _ h9 => h9) rfl (by decide +kernel) rfl rfl (Nat.le_of_ble_eq_true rfl) d_M_come_88 (fun H locs hP hD hS => ?_)
            have hP : va_P G cls0 [(w 0, .inr (4, [.int (iI it), .int (iI 0), .int (iI now), .ref (w 1), .ref (w 2), .int (iI gr), .int (iI md), .ref (w 3), .ref (w 4), .ref (w 5), .ref (w 6), .ref (w 7), .ref (w 8), .int (iI dO), .ref (w 9), .ref (w 10)])), (w 3, .inl (z.1, 66, .inl (aI (uZ pnu 64 0)))), (w 4, .inl (z.1, 66, .inl (aI psi))), (w 5, .inl (z.1, 66, .inl (aI pcn))), (w 6, .inl (z.1, 1584, .inl (aI prt))), (w 7, .inl (z.1, 1584, .inl (aI pnt))), (w 8, .inl (z.1, 1584, .inl (aI pco)))] H := hP
            have hD : va_D A [(w 0, .inr (4, [.int (iI it), .int (iI 0), .int (iI now), .ref (w 1), .ref (w 2), .int (iI gr), .int (iI md), .ref (w 3), .ref (w 4), .ref (w 5), .ref (w 6), .ref (w 7), .ref (w 8), .int (iI dO), .ref (w 9), .ref (w 10)])), (w 3, .inl (z.1, 66, .inl (aI (uZ pnu 64 0)))), (w 4, .inl (z.1, 66, .inl (aI psi))), (w 5, .inl (z.1, 66, .inl (aI pcn))), (w 6, .inl (z.1, 1584, .inl (aI prt))), (w 7, .inl (z.1, 1584, .inl (aI pnt))), (w 8, .inl (z.1, 1584, .inl (aI pco)))] := hD
            refine lv_iload_n hx hb d_M_come_91 rfl (lv_at hl 0 rfl) ?_
            have hP9 : va_P G cls0 [(w 0, .inr (4, [.int (iI it), .int (iI 0), .int (iI now), .ref (w 1), .ref (w 2), .int (iI gr), .int (iI md), .ref (w 3), .ref (w 4), .ref (w 5), .ref (w 6), .ref (w 7), .ref (w 8), .int (iI dO), .ref (w 9), .ref (w 10)])), (w 3, .inl (z.1, 66, .inl (aI (uZ pnu 64 0)))), (w 4, .inl (z.1, 66, .inl (aI psi))), (w 5, .inl (z.1, 66, .inl (aI pcn))), (w 6, .inl (z.1, 1584, .inl (aI prt))), (w 7, .inl (z.1, 1584, .inl (aI pnt))), (w 8, .inl (z.1, 1584, .inl (aI pco)))] H := hP.sub [0, 1, 2, 3, 4, 5, 6] rfl
            have hD9 : va_D A [(w 0, .inr (4, [.int (iI it), .int (iI 0), .int (iI now), .ref (w 1), .ref (w 2), .int (iI gr), .int (iI md), .ref (w 3), .ref (w 4), .ref (w 5), .ref (w 6), .ref (w 7), .ref (w 8), .int (iI dO), .ref (w 9), .ref (w 10)])), (w 3, .inl (z.1, 66, .inl (aI (uZ pnu 64 0)))), (w 4, .inl (z.1, 66, .inl (aI psi))), (w 5, .inl (z.1, 66, .inl (aI pcn))), (w 6, .inl (z.1, 1584, .inl (aI prt))), (w 7, .inl (z.1, 1584, .inl (aI pnt))), (w 8, .inl (z.1, 1584, .inl (aI pco)))] := hD.sub [0, 1, 2, 3, 4, 5, 6] (by decide) rfl
            refine rv_iret hx hb hRt (nar_int _) hlocks (Nat.le_of_ble_eq_true rfl) (Nat.le_of_ble_eq_true rfl) hP9 hD9 hS d_M_come_92 ?_
            exact ⟨3, 0, gr, (uZ pnu 64 0), psi, pcn, prt, pnt, pco, rfl, rfl, (Or.inr (Or.inl ⟨by omega, by omega, rfl, rfl, rfl, rfl, rfl, rfl, rfl, by omega⟩))⟩
          · skip
            refine lv_iload_n hx hb d_M_come_80 rfl (lv_at hl 2 rfl) ?_
            refine lv_goto (tgt := 88) hx hb d_M_come_81 (by decide) ?_
            refine va_put (D := G) (ci := 4) (v := .int (iI (pnu 64))) (ty := .int) (C := R_M) (T := T_M) (N := 16) hx hb hg iw_M ty_M ty_M_ok nm_M hown hE.1 hP hD hS 0 rfl rfl 5 (by decide) (hg _ fl_M_74) (fun _ h9 => h9) rfl (by decide +kernel) rfl rfl (Nat.le_of_ble_eq_true rfl) d_M_come_88 (fun H locs hP hD hS => ?_)
            have hP : va_P G cls0 [(w 0, .inr (4, [.int (iI it), .int (iI 0), .int (iI now), .ref (w 1), .ref (w 2), .int (iI (pnu 64)), .int (iI md), .ref (w 3), .ref (w 4), .ref (w 5), .ref (w 6), .ref (w 7), .ref (w 8), .int (iI dO), .ref (w 9), .ref (w 10)])), (w 3, .inl (z.1, 66, .inl (aI (uZ pnu 64 0)))), (w 4, .inl (z.1, 66, .inl (aI psi))), (w 5, .inl (z.1, 66, .inl (aI pcn))), (w 6, .inl (z.1, 1584, .inl (aI prt))), (w 7, .inl (z.1, 1584, .inl (aI pnt))), (w 8, .inl (z.1, 1584, .inl (aI pco)))] H := hP
            have hD : va_D A [(w 0, .inr (4, [.int (iI it), .int (iI 0), .int (iI now), .ref (w 1), .ref (w 2), .int (iI (pnu 64)), .int (iI md), .ref (w 3), .ref (w 4), .ref (w 5), .ref (w 6), .ref (w 7), .ref (w 8), .int (iI dO), .ref (w 9), .ref (w 10)])), (w 3, .inl (z.1, 66, .inl (aI (uZ pnu 64 0)))), (w 4, .inl (z.1, 66, .inl (aI psi))), (w 5, .inl (z.1, 66, .inl (aI pcn))), (w 6, .inl (z.1, 1584, .inl (aI prt))), (w 7, .inl (z.1, 1584, .inl (aI pnt))), (w 8, .inl (z.1, 1584, .inl (aI pco)))] := hD
            refine lv_iload_n hx hb d_M_come_91 rfl (lv_at hl 0 rfl) ?_
            have hP9 : va_P G cls0 [(w 0, .inr (4, [.int (iI it), .int (iI 0), .int (iI now), .ref (w 1), .ref (w 2), .int (iI (pnu 64)), .int (iI md), .ref (w 3), .ref (w 4), .ref (w 5), .ref (w 6), .ref (w 7), .ref (w 8), .int (iI dO), .ref (w 9), .ref (w 10)])), (w 3, .inl (z.1, 66, .inl (aI (uZ pnu 64 0)))), (w 4, .inl (z.1, 66, .inl (aI psi))), (w 5, .inl (z.1, 66, .inl (aI pcn))), (w 6, .inl (z.1, 1584, .inl (aI prt))), (w 7, .inl (z.1, 1584, .inl (aI pnt))), (w 8, .inl (z.1, 1584, .inl (aI pco)))] H := hP.sub [0, 1, 2, 3, 4, 5, 6] rfl
            have hD9 : va_D A [(w 0, .inr (4, [.int (iI it), .int (iI 0), .int (iI now), .ref (w 1), .ref (w 2), .int (iI (pnu 64)), .int (iI md), .ref (w 3), .ref (w 4), .ref (w 5), .ref (w 6), .ref (w 7), .ref (w 8), .int (iI dO), .ref (w 9), .ref (w 10)])), (w 3, .inl (z.1, 66, .inl (aI (uZ pnu 64 0)))), (w 4, .inl (z.1, 66, .inl (aI psi))), (w 5, .inl (z.1, 66, .inl (aI pcn))), (w 6, .inl (z.1, 1584, .inl (aI prt))), (w 7, .inl (z.1, 1584, .inl (aI pnt))), (w 8, .inl (z.1, 1584, .inl (aI pco)))] := hD.sub [0, 1, 2, 3, 4, 5, 6] (by decide) rfl
            refine rv_iret hx hb hRt (nar_int _) hlocks (Nat.le_of_ble_eq_true rfl) (Nat.le_of_ble_eq_true rfl) hP9 hD9 hS d_M_come_92 ?_
            exact ⟨3, 0, (pnu 64), (uZ pnu 64 0), psi, pcn, prt, pnt, pco, rfl, rfl, (Or.inr (Or.inl ⟨by omega, by omega, rfl, rfl, rfl, rfl, rfl, rfl, rfl, by omega⟩))⟩
    · exact absurd c_2 (by decide)
  · skip
    refine lv_iconst (v := iI 1) hx hb d_M_come_11 rfl ?_
    refine lv_goto (tgt := 16) hx hb d_M_come_12 (by decide) ?_
    refine va_put (D := G) (ci := 4) (v := .int (iI 1)) (ty := .int) (C := R_M) (T := T_M) (N := 16) hx hb hg iw_M ty_M ty_M_ok nm_M hown hE.1 hP hD hS 0 rfl rfl 1 (by decide) (hg _ fl_M_48) (fun _ h9 => h9) rfl (by decide +kernel) rfl rfl (Nat.le_of_ble_eq_true rfl) d_M_come_16 (fun H locs hP hD hS => ?_)
    have hP : va_P G cls0 [(w 0, .inr (4, [.int (iI it), .int (iI 1), .int (iI now), .ref (w 1), .ref (w 2), .int (iI gr), .int (iI md), .ref (w 3), .ref (w 4), .ref (w 5), .ref (w 6), .ref (w 7), .ref (w 8), .int (iI dO), .ref (w 9), .ref (w 10)])), (w 3, .inl (z.1, 66, .inl (aI pnu))), (w 4, .inl (z.1, 66, .inl (aI psi))), (w 5, .inl (z.1, 66, .inl (aI pcn))), (w 6, .inl (z.1, 1584, .inl (aI prt))), (w 7, .inl (z.1, 1584, .inl (aI pnt))), (w 8, .inl (z.1, 1584, .inl (aI pco)))] H := hP
    have hD : va_D A [(w 0, .inr (4, [.int (iI it), .int (iI 1), .int (iI now), .ref (w 1), .ref (w 2), .int (iI gr), .int (iI md), .ref (w 3), .ref (w 4), .ref (w 5), .ref (w 6), .ref (w 7), .ref (w 8), .int (iI dO), .ref (w 9), .ref (w 10)])), (w 3, .inl (z.1, 66, .inl (aI pnu))), (w 4, .inl (z.1, 66, .inl (aI psi))), (w 5, .inl (z.1, 66, .inl (aI pcn))), (w 6, .inl (z.1, 1584, .inl (aI prt))), (w 7, .inl (z.1, 1584, .inl (aI pnt))), (w 8, .inl (z.1, 1584, .inl (aI pco)))] := hD
    refine lv_aload_n hx hb d_M_come_19 rfl (lv_at hl 0 rfl) ?_
    refine va_get (D := G) (ci := 4) (v := .int (iI 1)) (C := R_M) (T := T_M) (N := 16) hx hb hg iw_M hown hE.1 hP 0 rfl rfl 1 (by decide) (hg _ fl_M_48) (fun _ h9 => h9) rfl d_M_come_20 ?_
    refine rv_if_le (tgt := 28) hx hb d_M_come_23 (by decide) ⟨by decide, by decide⟩ (fun c_9 => ?_) (fun c_9 => ?_)
    · exact absurd c_9 (by decide)
    · skip
      refine lv_iconst (v := iI 0) hx hb d_M_come_26 rfl ?_
      have hP9 : va_P G cls0 [(w 0, .inr (4, [.int (iI it), .int (iI 1), .int (iI now), .ref (w 1), .ref (w 2), .int (iI gr), .int (iI md), .ref (w 3), .ref (w 4), .ref (w 5), .ref (w 6), .ref (w 7), .ref (w 8), .int (iI dO), .ref (w 9), .ref (w 10)])), (w 3, .inl (z.1, 66, .inl (aI pnu))), (w 4, .inl (z.1, 66, .inl (aI psi))), (w 5, .inl (z.1, 66, .inl (aI pcn))), (w 6, .inl (z.1, 1584, .inl (aI prt))), (w 7, .inl (z.1, 1584, .inl (aI pnt))), (w 8, .inl (z.1, 1584, .inl (aI pco)))] H := hP.sub [0, 1, 2, 3, 4, 5, 6] rfl
      have hD9 : va_D A [(w 0, .inr (4, [.int (iI it), .int (iI 1), .int (iI now), .ref (w 1), .ref (w 2), .int (iI gr), .int (iI md), .ref (w 3), .ref (w 4), .ref (w 5), .ref (w 6), .ref (w 7), .ref (w 8), .int (iI dO), .ref (w 9), .ref (w 10)])), (w 3, .inl (z.1, 66, .inl (aI pnu))), (w 4, .inl (z.1, 66, .inl (aI psi))), (w 5, .inl (z.1, 66, .inl (aI pcn))), (w 6, .inl (z.1, 1584, .inl (aI prt))), (w 7, .inl (z.1, 1584, .inl (aI pnt))), (w 8, .inl (z.1, 1584, .inl (aI pco)))] := hD.sub [0, 1, 2, 3, 4, 5, 6] (by decide) rfl
      refine rv_iret hx hb hRt (nar_int _) hlocks (Nat.le_of_ble_eq_true rfl) (Nat.le_of_ble_eq_true rfl) hP9 hD9 hS d_M_come_27 ?_
      exact ⟨0, 1, gr, pnu, psi, pcn, prt, pnt, pco, rfl, rfl, (Or.inl ⟨by omega, rfl, rfl, rfl, rfl, rfl, rfl, rfl, rfl⟩)⟩
set_option maxHeartbeats 4000000 in
set_option maxRecDepth 100000 in
theorem k_M_pass (l : Launch) (G : va_G) (z : tz3) (w : Nat → Nat) (it : Int) (cd : Int) (now : Int) (gr : Int) (md : Int) (dO : Int) (pnu : Int → Int) (psi : Int → Int) (pcn : Int → Int) (ticks : Int) (rnu : ∀ i : Int, 0 ≤ pnu i ∧ pnu i ≤ 1100000000) (rsi : ∀ i : Int, 0 ≤ psi i ∧ psi i ≤ 1000000) (rcn : ∀ i : Int, 0 ≤ pcn i ∧ pcn i ≤ 24) (hnow : 0 ≤ now ∧ now ≤ 1000000) (htt : inR ticks) : Ki l y_M_pass c_M_pass 5 (some .int) (rmD 1) G z [.ref (w 0), .int (iI ticks)] [(w 0, .inr (4, [.int (iI it), .int (iI cd), .int (iI now), .ref (w 1), .ref (w 2), .int (iI gr), .int (iI md), .ref (w 3), .ref (w 4), .ref (w 5), .ref (w 6), .ref (w 7), .ref (w 8), .int (iI dO), .ref (w 9), .ref (w 10)])), (w 3, .inl (z.1, 66, .inl (aI pnu))), (w 4, .inl (z.1, 66, .inl (aI psi))), (w 5, .inl (z.1, 66, .inl (aI pcn)))] (fun r9 u9 => ∃ (rv : Int) (c2 : Int) (now2 : Int) (gnu : Int → Int) (gcn : Int → Int), u9 = [(w 0, .inr (4, [.int (iI it), .int (iI c2), .int (iI now2), .ref (w 1), .ref (w 2), .int (iI gr), .int (iI md), .ref (w 3), .ref (w 4), .ref (w 5), .ref (w 6), .ref (w 7), .ref (w 8), .int (iI dO), .ref (w 9), .ref (w 10)])), (w 3, .inl (z.1, 66, .inl (aI gnu))), (w 4, .inl (z.1, 66, .inl (aI psi))), (w 5, .inl (z.1, 66, .inl (aI gcn)))] ∧ r9 = iI rv ∧ (∀ i : Int, 0 ≤ gnu i ∧ gnu i ≤ 1100000000) ∧ (∀ i : Int, 0 ≤ gcn i ∧ gcn i ≤ 24) ∧ ((¬ (0 ≤ ticks ∧ ticks ≤ 10000) ∧ c2 = 1 ∧ now2 = now ∧ gnu = pnu ∧ gcn = pcn) ∨ ((0 ≤ ticks ∧ ticks ≤ 10000) ∧ 1000000 < now + ticks ∧ c2 = 2 ∧ now2 = now ∧ gnu = pnu ∧ gcn = pcn) ∨ ((0 ≤ ticks ∧ ticks ≤ 10000) ∧ ¬ 1000000 < now + ticks ∧ c2 = 0 ∧ now2 = now + ticks ∧ rv = cI (oP pnu psi (now + ticks)) 64 ∧ TP pnu psi pcn (now + ticks) gnu gcn 64))) := by
  refine Ki.of (by decide) (Nat.le_of_ble_eq_true rfl) ?_
  intro p e s m below meth c A hB hP hD ls hl
  obtain ⟨hx, hb, hRt, hml, hown, hlocks, hg, hE, hA, hin⟩ := hB
  have hown : s.vm.findClass R_M = some m.cls := hown
  have hl : lv_has ls 5 [(0, .ref (w 0)), (1, .int (iI ticks))] := hl
  obtain ⟨H, hH⟩ : ∃ H, H = s.heap := ⟨_, rfl⟩
  have hS : va_S A s.heap H [] := by rw [hH]; exact va_S.rf
  rw [← hH] at hP
  rw [← hH]
  have hP : va_P G cls0 [(w 0, .inr (4, [.int (iI it), .int (iI cd), .int (iI now), .ref (w 1), .ref (w 2), .int (iI gr), .int (iI md), .ref (w 3), .ref (w 4), .ref (w 5), .ref (w 6), .ref (w 7), .ref (w 8), .int (iI dO), .ref (w 9), .ref (w 10)])), (w 3, .inl (z.1, 66, .inl (aI pnu))), (w 4, .inl (z.1, 66, .inl (aI psi))), (w 5, .inl (z.1, 66, .inl (aI pcn)))] H := hP
  have hD : va_D A [(w 0, .inr (4, [.int (iI it), .int (iI cd), .int (iI now), .ref (w 1), .ref (w 2), .int (iI gr), .int (iI md), .ref (w 3), .ref (w 4), .ref (w 5), .ref (w 6), .ref (w 7), .ref (w 8), .int (iI dO), .ref (w 9), .ref (w 10)])), (w 3, .inl (z.1, 66, .inl (aI pnu))), (w 4, .inl (z.1, 66, .inl (aI psi))), (w 5, .inl (z.1, 66, .inl (aI pcn)))] := hD
  refine lv_aload_n hx hb d_M_pass_0 rfl (lv_at hl 0 rfl) ?_
  refine lv_iload_n hx hb d_M_pass_1 rfl (lv_at hl 1 rfl) ?_
  refine lv_iconst (v := iI 0) hx hb d_M_pass_2 rfl ?_
  refine lv_sipush (v := iI 10000) hx hb d_M_pass_3 (by decide +kernel) ?_
  refine qS_i (As := [.int (iI ticks), .int (iI 0), .int (iI 10000)]) (rest := [.ref (w 0)]) (wr := [(w 0, .inr (4, [.int (iI it), .int (iI cd), .int (iI now), .ref (w 1), .ref (w 2), .int (iI gr), .int (iI md), .ref (w 3), .ref (w 4), .ref (w 5), .ref (w 6), .ref (w 7), .ref (w 8), .int (iI dO), .ref (w 9), .ref (w 10)])), (w 3, .inl (z.1, 66, .inl (aI pnu))), (w 4, .inl (z.1, 66, .inl (aI psi))), (w 5, .inl (z.1, 66, .inl (aI pcn)))]) hx hb hml hown hg hE hA hS hP hD (k_M_in l G z ticks 0 10000 (by omega) (by omega) (by omega)) [] [0, 1, 2, 3] rfl rfl (by decide) (by decide) (by decide) ml_M_51 st_M_in in_M co_M_in ok_M_in ⟨Nat.le_of_ble_eq_true rfl, Nat.le_of_ble_eq_true rfl⟩ hl.1 rfl (Nat.le_of_ble_eq_true rfl) d_M_pass_6 ⟨Nat.le_of_ble_eq_true rfl, Nat.le_of_ble_eq_true rfl⟩ (fun r9 u9 H locs hw hP hD hS => ?_)
  obtain ⟨rb_1, rfl, rfl, fb_2⟩ := hw
  have hP : va_P G cls0 [(w 0, .inr (4, [.int (iI it), .int (iI cd), .int (iI now), .ref (w 1), .ref (w 2), .int (iI gr), .int (iI md), .ref (w 3), .ref (w 4), .ref (w 5), .ref (w 6), .ref (w 7), .ref (w 8), .int (iI dO), .ref (w 9), .ref (w 10)])), (w 3, .inl (z.1, 66, .inl (aI pnu))), (w 4, .inl (z.1, 66, .inl (aI psi))), (w 5, .inl (z.1, 66, .inl (aI pcn)))] H := hP
  have hD : va_D A [(w 0, .inr (4, [.int (iI it), .int (iI cd), .int (iI now), .ref (w 1), .ref (w 2), .int (iI gr), .int (iI md), .ref (w 3), .ref (w 4), .ref (w 5), .ref (w 6), .ref (w 7), .ref (w 8), .int (iI dO), .ref (w 9), .ref (w 10)])), (w 3, .inl (z.1, 66, .inl (aI pnu))), (w 4, .inl (z.1, 66, .inl (aI psi))), (w 5, .inl (z.1, 66, .inl (aI pcn)))] := hD
  refine rv_if_ne (tgt := 16) hx hb d_M_pass_9 (by decide) (by constructor <;> omega) (fun c_3 => ?_) (fun c_3 => ?_)
  · skip
    refine lv_aload_n hx hb d_M_pass_16 rfl (lv_at hl 0 rfl) ?_
    refine va_get (D := G) (ci := 4) (v := .int (iI now)) (C := R_M) (T := T_M) (N := 16) hx hb hg iw_M hown hE.1 hP 0 rfl rfl 2 (by decide) (hg _ fl_M_81) (fun _ h9 => h9) rfl d_M_pass_17 ?_
    refine lv_iload_n hx hb d_M_pass_20 rfl (lv_at hl 1 rfl) ?_
    refine rv_iadd hx hb d_M_pass_21 ?_
    refine lv_ldc (v := iI 1000000) hx hb hown (hg _ cn_M_84) d_M_pass_22 ?_
    refine rv_icmp_le (tgt := 31) hx hb d_M_pass_24 (by decide) (by constructor <;> omega) ⟨by decide, by decide⟩ (fun c_4 => ?_) (fun c_4 => ?_)
    · skip
      refine lv_iconst (v := iI 0) hx hb d_M_pass_31 rfl ?_
      refine va_put (D := G) (ci := 4) (v := .int (iI 0)) (ty := .int) (C := R_M) (T := T_M) (N := 16) hx hb hg iw_M ty_M ty_M_ok nm_M hown hE.1 hP hD hS 0 rfl rfl 1 (by decide) (hg _ fl_M_48) (fun _ h9 => h9) rfl (by decide +kernel) rfl rfl (Nat.le_of_ble_eq_true rfl) d_M_pass_32 (fun H locs hP hD hS => ?_)
      have hP : va_P G cls0 [(w 0, .inr (4, [.int (iI it), .int (iI 0), .int (iI now), .ref (w 1), .ref (w 2), .int (iI gr), .int (iI md), .ref (w 3), .ref (w 4), .ref (w 5), .ref (w 6), .ref (w 7), .ref (w 8), .int (iI dO), .ref (w 9), .ref (w 10)])), (w 3, .inl (z.1, 66, .inl (aI pnu))), (w 4, .inl (z.1, 66, .inl (aI psi))), (w 5, .inl (z.1, 66, .inl (aI pcn)))] H := hP
      have hD : va_D A [(w 0, .inr (4, [.int (iI it), .int (iI 0), .int (iI now), .ref (w 1), .ref (w 2), .int (iI gr), .int (iI md), .ref (w 3), .ref (w 4), .ref (w 5), .ref (w 6), .ref (w 7), .ref (w 8), .int (iI dO), .ref (w 9), .ref (w 10)])), (w 3, .inl (z.1, 66, .inl (aI pnu))), (w 4, .inl (z.1, 66, .inl (aI psi))), (w 5, .inl (z.1, 66, .inl (aI pcn)))] := hD
      refine lv_aload_n hx hb d_M_pass_35 rfl (lv_at hl 0 rfl) ?_
      refine va_get (D := G) (ci := 4) (v := .int (iI 0)) (C := R_M) (T := T_M) (N := 16) hx hb hg iw_M hown hE.1 hP 0 rfl rfl 1 (by decide) (hg _ fl_M_48) (fun _ h9 => h9) rfl d_M_pass_36 ?_
      refine rv_if_le (tgt := 44) hx hb d_M_pass_39 (by decide) ⟨by decide, by decide⟩ (fun c_5 => ?_) (fun c_5 => ?_)
      · skip
        refine lv_aload_n hx hb d_M_pass_44 rfl (lv_at hl 0 rfl) ?_
        refine lv_dup hx hb d_M_pass_45 rfl ?_
        refine va_get (D := G) (ci := 4) (v := .int (iI now)) (C := R_M) (T := T_M) (N := 16) hx hb hg iw_M hown hE.1 hP 0 rfl rfl 2 (by decide) (hg _ fl_M_81) (fun _ h9 => h9) rfl d_M_pass_46 ?_
        refine lv_iload_n hx hb d_M_pass_49 rfl (lv_at hl 1 rfl) ?_
        refine rv_iadd hx hb d_M_pass_50 ?_
        refine va_put (D := G) (ci := 4) (v := .int (iI (now + ticks))) (ty := .int) (C := R_M) (T := T_M) (N := 16) hx hb hg iw_M ty_M ty_M_ok nm_M hown hE.1 hP hD hS 0 rfl rfl 2 (by decide) (hg _ fl_M_81) (fun _ h9 => h9) rfl (by decide +kernel) rfl rfl (Nat.le_of_ble_eq_true rfl) d_M_pass_51 (fun H locs hP hD hS => ?_)
        have hP : va_P G cls0 [(w 0, .inr (4, [.int (iI it), .int (iI 0), .int (iI (now + ticks)), .ref (w 1), .ref (w 2), .int (iI gr), .int (iI md), .ref (w 3), .ref (w 4), .ref (w 5), .ref (w 6), .ref (w 7), .ref (w 8), .int (iI dO), .ref (w 9), .ref (w 10)])), (w 3, .inl (z.1, 66, .inl (aI pnu))), (w 4, .inl (z.1, 66, .inl (aI psi))), (w 5, .inl (z.1, 66, .inl (aI pcn)))] H := hP
        have hD : va_D A [(w 0, .inr (4, [.int (iI it), .int (iI 0), .int (iI (now + ticks)), .ref (w 1), .ref (w 2), .int (iI gr), .int (iI md), .ref (w 3), .ref (w 4), .ref (w 5), .ref (w 6), .ref (w 7), .ref (w 8), .int (iI dO), .ref (w 9), .ref (w 10)])), (w 3, .inl (z.1, 66, .inl (aI pnu))), (w 4, .inl (z.1, 66, .inl (aI psi))), (w 5, .inl (z.1, 66, .inl (aI pcn)))] := hD
        refine lv_iconst (v := iI 0) hx hb d_M_pass_54 rfl ?_
        refine lv_istore_n (lv' := [(2, .int (iI 0)), (0, .ref (w 0)), (1, .int (iI ticks))]) hx hb d_M_pass_55 rfl hl (by decide) rfl (fun ls hl => ?_)
        refine lv_iconst (v := iI 0) hx hb d_M_pass_56 rfl ?_
        refine lv_istore_n (lv' := [(3, .int (iI 0)), (2, .int (iI 0)), (0, .ref (w 0)), (1, .int (iI ticks))]) hx hb d_M_pass_57 rfl hl (by decide) rfl (fun ls hl => ?_)
        have L58 : ∀ n9 : Nat, ∀ (gnu : Int → Int) (gcn : Int → Int) (n : Int) (i : Int), (64 - i : Int).toNat < n9 → (∀ i : Int, 0 ≤ gnu i ∧ gnu i ≤ 1100000000) → (∀ i : Int, 0 ≤ gcn i ∧ gcn i ≤ 24) → (0 ≤ i ∧ i ≤ 64 ∧ 0 ≤ n ∧ n ≤ i) → (TP pnu psi pcn (now + ticks) gnu gcn i) → (n = cI (oP pnu psi (now + ticks)) i) → ∀ (H : Heap) (locs : List Loc), va_P G cls0 [(w 0, .inr (4, [.int (iI it), .int (iI 0), .int (iI (now + ticks)), .ref (w 1), .ref (w 2), .int (iI gr), .int (iI md), .ref (w 3), .ref (w 4), .ref (w 5), .ref (w 6), .ref (w 7), .ref (w 8), .int (iI dO), .ref (w 9), .ref (w 10)])), (w 3, .inl (z.1, 66, .inl (aI gnu))), (w 4, .inl (z.1, 66, .inl (aI psi))), (w 5, .inl (z.1, 66, .inl (aI gcn)))] H → va_D A [(w 0, .inr (4, [.int (iI it), .int (iI 0), .int (iI (now + ticks)), .ref (w 1), .ref (w 2), .int (iI gr), .int (iI md), .ref (w 3), .ref (w 4), .ref (w 5), .ref (w 6), .ref (w 7), .ref (w 8), .int (iI dO), .ref (w 9), .ref (w 10)])), (w 3, .inl (z.1, 66, .inl (aI gnu))), (w 4, .inl (z.1, 66, .inl (aI psi))), (w 5, .inl (z.1, 66, .inl (aI gcn)))] → va_S A s.heap H locs → ∀ ls : Array Slot, lv_has ls 5 [(0, .ref (w 0)), (1, .int (iI ticks)), (2, .int (iI n)), (3, .int (iI i))] → W p l e (rmD 1) s m [.ref (w 0), .int (iI ticks)].toArray below meth c H locs 0 0 (Zi below [.ref (w 0), .int (iI ticks)].toArray s (rmD 1) G A (fun r9 u9 => ∃ (rv : Int) (c2 : Int) (now2 : Int) (gnu : Int → Int) (gcn : Int → Int), u9 = [(w 0, .inr (4, [.int (iI it), .int (iI c2), .int (iI now2), .ref (w 1), .ref (w 2), .int (iI gr), .int (iI md), .ref (w 3), .ref (w 4), .ref (w 5), .ref (w 6), .ref (w 7), .ref (w 8), .int (iI dO), .ref (w 9), .ref (w 10)])), (w 3, .inl (z.1, 66, .inl (aI gnu))), (w 4, .inl (z.1, 66, .inl (aI psi))), (w 5, .inl (z.1, 66, .inl (aI gcn)))] ∧ r9 = iI rv ∧ (∀ i : Int, 0 ≤ gnu i ∧ gnu i ≤ 1100000000) ∧ (∀ i : Int, 0 ≤ gcn i ∧ gcn i ≤ 24) ∧ ((¬ (0 ≤ ticks ∧ ticks ≤ 10000) ∧ c2 = 1 ∧ now2 = now ∧ gnu = pnu ∧ gcn = pcn) ∨ ((0 ≤ ticks ∧ ticks ≤ 10000) ∧ 1000000 < now + ticks ∧ c2 = 2 ∧ now2 = now ∧ gnu = pnu ∧ gcn = pcn) ∨ ((0 ≤ ticks ∧ ticks ≤ 10000) ∧ ¬ 1000000 < now + ticks ∧ c2 = 0 ∧ now2 = now + ticks ∧ rv = cI (oP pnu psi (now + ticks)) 64 ∧ TP pnu psi pcn (now + ticks) gnu gcn 64)))) (F0 m 58 ls []) := by
          intro n9
          induction n9 with
          | zero => intro gnu gcn n i hmu; exact absurd hmu (Nat.not_lt_zero _)
          | succ n9 ih58 =>
            intro gnu gcn n i hmu rgnu rgcn hi hT hc H locs hP hD hS ls hl
            refine lv_iload_n hx hb d_M_pass_58 rfl (lv_at hl 3 rfl) ?_
            refine lv_bipush (v := iI 64) hx hb d_M_pass_59 (by decide +kernel) ?_
            refine rv_icmp_ge (tgt := 158) hx hb d_M_pass_61 (by decide) (by constructor <;> omega) ⟨by decide, by decide⟩ (fun c_6 => ?_) (fun c_6 => ?_)
            · skip
              refine lv_iload_n hx hb d_M_pass_158 rfl (lv_at hl 2 rfl) ?_
              have hP9 : va_P G cls0 [(w 0, .inr (4, [.int (iI it), .int (iI 0), .int (iI (now + ticks)), .ref (w 1), .ref (w 2), .int (iI gr), .int (iI md), .ref (w 3), .ref (w 4), .ref (w 5), .ref (w 6), .ref (w 7), .ref (w 8), .int (iI dO), .ref (w 9), .ref (w 10)])), (w 3, .inl (z.1, 66, .inl (aI gnu))), (w 4, .inl (z.1, 66, .inl (aI psi))), (w 5, .inl (z.1, 66, .inl (aI gcn)))] H := hP.sub [0, 1, 2, 3] rfl
              have hD9 : va_D A [(w 0, .inr (4, [.int (iI it), .int (iI 0), .int (iI (now + ticks)), .ref (w 1), .ref (w 2), .int (iI gr), .int (iI md), .ref (w 3), .ref (w 4), .ref (w 5), .ref (w 6), .ref (w 7), .ref (w 8), .int (iI dO), .ref (w 9), .ref (w 10)])), (w 3, .inl (z.1, 66, .inl (aI gnu))), (w 4, .inl (z.1, 66, .inl (aI psi))), (w 5, .inl (z.1, 66, .inl (aI gcn)))] := hD.sub [0, 1, 2, 3] (by decide) rfl
              refine rv_iret hx hb hRt (nar_int _) hlocks (Nat.le_of_ble_eq_true rfl) (Nat.le_of_ble_eq_true rfl) hP9 hD9 hS d_M_pass_159 ?_
              exact ⟨n, 0, (now + ticks), gnu, gcn, rfl, rfl, rgnu, rgcn, (Or.inr (Or.inr ⟨by omega, by omega, rfl, rfl, by rw [show (64 : Int) = i by omega]; exact hc, by rw [show (64 : Int) = i by omega]; exact hT⟩))⟩
            · skip
              have hat := TP_at hT
              refine lv_aload_n hx hb d_M_pass_64 rfl (lv_at hl 0 rfl) ?_
              refine va_get (D := G) (ci := 4) (v := .ref (w 3)) (C := R_M) (T := T_M) (N := 16) hx hb hg iw_M hown hE.1 hP 0 rfl rfl 7 (by decide) (hg _ fl_M_21) (fun _ h9 => h9) rfl d_M_pass_65 ?_
              refine lv_iload_n hx hb d_M_pass_68 rfl (lv_at hl 3 rfl) ?_
              refine rv_iald hx hb hE hP 1 rfl (i := i) (by omega) (by omega) (by decide) d_M_pass_69 ?_
              refine rv_if_le (tgt := 94) hx hb d_M_pass_70 (by decide) (by (try have := rgnu i); constructor <;> omega) (fun c_7 => ?_) (fun c_7 => ?_)
              · skip
                have ho : oP pnu psi (now + ticks) i = 0 := oP_0 (fun q => by have := hat.1; omega)
                refine lv_iconst (v := iI 0) hx hb d_M_pass_94 rfl ?_
                refine lv_istore (lv' := [(4, .int (iI 0)), (0, .ref (w 0)), (1, .int (iI ticks)), (2, .int (iI n)), (3, .int (iI i))]) hx hb d_M_pass_95 hl (by decide) rfl (fun ls hl => ?_)
                refine lv_iload_n hx hb d_M_pass_97 rfl (lv_at hl 3 rfl) ?_
                refine lv_iload hx hb d_M_pass_98 (lv_at hl 0 rfl) ?_
                refine rv_if_eq (tgt := 107) hx hb d_M_pass_100 (by decide) ⟨by decide, by decide⟩ (fun c_8 => ?_) (fun c_8 => ?_)
                · skip
                  refine lv_iconst (v := iI 0) hx hb d_M_pass_107 rfl ?_
                  refine rv_iadd hx hb d_M_pass_108 ?_
                  refine lv_istore_n (lv' := [(2, .int (iI (n + 0))), (4, .int (iI 0)), (0, .ref (w 0)), (1, .int (iI ticks)), (3, .int (iI i))]) hx hb d_M_pass_109 rfl hl (by decide) rfl (fun ls hl => ?_)
                  refine lv_aload_n hx hb d_M_pass_110 rfl (lv_at hl 2 rfl) ?_
                  refine va_get (D := G) (ci := 4) (v := .ref (w 3)) (C := R_M) (T := T_M) (N := 16) hx hb hg iw_M hown hE.1 hP 0 rfl rfl 7 (by decide) (hg _ fl_M_21) (fun _ h9 => h9) rfl d_M_pass_111 ?_
                  refine lv_iload_n hx hb d_M_pass_114 rfl (lv_at hl 4 rfl) ?_
                  refine lv_iload hx hb d_M_pass_115 (lv_at hl 1 rfl) ?_
                  refine rv_if_eq (tgt := 124) hx hb d_M_pass_117 (by decide) ⟨by decide, by decide⟩ (fun c_9 => ?_) (fun c_9 => ?_)
                  · skip
                    refine lv_aload_n hx hb d_M_pass_124 rfl (lv_at hl 2 rfl) ?_
                    refine va_get (D := G) (ci := 4) (v := .ref (w 3)) (C := R_M) (T := T_M) (N := 16) hx hb hg iw_M hown hE.1 hP 0 rfl rfl 7 (by decide) (hg _ fl_M_21) (fun _ h9 => h9) rfl d_M_pass_125 ?_
                    refine lv_iload_n hx hb d_M_pass_128 rfl (lv_at hl 4 rfl) ?_
                    refine rv_iald hx hb hE hP 1 rfl (i := i) (by omega) (by omega) (by decide) d_M_pass_129 ?_
                    refine rv_iast hx hb hE hP hD hS 1 rfl (i := i) (x := gnu i) (by omega) (by omega) (by decide) d_M_pass_130 (fun H locs hP hD hS => ?_)
                    have hP : va_P G cls0 [(w 0, .inr (4, [.int (iI it), .int (iI 0), .int (iI (now + ticks)), .ref (w 1), .ref (w 2), .int (iI gr), .int (iI md), .ref (w 3), .ref (w 4), .ref (w 5), .ref (w 6), .ref (w 7), .ref (w 8), .int (iI dO), .ref (w 9), .ref (w 10)])), (w 3, .inl (z.1, 66, .inl (aI (uZ gnu i (gnu i))))), (w 4, .inl (z.1, 66, .inl (aI psi))), (w 5, .inl (z.1, 66, .inl (aI gcn)))] H := hP
                    have hD : va_D A [(w 0, .inr (4, [.int (iI it), .int (iI 0), .int (iI (now + ticks)), .ref (w 1), .ref (w 2), .int (iI gr), .int (iI md), .ref (w 3), .ref (w 4), .ref (w 5), .ref (w 6), .ref (w 7), .ref (w 8), .int (iI dO), .ref (w 9), .ref (w 10)])), (w 3, .inl (z.1, 66, .inl (aI (uZ gnu i (gnu i))))), (w 4, .inl (z.1, 66, .inl (aI psi))), (w 5, .inl (z.1, 66, .inl (aI gcn)))] := hD
                    refine lv_aload_n hx hb d_M_pass_131 rfl (lv_at hl 2 rfl) ?_
                    refine va_get (D := G) (ci := 4) (v := .ref (w 5)) (C := R_M) (T := T_M) (N := 16) hx hb hg iw_M hown hE.1 hP 0 rfl rfl 9 (by decide) (hg _ fl_M_27) (fun _ h9 => h9) rfl d_M_pass_132 ?_
                    refine lv_iload_n hx hb d_M_pass_135 rfl (lv_at hl 4 rfl) ?_
                    refine lv_iload hx hb d_M_pass_136 (lv_at hl 1 rfl) ?_
                    refine rv_if_eq (tgt := 145) hx hb d_M_pass_138 (by decide) ⟨by decide, by decide⟩ (fun c_10 => ?_) (fun c_10 => ?_)
                    · skip
                      refine lv_aload_n hx hb d_M_pass_145 rfl (lv_at hl 2 rfl) ?_
                      refine va_get (D := G) (ci := 4) (v := .ref (w 5)) (C := R_M) (T := T_M) (N := 16) hx hb hg iw_M hown hE.1 hP 0 rfl rfl 9 (by decide) (hg _ fl_M_27) (fun _ h9 => h9) rfl d_M_pass_146 ?_
                      refine lv_iload_n hx hb d_M_pass_149 rfl (lv_at hl 4 rfl) ?_
                      refine rv_iald hx hb hE hP 3 rfl (i := i) (by omega) (by omega) (by decide) d_M_pass_150 ?_
                      refine rv_iast hx hb hE hP hD hS 3 rfl (i := i) (x := gcn i) (by omega) (by omega) (by decide) d_M_pass_151 (fun H locs hP hD hS => ?_)
                      have hP : va_P G cls0 [(w 0, .inr (4, [.int (iI it), .int (iI 0), .int (iI (now + ticks)), .ref (w 1), .ref (w 2), .int (iI gr), .int (iI md), .ref (w 3), .ref (w 4), .ref (w 5), .ref (w 6), .ref (w 7), .ref (w 8), .int (iI dO), .ref (w 9), .ref (w 10)])), (w 3, .inl (z.1, 66, .inl (aI (uZ gnu i (gnu i))))), (w 4, .inl (z.1, 66, .inl (aI psi))), (w 5, .inl (z.1, 66, .inl (aI (uZ gcn i (gcn i)))))] H := hP
                      have hD : va_D A [(w 0, .inr (4, [.int (iI it), .int (iI 0), .int (iI (now + ticks)), .ref (w 1), .ref (w 2), .int (iI gr), .int (iI md), .ref (w 3), .ref (w 4), .ref (w 5), .ref (w 6), .ref (w 7), .ref (w 8), .int (iI dO), .ref (w 9), .ref (w 10)])), (w 3, .inl (z.1, 66, .inl (aI (uZ gnu i (gnu i))))), (w 4, .inl (z.1, 66, .inl (aI psi))), (w 5, .inl (z.1, 66, .inl (aI (uZ gcn i (gcn i)))))] := hD
                      refine lv_iinc (v := iI (i + 1)) (lv' := [(3, .int (iI (i + 1))), (2, .int (iI (n + 0))), (4, .int (iI 0)), (0, .ref (w 0)), (1, .int (iI ticks))]) hx hb d_M_pass_152 hl (k := 4) rfl (iI_add _ _) (by decide) rfl (fun ls hl => ?_)
                      refine lv_goto (tgt := 58) hx hb d_M_pass_155 (by decide) ?_
                      exact ih58 _ _ _ (i + 1) (by omega) (uZ_rng rgnu (by first | exact rgnu i | omega)) (uZ_rng rgcn (by first | exact rgcn i | omega)) (by omega) (by first | exact TP_out hi.1 ho1 hT | exact TP_keep ho hT) (by first | (rw [cI_s1 hi.1 (by omega), hc]) | (rw [cI_s0 hi.1 ho, hc]; omega)) H _ (hP.sub [0, 1, 2, 3] rfl) (hD.sub [0, 1, 2, 3] (by decide) rfl) hS ls (lv_sub hl [3, 4, 1, 0] rfl)
                    · exact absurd c_10 (by decide)
                  · exact absurd c_9 (by decide)
                · exact absurd c_8 (by decide)
              · skip
                refine lv_aload_n hx hb d_M_pass_73 rfl (lv_at hl 0 rfl) ?_
                refine va_get (D := G) (ci := 4) (v := .int (iI (now + ticks))) (C := R_M) (T := T_M) (N := 16) hx hb hg iw_M hown hE.1 hP 0 rfl rfl 2 (by decide) (hg _ fl_M_81) (fun _ h9 => h9) rfl d_M_pass_74 ?_
                refine lv_aload_n hx hb d_M_pass_77 rfl (lv_at hl 0 rfl) ?_
                refine va_get (D := G) (ci := 4) (v := .ref (w 4)) (C := R_M) (T := T_M) (N := 16) hx hb hg iw_M hown hE.1 hP 0 rfl rfl 8 (by decide) (hg _ fl_M_24) (fun _ h9 => h9) rfl d_M_pass_78 ?_
                refine lv_iload_n hx hb d_M_pass_81 rfl (lv_at hl 3 rfl) ?_
                refine rv_iald hx hb hE hP 2 rfl (i := i) (by omega) (by omega) (by decide) d_M_pass_82 ?_
                refine rv_isub hx hb d_M_pass_83 ?_
                refine lv_sipush (v := iI 5000) hx hb d_M_pass_84 (by decide +kernel) ?_
                refine rv_icmp_lt (tgt := 94) hx hb d_M_pass_87 (by decide) (by (try have := rsi i); constructor <;> omega) ⟨by decide, by decide⟩ (fun c_11 => ?_) (fun c_11 => ?_)
                · skip
                  have ho : oP pnu psi (now + ticks) i = 0 := oP_0 (fun q => by omega)
                  refine lv_iconst (v := iI 0) hx hb d_M_pass_94 rfl ?_
                  refine lv_istore (lv' := [(4, .int (iI 0)), (0, .ref (w 0)), (1, .int (iI ticks)), (2, .int (iI n)), (3, .int (iI i))]) hx hb d_M_pass_95 hl (by decide) rfl (fun ls hl => ?_)
                  refine lv_iload_n hx hb d_M_pass_97 rfl (lv_at hl 3 rfl) ?_
                  refine lv_iload hx hb d_M_pass_98 (lv_at hl 0 rfl) ?_
                  refine rv_if_eq (tgt := 107) hx hb d_M_pass_100 (by decide) ⟨by decide, by decide⟩ (fun c_12 => ?_) (fun c_12 => ?_)
                  · skip
                    refine lv_iconst (v := iI 0) hx hb d_M_pass_107 rfl ?_
                    refine rv_iadd hx hb d_M_pass_108 ?_
                    refine lv_istore_n (lv' := [(2, .int (iI (n + 0))), (4, .int (iI 0)), (0, .ref (w 0)), (1, .int (iI ticks)), (3, .int (iI i))]) hx hb d_M_pass_109 rfl hl (by decide) rfl (fun ls hl => ?_)
                    refine lv_aload_n hx hb d_M_pass_110 rfl (lv_at hl 2 rfl) ?_
                    refine va_get (D := G) (ci := 4) (v := .ref (w 3)) (C := R_M) (T := T_M) (N := 16) hx hb hg iw_M hown hE.1 hP 0 rfl rfl 7 (by decide) (hg _ fl_M_21) (fun _ h9 => h9) rfl d_M_pass_111 ?_
                    refine lv_iload_n hx hb d_M_pass_114 rfl (lv_at hl 4 rfl) ?_
                    refine lv_iload hx hb d_M_pass_115 (lv_at hl 1 rfl) ?_
                    refine rv_if_eq (tgt := 124) hx hb d_M_pass_117 (by decide) ⟨by decide, by decide⟩ (fun c_13 => ?_) (fun c_13 => ?_)
                    · skip
                      refine lv_aload_n hx hb d_M_pass_124 rfl (lv_at hl 2 rfl) ?_
                      refine va_get (D := G) (ci := 4) (v := .ref (w 3)) (C := R_M) (T := T_M) (N := 16) hx hb hg iw_M hown hE.1 hP 0 rfl rfl 7 (by decide) (hg _ fl_M_21) (fun _ h9 => h9) rfl d_M_pass_125 ?_
                      refine lv_iload_n hx hb d_M_pass_128 rfl (lv_at hl 4 rfl) ?_
                      refine rv_iald hx hb hE hP 1 rfl (i := i) (by omega) (by omega) (by decide) d_M_pass_129 ?_
                      refine rv_iast hx hb hE hP hD hS 1 rfl (i := i) (x := gnu i) (by omega) (by omega) (by decide) d_M_pass_130 (fun H locs hP hD hS => ?_)
                      have hP : va_P G cls0 [(w 0, .inr (4, [.int (iI it), .int (iI 0), .int (iI (now + ticks)), .ref (w 1), .ref (w 2), .int (iI gr), .int (iI md), .ref (w 3), .ref (w 4), .ref (w 5), .ref (w 6), .ref (w 7), .ref (w 8), .int (iI dO), .ref (w 9), .ref (w 10)])), (w 3, .inl (z.1, 66, .inl (aI (uZ gnu i (gnu i))))), (w 4, .inl (z.1, 66, .inl (aI psi))), (w 5, .inl (z.1, 66, .inl (aI gcn)))] H := hP
                      have hD : va_D A [(w 0, .inr (4, [.int (iI it), .int (iI 0), .int (iI (now + ticks)), .ref (w 1), .ref (w 2), .int (iI gr), .int (iI md), .ref (w 3), .ref (w 4), .ref (w 5), .ref (w 6), .ref (w 7), .ref (w 8), .int (iI dO), .ref (w 9), .ref (w 10)])), (w 3, .inl (z.1, 66, .inl (aI (uZ gnu i (gnu i))))), (w 4, .inl (z.1, 66, .inl (aI psi))), (w 5, .inl (z.1, 66, .inl (aI gcn)))] := hD
                      refine lv_aload_n hx hb d_M_pass_131 rfl (lv_at hl 2 rfl) ?_
                      refine va_get (D := G) (ci := 4) (v := .ref (w 5)) (C := R_M) (T := T_M) (N := 16) hx hb hg iw_M hown hE.1 hP 0 rfl rfl 9 (by decide) (hg _ fl_M_27) (fun _ h9 => h9) rfl d_M_pass_132 ?_
                      refine lv_iload_n hx hb d_M_pass_135 rfl (lv_at hl 4 rfl) ?_
                      refine lv_iload hx hb d_M_pass_136 (lv_at hl 1 rfl) ?_
                      refine rv_if_eq (tgt := 145) hx hb d_M_pass_138 (by decide) ⟨by decide, by decide⟩ (fun c_14 => ?_) (fun c_14 => ?_)
                      · skip
                        refine lv_aload_n hx hb d_M_pass_145 rfl (lv_at hl 2 rfl) ?_
                        refine va_get (D := G) (ci := 4) (v := .ref (w 5)) (C := R_M) (T := T_M) (N := 16) hx hb hg iw_M hown hE.1 hP 0 rfl rfl 9 (by decide) (hg _ fl_M_27) (fun _ h9 => h9) rfl d_M_pass_146 ?_
                        refine lv_iload_n hx hb d_M_pass_149 rfl (lv_at hl 4 rfl) ?_
                        refine rv_iald hx hb hE hP 3 rfl (i := i) (by omega) (by omega) (by decide) d_M_pass_150 ?_
                        refine rv_iast hx hb hE hP hD hS 3 rfl (i := i) (x := gcn i) (by omega) (by omega) (by decide) d_M_pass_151 (fun H locs hP hD hS => ?_)
                        have hP : va_P G cls0 [(w 0, .inr (4, [.int (iI it), .int (iI 0), .int (iI (now + ticks)), .ref (w 1), .ref (w 2), .int (iI gr), .int (iI md), .ref (w 3), .ref (w 4), .ref (w 5), .ref (w 6), .ref (w 7), .ref (w 8), .int (iI dO), .ref (w 9), .ref (w 10)])), (w 3, .inl (z.1, 66, .inl (aI (uZ gnu i (gnu i))))), (w 4, .inl (z.1, 66, .inl (aI psi))), (w 5, .inl (z.1, 66, .inl (aI (uZ gcn i (gcn i)))))] H := hP
                        have hD : va_D A [(w 0, .inr (4, [.int (iI it), .int (iI 0), .int (iI (now + ticks)), .ref (w 1), .ref (w 2), .int (iI gr), .int (iI md), .ref (w 3), .ref (w 4), .ref (w 5), .ref (w 6), .ref (w 7), .ref (w 8), .int (iI dO), .ref (w 9), .ref (w 10)])), (w 3, .inl (z.1, 66, .inl (aI (uZ gnu i (gnu i))))), (w 4, .inl (z.1, 66, .inl (aI psi))), (w 5, .inl (z.1, 66, .inl (aI (uZ gcn i (gcn i)))))] := hD
                        refine lv_iinc (v := iI (i + 1)) (lv' := [(3, .int (iI (i + 1))), (2, .int (iI (n + 0))), (4, .int (iI 0)), (0, .ref (w 0)), (1, .int (iI ticks))]) hx hb d_M_pass_152 hl (k := 4) rfl (iI_add _ _) (by decide) rfl (fun ls hl => ?_)
                        refine lv_goto (tgt := 58) hx hb d_M_pass_155 (by decide) ?_
                        exact ih58 _ _ _ (i + 1) (by omega) (uZ_rng rgnu (by first | exact rgnu i | omega)) (uZ_rng rgcn (by first | exact rgcn i | omega)) (by omega) (by first | exact TP_out hi.1 ho1 hT | exact TP_keep ho hT) (by first | (rw [cI_s1 hi.1 (by omega), hc]) | (rw [cI_s0 hi.1 ho, hc]; omega)) H _ (hP.sub [0, 1, 2, 3] rfl) (hD.sub [0, 1, 2, 3] (by decide) rfl) hS ls (lv_sub hl [3, 4, 1, 0] rfl)
                      · exact absurd c_14 (by decide)
                    · exact absurd c_13 (by decide)
                  · exact absurd c_12 (by decide)
                · skip
                  have ho1 : oP pnu psi (now + ticks) i = 1 := oP_1 ⟨by have := hat.1; omega, by omega⟩
                  refine lv_iconst (v := iI 1) hx hb d_M_pass_90 rfl ?_
                  refine lv_goto (tgt := 95) hx hb d_M_pass_91 (by decide) ?_
                  refine lv_istore (lv' := [(4, .int (iI 1)), (0, .ref (w 0)), (1, .int (iI ticks)), (2, .int (iI n)), (3, .int (iI i))]) hx hb d_M_pass_95 hl (by decide) rfl (fun ls hl => ?_)
                  refine lv_iload_n hx hb d_M_pass_97 rfl (lv_at hl 3 rfl) ?_
                  refine lv_iload hx hb d_M_pass_98 (lv_at hl 0 rfl) ?_
                  refine rv_if_eq (tgt := 107) hx hb d_M_pass_100 (by decide) ⟨by decide, by decide⟩ (fun c_15 => ?_) (fun c_15 => ?_)
                  · exact absurd c_15 (by decide)
                  · skip
                    refine lv_iconst (v := iI 1) hx hb d_M_pass_103 rfl ?_
                    refine lv_goto (tgt := 108) hx hb d_M_pass_104 (by decide) ?_
                    refine rv_iadd hx hb d_M_pass_108 ?_
                    refine lv_istore_n (lv' := [(2, .int (iI (n + 1))), (4, .int (iI 1)), (0, .ref (w 0)), (1, .int (iI ticks)), (3, .int (iI i))]) hx hb d_M_pass_109 rfl hl (by decide) rfl (fun ls hl => ?_)
                    refine lv_aload_n hx hb d_M_pass_110 rfl (lv_at hl 2 rfl) ?_
                    refine va_get (D := G) (ci := 4) (v := .ref (w 3)) (C := R_M) (T := T_M) (N := 16) hx hb hg iw_M hown hE.1 hP 0 rfl rfl 7 (by decide) (hg _ fl_M_21) (fun _ h9 => h9) rfl d_M_pass_111 ?_
                    refine lv_iload_n hx hb d_M_pass_114 rfl (lv_at hl 4 rfl) ?_
                    refine lv_iload hx hb d_M_pass_115 (lv_at hl 1 rfl) ?_
                    refine rv_if_eq (tgt := 124) hx hb d_M_pass_117 (by decide) ⟨by decide, by decide⟩ (fun c_16 => ?_) (fun c_16 => ?_)
                    · exact absurd c_16 (by decide)
                    · skip
                      refine lv_iconst (v := iI 0) hx hb d_M_pass_120 rfl ?_
                      refine lv_goto (tgt := 130) hx hb d_M_pass_121 (by decide) ?_
                      refine rv_iast hx hb hE hP hD hS 1 rfl (i := i) (x := 0) (by omega) (by omega) (by decide) d_M_pass_130 (fun H locs hP hD hS => ?_)
                      have hP : va_P G cls0 [(w 0, .inr (4, [.int (iI it), .int (iI 0), .int (iI (now + ticks)), .ref (w 1), .ref (w 2), .int (iI gr), .int (iI md), .ref (w 3), .ref (w 4), .ref (w 5), .ref (w 6), .ref (w 7), .ref (w 8), .int (iI dO), .ref (w 9), .ref (w 10)])), (w 3, .inl (z.1, 66, .inl (aI (uZ gnu i 0)))), (w 4, .inl (z.1, 66, .inl (aI psi))), (w 5, .inl (z.1, 66, .inl (aI gcn)))] H := hP
                      have hD : va_D A [(w 0, .inr (4, [.int (iI it), .int (iI 0), .int (iI (now + ticks)), .ref (w 1), .ref (w 2), .int (iI gr), .int (iI md), .ref (w 3), .ref (w 4), .ref (w 5), .ref (w 6), .ref (w 7), .ref (w 8), .int (iI dO), .ref (w 9), .ref (w 10)])), (w 3, .inl (z.1, 66, .inl (aI (uZ gnu i 0)))), (w 4, .inl (z.1, 66, .inl (aI psi))), (w 5, .inl (z.1, 66, .inl (aI gcn)))] := hD
                      refine lv_aload_n hx hb d_M_pass_131 rfl (lv_at hl 2 rfl) ?_
                      refine va_get (D := G) (ci := 4) (v := .ref (w 5)) (C := R_M) (T := T_M) (N := 16) hx hb hg iw_M hown hE.1 hP 0 rfl rfl 9 (by decide) (hg _ fl_M_27) (fun _ h9 => h9) rfl d_M_pass_132 ?_
                      refine lv_iload_n hx hb d_M_pass_135 rfl (lv_at hl 4 rfl) ?_
                      refine lv_iload hx hb d_M_pass_136 (lv_at hl 1 rfl) ?_
                      refine rv_if_eq (tgt := 145) hx hb d_M_pass_138 (by decide) ⟨by decide, by decide⟩ (fun c_17 => ?_) (fun c_17 => ?_)
                      · exact absurd c_17 (by decide)
                      · skip
                        refine lv_iconst (v := iI 0) hx hb d_M_pass_141 rfl ?_
                        refine lv_goto (tgt := 151) hx hb d_M_pass_142 (by decide) ?_
                        refine rv_iast hx hb hE hP hD hS 3 rfl (i := i) (x := 0) (by omega) (by omega) (by decide) d_M_pass_151 (fun H locs hP hD hS => ?_)
                        have hP : va_P G cls0 [(w 0, .inr (4, [.int (iI it), .int (iI 0), .int (iI (now + ticks)), .ref (w 1), .ref (w 2), .int (iI gr), .int (iI md), .ref (w 3), .ref (w 4), .ref (w 5), .ref (w 6), .ref (w 7), .ref (w 8), .int (iI dO), .ref (w 9), .ref (w 10)])), (w 3, .inl (z.1, 66, .inl (aI (uZ gnu i 0)))), (w 4, .inl (z.1, 66, .inl (aI psi))), (w 5, .inl (z.1, 66, .inl (aI (uZ gcn i 0))))] H := hP
                        have hD : va_D A [(w 0, .inr (4, [.int (iI it), .int (iI 0), .int (iI (now + ticks)), .ref (w 1), .ref (w 2), .int (iI gr), .int (iI md), .ref (w 3), .ref (w 4), .ref (w 5), .ref (w 6), .ref (w 7), .ref (w 8), .int (iI dO), .ref (w 9), .ref (w 10)])), (w 3, .inl (z.1, 66, .inl (aI (uZ gnu i 0)))), (w 4, .inl (z.1, 66, .inl (aI psi))), (w 5, .inl (z.1, 66, .inl (aI (uZ gcn i 0))))] := hD
                        refine lv_iinc (v := iI (i + 1)) (lv' := [(3, .int (iI (i + 1))), (2, .int (iI (n + 1))), (4, .int (iI 1)), (0, .ref (w 0)), (1, .int (iI ticks))]) hx hb d_M_pass_152 hl (k := 4) rfl (iI_add _ _) (by decide) rfl (fun ls hl => ?_)
                        refine lv_goto (tgt := 58) hx hb d_M_pass_155 (by decide) ?_
                        exact ih58 _ _ _ (i + 1) (by omega) (uZ_rng rgnu (by first | exact rgnu i | omega)) (uZ_rng rgcn (by first | exact rgcn i | omega)) (by omega) (by first | exact TP_out hi.1 ho1 hT | exact TP_keep ho hT) (by first | (rw [cI_s1 hi.1 (by omega), hc]) | (rw [cI_s0 hi.1 ho, hc]; omega)) H _ (hP.sub [0, 1, 2, 3] rfl) (hD.sub [0, 1, 2, 3] (by decide) rfl) hS ls (lv_sub hl [3, 4, 1, 0] rfl)
        exact L58 ((64 - 0 : Int).toNat + 1) pnu pcn 0 0 (Nat.lt_succ_self _) rnu rcn (by omega) TP_0 cI_0.symm H _ (hP.sub [0, 1, 2, 3] rfl) (hD.sub [0, 1, 2, 3] (by decide) rfl) hS ls (lv_sub hl [2, 3, 1, 0] rfl)
      · exact absurd c_5 (by decide)
    · skip
      refine lv_iconst (v := iI 2) hx hb d_M_pass_27 rfl ?_
      refine lv_goto (tgt := 32) hx hb d_M_pass_28 (by decide) ?_
      refine va_put (D := G) (ci := 4) (v := .int (iI 2)) (ty := .int) (C := R_M) (T := T_M) (N := 16) hx hb hg iw_M ty_M ty_M_ok nm_M hown hE.1 hP hD hS 0 rfl rfl 1 (by decide) (hg _ fl_M_48) (fun _ h9 => h9) rfl (by decide +kernel) rfl rfl (Nat.le_of_ble_eq_true rfl) d_M_pass_32 (fun H locs hP hD hS => ?_)
      have hP : va_P G cls0 [(w 0, .inr (4, [.int (iI it), .int (iI 2), .int (iI now), .ref (w 1), .ref (w 2), .int (iI gr), .int (iI md), .ref (w 3), .ref (w 4), .ref (w 5), .ref (w 6), .ref (w 7), .ref (w 8), .int (iI dO), .ref (w 9), .ref (w 10)])), (w 3, .inl (z.1, 66, .inl (aI pnu))), (w 4, .inl (z.1, 66, .inl (aI psi))), (w 5, .inl (z.1, 66, .inl (aI pcn)))] H := hP
      have hD : va_D A [(w 0, .inr (4, [.int (iI it), .int (iI 2), .int (iI now), .ref (w 1), .ref (w 2), .int (iI gr), .int (iI md), .ref (w 3), .ref (w 4), .ref (w 5), .ref (w 6), .ref (w 7), .ref (w 8), .int (iI dO), .ref (w 9), .ref (w 10)])), (w 3, .inl (z.1, 66, .inl (aI pnu))), (w 4, .inl (z.1, 66, .inl (aI psi))), (w 5, .inl (z.1, 66, .inl (aI pcn)))] := hD
      refine lv_aload_n hx hb d_M_pass_35 rfl (lv_at hl 0 rfl) ?_
      refine va_get (D := G) (ci := 4) (v := .int (iI 2)) (C := R_M) (T := T_M) (N := 16) hx hb hg iw_M hown hE.1 hP 0 rfl rfl 1 (by decide) (hg _ fl_M_48) (fun _ h9 => h9) rfl d_M_pass_36 ?_
      refine rv_if_le (tgt := 44) hx hb d_M_pass_39 (by decide) ⟨by decide, by decide⟩ (fun c_18 => ?_) (fun c_18 => ?_)
      · exact absurd c_18 (by decide)
      · skip
        refine lv_iconst (v := iI 0) hx hb d_M_pass_42 rfl ?_
        have hP9 : va_P G cls0 [(w 0, .inr (4, [.int (iI it), .int (iI 2), .int (iI now), .ref (w 1), .ref (w 2), .int (iI gr), .int (iI md), .ref (w 3), .ref (w 4), .ref (w 5), .ref (w 6), .ref (w 7), .ref (w 8), .int (iI dO), .ref (w 9), .ref (w 10)])), (w 3, .inl (z.1, 66, .inl (aI pnu))), (w 4, .inl (z.1, 66, .inl (aI psi))), (w 5, .inl (z.1, 66, .inl (aI pcn)))] H := hP.sub [0, 1, 2, 3] rfl
        have hD9 : va_D A [(w 0, .inr (4, [.int (iI it), .int (iI 2), .int (iI now), .ref (w 1), .ref (w 2), .int (iI gr), .int (iI md), .ref (w 3), .ref (w 4), .ref (w 5), .ref (w 6), .ref (w 7), .ref (w 8), .int (iI dO), .ref (w 9), .ref (w 10)])), (w 3, .inl (z.1, 66, .inl (aI pnu))), (w 4, .inl (z.1, 66, .inl (aI psi))), (w 5, .inl (z.1, 66, .inl (aI pcn)))] := hD.sub [0, 1, 2, 3] (by decide) rfl
        refine rv_iret hx hb hRt (nar_int _) hlocks (Nat.le_of_ble_eq_true rfl) (Nat.le_of_ble_eq_true rfl) hP9 hD9 hS d_M_pass_43 ?_
        exact ⟨0, 2, now, pnu, pcn, rfl, rfl, rnu, rcn, (by first | exact Or.inl ⟨by omega, rfl, rfl, rfl, rfl⟩ | exact Or.inr (Or.inl ⟨by omega, by omega, rfl, rfl, rfl, rfl⟩))⟩
  · skip
    refine lv_iconst (v := iI 1) hx hb d_M_pass_12 rfl ?_
    refine lv_goto (tgt := 32) hx hb d_M_pass_13 (by decide) ?_
    refine va_put (D := G) (ci := 4) (v := .int (iI 1)) (ty := .int) (C := R_M) (T := T_M) (N := 16) hx hb hg iw_M ty_M ty_M_ok nm_M hown hE.1 hP hD hS 0 rfl rfl 1 (by decide) (hg _ fl_M_48) (fun _ h9 => h9) rfl (by decide +kernel) rfl rfl (Nat.le_of_ble_eq_true rfl) d_M_pass_32 (fun H locs hP hD hS => ?_)
    have hP : va_P G cls0 [(w 0, .inr (4, [.int (iI it), .int (iI 1), .int (iI now), .ref (w 1), .ref (w 2), .int (iI gr), .int (iI md), .ref (w 3), .ref (w 4), .ref (w 5), .ref (w 6), .ref (w 7), .ref (w 8), .int (iI dO), .ref (w 9), .ref (w 10)])), (w 3, .inl (z.1, 66, .inl (aI pnu))), (w 4, .inl (z.1, 66, .inl (aI psi))), (w 5, .inl (z.1, 66, .inl (aI pcn)))] H := hP
    have hD : va_D A [(w 0, .inr (4, [.int (iI it), .int (iI 1), .int (iI now), .ref (w 1), .ref (w 2), .int (iI gr), .int (iI md), .ref (w 3), .ref (w 4), .ref (w 5), .ref (w 6), .ref (w 7), .ref (w 8), .int (iI dO), .ref (w 9), .ref (w 10)])), (w 3, .inl (z.1, 66, .inl (aI pnu))), (w 4, .inl (z.1, 66, .inl (aI psi))), (w 5, .inl (z.1, 66, .inl (aI pcn)))] := hD
    refine lv_aload_n hx hb d_M_pass_35 rfl (lv_at hl 0 rfl) ?_
    refine va_get (D := G) (ci := 4) (v := .int (iI 1)) (C := R_M) (T := T_M) (N := 16) hx hb hg iw_M hown hE.1 hP 0 rfl rfl 1 (by decide) (hg _ fl_M_48) (fun _ h9 => h9) rfl d_M_pass_36 ?_
    refine rv_if_le (tgt := 44) hx hb d_M_pass_39 (by decide) ⟨by decide, by decide⟩ (fun c_19 => ?_) (fun c_19 => ?_)
    · exact absurd c_19 (by decide)
    · skip
      refine lv_iconst (v := iI 0) hx hb d_M_pass_42 rfl ?_
      have hP9 : va_P G cls0 [(w 0, .inr (4, [.int (iI it), .int (iI 1), .int (iI now), .ref (w 1), .ref (w 2), .int (iI gr), .int (iI md), .ref (w 3), .ref (w 4), .ref (w 5), .ref (w 6), .ref (w 7), .ref (w 8), .int (iI dO), .ref (w 9), .ref (w 10)])), (w 3, .inl (z.1, 66, .inl (aI pnu))), (w 4, .inl (z.1, 66, .inl (aI psi))), (w 5, .inl (z.1, 66, .inl (aI pcn)))] H := hP.sub [0, 1, 2, 3] rfl
      have hD9 : va_D A [(w 0, .inr (4, [.int (iI it), .int (iI 1), .int (iI now), .ref (w 1), .ref (w 2), .int (iI gr), .int (iI md), .ref (w 3), .ref (w 4), .ref (w 5), .ref (w 6), .ref (w 7), .ref (w 8), .int (iI dO), .ref (w 9), .ref (w 10)])), (w 3, .inl (z.1, 66, .inl (aI pnu))), (w 4, .inl (z.1, 66, .inl (aI psi))), (w 5, .inl (z.1, 66, .inl (aI pcn)))] := hD.sub [0, 1, 2, 3] (by decide) rfl
      refine rv_iret hx hb hRt (nar_int _) hlocks (Nat.le_of_ble_eq_true rfl) (Nat.le_of_ble_eq_true rfl) hP9 hD9 hS d_M_pass_43 ?_
      exact ⟨0, 1, now, pnu, pcn, rfl, rfl, rnu, rcn, (by first | exact Or.inl ⟨by omega, rfl, rfl, rfl, rfl⟩ | exact Or.inr (Or.inl ⟨by omega, by omega, rfl, rfl, rfl, rfl⟩))⟩
set_option maxHeartbeats 4000000 in
set_option maxRecDepth 100000 in
theorem k_M_tell (l : Launch) (G : va_G) (z : tz3) (w : Nat → Nat) (it : Int) (cd : Int) (now : Int) (gr : Int) (md : Int) (dO : Int) (ppo : Int → Int) (pfr : Int → Int) (pcn : Int → Int) (prt : Int → Int) (pnt : Int → Int) (pco : Int → Int) (rpo : ∀ i : Int, 0 ≤ ppo i ∧ ppo i ≤ 1000) (rfr : ∀ i : Int, 0 ≤ pfr i ∧ pfr i ≤ 1) (rcn : ∀ i : Int, 0 ≤ pcn i ∧ pcn i ≤ 24) (rrt : ∀ i : Int, -1 ≤ prt i ∧ prt i ≤ 63) (rnt : ∀ i : Int, 0 ≤ pnt i ∧ pnt i ≤ 63) (rco : ∀ i : Int, 0 ≤ pco i ∧ pco i ≤ 1000) (hcp : cI ppo 64 ≤ 8) (hcf : cI pfr 4096 ≤ 16) : Kv l y_M_tell c_M_tell 2 (rmD 1) G z [.ref (w 0)] [(w 0, .inr (4, [.int (iI it), .int (iI cd), .int (iI now), .ref (w 1), .ref (w 2), .int (iI gr), .int (iI md), .ref (w 3), .ref (w 4), .ref (w 5), .ref (w 6), .ref (w 7), .ref (w 8), .int (iI dO), .ref (w 9), .ref (w 10)])), (w 1, .inl (z.1, 64, .inl (aI ppo))), (w 2, .inl (z.2.1, 4096, .inl (aI pfr))), (w 5, .inl (z.1, 66, .inl (aI pcn))), (w 6, .inl (z.1, 1584, .inl (aI prt))), (w 7, .inl (z.1, 1584, .inl (aI pnt))), (w 8, .inl (z.1, 1584, .inl (aI pco)))] (fun u9 => ∃ (gcn : Int → Int) (grt : Int → Int) (gnt : Int → Int) (gco : Int → Int), u9 = [(w 0, .inr (4, [.int (iI it), .int (iI cd), .int (iI now), .ref (w 1), .ref (w 2), .int (iI gr), .int (iI md), .ref (w 3), .ref (w 4), .ref (w 5), .ref (w 6), .ref (w 7), .ref (w 8), .int (iI dO), .ref (w 9), .ref (w 10)])), (w 1, .inl (z.1, 64, .inl (aI ppo))), (w 2, .inl (z.2.1, 4096, .inl (aI pfr))), (w 5, .inl (z.1, 66, .inl (aI gcn))), (w 6, .inl (z.1, 1584, .inl (aI grt))), (w 7, .inl (z.1, 1584, .inl (aI gnt))), (w 8, .inl (z.1, 1584, .inl (aI gco)))] ∧ (∀ i : Int, 0 ≤ gcn i ∧ gcn i ≤ 24) ∧ (∀ i : Int, -1 ≤ grt i ∧ grt i ≤ 63) ∧ (∀ i : Int, 0 ≤ gnt i ∧ gnt i ≤ 63) ∧ (∀ i : Int, 0 ≤ gco i ∧ gco i ≤ 1000) ∧ (TM pcn prt pnt pco gcn grt gnt gco ppo pfr 65 64 4096)) := by
  refine Kv.of (by decide) (Nat.le_of_ble_eq_true rfl) ?_
  intro p e s m below meth c A hB hP hD ls hl
  obtain ⟨hx, hb, hRt, hml, hown, hlocks, hg, hE, hA, hin⟩ := hB
  have hown : s.vm.findClass R_M = some m.cls := hown
  have hl : lv_has ls 2 [(0, .ref (w 0))] := hl
  obtain ⟨H, hH⟩ : ∃ H, H = s.heap := ⟨_, rfl⟩
  have hS : va_S A s.heap H [] := by rw [hH]; exact va_S.rf
  rw [← hH] at hP
  rw [← hH]
  have hP : va_P G cls0 [(w 0, .inr (4, [.int (iI it), .int (iI cd), .int (iI now), .ref (w 1), .ref (w 2), .int (iI gr), .int (iI md), .ref (w 3), .ref (w 4), .ref (w 5), .ref (w 6), .ref (w 7), .ref (w 8), .int (iI dO), .ref (w 9), .ref (w 10)])), (w 1, .inl (z.1, 64, .inl (aI ppo))), (w 2, .inl (z.2.1, 4096, .inl (aI pfr))), (w 5, .inl (z.1, 66, .inl (aI pcn))), (w 6, .inl (z.1, 1584, .inl (aI prt))), (w 7, .inl (z.1, 1584, .inl (aI pnt))), (w 8, .inl (z.1, 1584, .inl (aI pco)))] H := hP
  have hD : va_D A [(w 0, .inr (4, [.int (iI it), .int (iI cd), .int (iI now), .ref (w 1), .ref (w 2), .int (iI gr), .int (iI md), .ref (w 3), .ref (w 4), .ref (w 5), .ref (w 6), .ref (w 7), .ref (w 8), .int (iI dO), .ref (w 9), .ref (w 10)])), (w 1, .inl (z.1, 64, .inl (aI ppo))), (w 2, .inl (z.2.1, 4096, .inl (aI pfr))), (w 5, .inl (z.1, 66, .inl (aI pcn))), (w 6, .inl (z.1, 1584, .inl (aI prt))), (w 7, .inl (z.1, 1584, .inl (aI pnt))), (w 8, .inl (z.1, 1584, .inl (aI pco)))] := hD
  refine lv_aload_n hx hb d_M_tell_0 rfl (lv_at hl 0 rfl) ?_
  refine va_get (D := G) (ci := 4) (v := .ref (w 5)) (C := R_M) (T := T_M) (N := 16) hx hb hg iw_M hown hE.1 hP 0 rfl rfl 9 (by decide) (hg _ fl_M_27) (fun _ h9 => h9) rfl d_M_tell_1 ?_
  refine lv_bipush (v := iI 65) hx hb d_M_tell_4 (by decide +kernel) ?_
  refine lv_iconst (v := iI 0) hx hb d_M_tell_6 rfl ?_
  refine rv_iast hx hb hE hP hD hS 3 rfl (i := 65) (x := 0) (by omega) (by omega) (by decide) d_M_tell_7 (fun H locs hP hD hS => ?_)
  have hP : va_P G cls0 [(w 0, .inr (4, [.int (iI it), .int (iI cd), .int (iI now), .ref (w 1), .ref (w 2), .int (iI gr), .int (iI md), .ref (w 3), .ref (w 4), .ref (w 5), .ref (w 6), .ref (w 7), .ref (w 8), .int (iI dO), .ref (w 9), .ref (w 10)])), (w 1, .inl (z.1, 64, .inl (aI ppo))), (w 2, .inl (z.2.1, 4096, .inl (aI pfr))), (w 5, .inl (z.1, 66, .inl (aI (uZ pcn 65 0)))), (w 6, .inl (z.1, 1584, .inl (aI prt))), (w 7, .inl (z.1, 1584, .inl (aI pnt))), (w 8, .inl (z.1, 1584, .inl (aI pco)))] H := hP
  have hD : va_D A [(w 0, .inr (4, [.int (iI it), .int (iI cd), .int (iI now), .ref (w 1), .ref (w 2), .int (iI gr), .int (iI md), .ref (w 3), .ref (w 4), .ref (w 5), .ref (w 6), .ref (w 7), .ref (w 8), .int (iI dO), .ref (w 9), .ref (w 10)])), (w 1, .inl (z.1, 64, .inl (aI ppo))), (w 2, .inl (z.2.1, 4096, .inl (aI pfr))), (w 5, .inl (z.1, 66, .inl (aI (uZ pcn 65 0)))), (w 6, .inl (z.1, 1584, .inl (aI prt))), (w 7, .inl (z.1, 1584, .inl (aI pnt))), (w 8, .inl (z.1, 1584, .inl (aI pco)))] := hD
  refine lv_iconst (v := iI 0) hx hb d_M_tell_8 rfl ?_
  refine lv_istore_n (lv' := [(1, .int (iI 0)), (0, .ref (w 0))]) hx hb d_M_tell_9 rfl hl (by decide) rfl (fun ls hl => ?_)
  have L10 : ∀ n9 : Nat, ∀ (gcn : Int → Int) (grt : Int → Int) (gnt : Int → Int) (gco : Int → Int) (n : Int), (64 - n : Int).toNat < n9 → (∀ i : Int, 0 ≤ gcn i ∧ gcn i ≤ 24) → (∀ i : Int, -1 ≤ grt i ∧ grt i ≤ 63) → (∀ i : Int, 0 ≤ gnt i ∧ gnt i ≤ 63) → (∀ i : Int, 0 ≤ gco i ∧ gco i ≤ 1000) → (0 ≤ n ∧ n ≤ 64) → (TM pcn prt pnt pco gcn grt gnt gco ppo pfr 65 n 0) → ∀ (H : Heap) (locs : List Loc), va_P G cls0 [(w 0, .inr (4, [.int (iI it), .int (iI cd), .int (iI now), .ref (w 1), .ref (w 2), .int (iI gr), .int (iI md), .ref (w 3), .ref (w 4), .ref (w 5), .ref (w 6), .ref (w 7), .ref (w 8), .int (iI dO), .ref (w 9), .ref (w 10)])), (w 1, .inl (z.1, 64, .inl (aI ppo))), (w 2, .inl (z.2.1, 4096, .inl (aI pfr))), (w 5, .inl (z.1, 66, .inl (aI gcn))), (w 6, .inl (z.1, 1584, .inl (aI grt))), (w 7, .inl (z.1, 1584, .inl (aI gnt))), (w 8, .inl (z.1, 1584, .inl (aI gco)))] H → va_D A [(w 0, .inr (4, [.int (iI it), .int (iI cd), .int (iI now), .ref (w 1), .ref (w 2), .int (iI gr), .int (iI md), .ref (w 3), .ref (w 4), .ref (w 5), .ref (w 6), .ref (w 7), .ref (w 8), .int (iI dO), .ref (w 9), .ref (w 10)])), (w 1, .inl (z.1, 64, .inl (aI ppo))), (w 2, .inl (z.2.1, 4096, .inl (aI pfr))), (w 5, .inl (z.1, 66, .inl (aI gcn))), (w 6, .inl (z.1, 1584, .inl (aI grt))), (w 7, .inl (z.1, 1584, .inl (aI gnt))), (w 8, .inl (z.1, 1584, .inl (aI gco)))] → va_S A s.heap H locs → ∀ ls : Array Slot, lv_has ls 2 [(0, .ref (w 0)), (1, .int (iI n))] → W p l e (rmD 1) s m [.ref (w 0)].toArray below meth c H locs 0 0 (Zv below [.ref (w 0)].toArray s (rmD 1) G A (fun u9 => ∃ (gcn : Int → Int) (grt : Int → Int) (gnt : Int → Int) (gco : Int → Int), u9 = [(w 0, .inr (4, [.int (iI it), .int (iI cd), .int (iI now), .ref (w 1), .ref (w 2), .int (iI gr), .int (iI md), .ref (w 3), .ref (w 4), .ref (w 5), .ref (w 6), .ref (w 7), .ref (w 8), .int (iI dO), .ref (w 9), .ref (w 10)])), (w 1, .inl (z.1, 64, .inl (aI ppo))), (w 2, .inl (z.2.1, 4096, .inl (aI pfr))), (w 5, .inl (z.1, 66, .inl (aI gcn))), (w 6, .inl (z.1, 1584, .inl (aI grt))), (w 7, .inl (z.1, 1584, .inl (aI gnt))), (w 8, .inl (z.1, 1584, .inl (aI gco)))] ∧ (∀ i : Int, 0 ≤ gcn i ∧ gcn i ≤ 24) ∧ (∀ i : Int, -1 ≤ grt i ∧ grt i ≤ 63) ∧ (∀ i : Int, 0 ≤ gnt i ∧ gnt i ≤ 63) ∧ (∀ i : Int, 0 ≤ gco i ∧ gco i ≤ 1000) ∧ (TM pcn prt pnt pco gcn grt gnt gco ppo pfr 65 64 4096))) (F0 m 10 ls []) := by
    intro n9
    induction n9 with
    | zero => intro gcn grt gnt gco n hmu; exact absurd hmu (Nat.not_lt_zero _)
    | succ n9 ih10 =>
      intro gcn grt gnt gco n hmu rgcn rgrt rgnt rgco hn hT H locs hP hD hS ls hl
      refine lv_iload_n hx hb d_M_tell_10 rfl (lv_at hl 1 rfl) ?_
      refine lv_bipush (v := iI 64) hx hb d_M_tell_11 (by decide +kernel) ?_
      refine rv_icmp_ge (tgt := 45) hx hb d_M_tell_13 (by decide) (by constructor <;> omega) ⟨by decide, by decide⟩ (fun c_1 => ?_) (fun c_1 => ?_)
      · skip
        refine lv_iconst (v := iI 0) hx hb d_M_tell_45 rfl ?_
        refine lv_istore_n (lv' := [(1, .int (iI 0)), (0, .ref (w 0))]) hx hb d_M_tell_46 rfl hl (by decide) rfl (fun ls hl => ?_)
        have L47 : ∀ n9 : Nat, ∀ (gcn : Int → Int) (grt : Int → Int) (gnt : Int → Int) (gco : Int → Int) (k : Int), (4096 - k : Int).toNat < n9 → (∀ i : Int, 0 ≤ gcn i ∧ gcn i ≤ 24) → (∀ i : Int, -1 ≤ grt i ∧ grt i ≤ 63) → (∀ i : Int, 0 ≤ gnt i ∧ gnt i ≤ 63) → (∀ i : Int, 0 ≤ gco i ∧ gco i ≤ 1000) → (0 ≤ k ∧ k ≤ 4096) → (TM pcn prt pnt pco gcn grt gnt gco ppo pfr 65 64 k) → ∀ (H : Heap) (locs : List Loc), va_P G cls0 [(w 0, .inr (4, [.int (iI it), .int (iI cd), .int (iI now), .ref (w 1), .ref (w 2), .int (iI gr), .int (iI md), .ref (w 3), .ref (w 4), .ref (w 5), .ref (w 6), .ref (w 7), .ref (w 8), .int (iI dO), .ref (w 9), .ref (w 10)])), (w 1, .inl (z.1, 64, .inl (aI ppo))), (w 2, .inl (z.2.1, 4096, .inl (aI pfr))), (w 5, .inl (z.1, 66, .inl (aI gcn))), (w 6, .inl (z.1, 1584, .inl (aI grt))), (w 7, .inl (z.1, 1584, .inl (aI gnt))), (w 8, .inl (z.1, 1584, .inl (aI gco)))] H → va_D A [(w 0, .inr (4, [.int (iI it), .int (iI cd), .int (iI now), .ref (w 1), .ref (w 2), .int (iI gr), .int (iI md), .ref (w 3), .ref (w 4), .ref (w 5), .ref (w 6), .ref (w 7), .ref (w 8), .int (iI dO), .ref (w 9), .ref (w 10)])), (w 1, .inl (z.1, 64, .inl (aI ppo))), (w 2, .inl (z.2.1, 4096, .inl (aI pfr))), (w 5, .inl (z.1, 66, .inl (aI gcn))), (w 6, .inl (z.1, 1584, .inl (aI grt))), (w 7, .inl (z.1, 1584, .inl (aI gnt))), (w 8, .inl (z.1, 1584, .inl (aI gco)))] → va_S A s.heap H locs → ∀ ls : Array Slot, lv_has ls 2 [(0, .ref (w 0)), (1, .int (iI k))] → W p l e (rmD 1) s m [.ref (w 0)].toArray below meth c H locs 0 0 (Zv below [.ref (w 0)].toArray s (rmD 1) G A (fun u9 => ∃ (gcn : Int → Int) (grt : Int → Int) (gnt : Int → Int) (gco : Int → Int), u9 = [(w 0, .inr (4, [.int (iI it), .int (iI cd), .int (iI now), .ref (w 1), .ref (w 2), .int (iI gr), .int (iI md), .ref (w 3), .ref (w 4), .ref (w 5), .ref (w 6), .ref (w 7), .ref (w 8), .int (iI dO), .ref (w 9), .ref (w 10)])), (w 1, .inl (z.1, 64, .inl (aI ppo))), (w 2, .inl (z.2.1, 4096, .inl (aI pfr))), (w 5, .inl (z.1, 66, .inl (aI gcn))), (w 6, .inl (z.1, 1584, .inl (aI grt))), (w 7, .inl (z.1, 1584, .inl (aI gnt))), (w 8, .inl (z.1, 1584, .inl (aI gco)))] ∧ (∀ i : Int, 0 ≤ gcn i ∧ gcn i ≤ 24) ∧ (∀ i : Int, -1 ≤ grt i ∧ grt i ≤ 63) ∧ (∀ i : Int, 0 ≤ gnt i ∧ gnt i ≤ 63) ∧ (∀ i : Int, 0 ≤ gco i ∧ gco i ≤ 1000) ∧ (TM pcn prt pnt pco gcn grt gnt gco ppo pfr 65 64 4096))) (F0 m 47 ls []) := by
          intro n9
          induction n9 with
          | zero => intro gcn grt gnt gco k hmu; exact absurd hmu (Nat.not_lt_zero _)
          | succ n9 ih47 =>
            intro gcn grt gnt gco k hmu rgcn rgrt rgnt rgco hk hT H locs hP hD hS ls hl
            refine lv_iload_n hx hb d_M_tell_47 rfl (lv_at hl 1 rfl) ?_
            refine lv_sipush (v := iI 4096) hx hb d_M_tell_48 (by decide +kernel) ?_
            refine rv_icmp_ge (tgt := 92) hx hb d_M_tell_51 (by decide) (by constructor <;> omega) ⟨by decide, by decide⟩ (fun c_2 => ?_) (fun c_2 => ?_)
            · skip
              have hP9 : va_P G cls0 [(w 0, .inr (4, [.int (iI it), .int (iI cd), .int (iI now), .ref (w 1), .ref (w 2), .int (iI gr), .int (iI md), .ref (w 3), .ref (w 4), .ref (w 5), .ref (w 6), .ref (w 7), .ref (w 8), .int (iI dO), .ref (w 9), .ref (w 10)])), (w 1, .inl (z.1, 64, .inl (aI ppo))), (w 2, .inl (z.2.1, 4096, .inl (aI pfr))), (w 5, .inl (z.1, 66, .inl (aI gcn))), (w 6, .inl (z.1, 1584, .inl (aI grt))), (w 7, .inl (z.1, 1584, .inl (aI gnt))), (w 8, .inl (z.1, 1584, .inl (aI gco)))] H := hP.sub [0, 1, 2, 3, 4, 5, 6] rfl
              have hD9 : va_D A [(w 0, .inr (4, [.int (iI it), .int (iI cd), .int (iI now), .ref (w 1), .ref (w 2), .int (iI gr), .int (iI md), .ref (w 3), .ref (w 4), .ref (w 5), .ref (w 6), .ref (w 7), .ref (w 8), .int (iI dO), .ref (w 9), .ref (w 10)])), (w 1, .inl (z.1, 64, .inl (aI ppo))), (w 2, .inl (z.2.1, 4096, .inl (aI pfr))), (w 5, .inl (z.1, 66, .inl (aI gcn))), (w 6, .inl (z.1, 1584, .inl (aI grt))), (w 7, .inl (z.1, 1584, .inl (aI gnt))), (w 8, .inl (z.1, 1584, .inl (aI gco)))] := hD.sub [0, 1, 2, 3, 4, 5, 6] (by decide) rfl
              refine rv_vret hx hb hRt hlocks (Nat.le_of_ble_eq_true rfl) (Nat.le_of_ble_eq_true rfl) hP9 hD9 hS d_M_tell_92 ?_
              exact ⟨gcn, grt, gnt, gco, rfl, rgcn, rgrt, rgnt, rgco, (by rw [show (4096 : Int) = k by omega]; exact hT)⟩
            · skip
              refine lv_aload_n hx hb d_M_tell_54 rfl (lv_at hl 0 rfl) ?_
              refine va_get (D := G) (ci := 4) (v := .ref (w 2)) (C := R_M) (T := T_M) (N := 16) hx hb hg iw_M hown hE.1 hP 0 rfl rfl 4 (by decide) (hg _ fl_M_13) (fun _ h9 => h9) rfl d_M_tell_55 ?_
              refine lv_iload_n hx hb d_M_tell_58 rfl (lv_at hl 1 rfl) ?_
              refine rv_zald hx hb hE hP 2 rfl (i := k) (by omega) (by omega) (by decide) d_M_tell_59 ?_
              refine rv_if_eq (tgt := 86) hx hb d_M_tell_60 (by decide) (by (try have := rfr k); constructor <;> omega) (fun c_3 => ?_) (fun c_3 => ?_)
              · skip
                have hz : pfr k = 0 := by omega
                refine lv_iinc (v := iI (k + 1)) (lv' := [(1, .int (iI (k + 1))), (0, .ref (w 0))]) hx hb d_M_tell_86 hl (k := 1) rfl (iI_add _ _) (by decide) rfl (fun ls hl => ?_)
                refine lv_goto (tgt := 47) hx hb d_M_tell_89 (by decide) ?_
                exact ih47 _ _ _ _ (k + 1) (by omega) (by first | exact uZ_rng rgcn (by have := rgcn 65; omega) | exact rgcn) (by first | exact uZ_rng rgrt (by omega) | exact rgrt) (by first | exact uZ_rng rgnt (by omega) | exact rgnt) (by first | exact uZ_rng rgco (rpo _) | exact rgco) (by omega) (by first | exact TM_friend hk.1 hz hr (by omega) hT | exact TM_fskip hk.1 hz hT) H _ (hP.sub [0, 1, 2, 3, 4, 5, 6] rfl) (hD.sub [0, 1, 2, 3, 4, 5, 6] (by decide) rfl) hS ls (lv_sub hl [1, 0] rfl)
              · skip
                have hz : ¬ pfr k = 0 := by omega
                have hr : gcn 65 < 24 := by have hm := cI_lt pfr (show 0 ≤ k by omega) (show k < 4096 by omega) hz; have ha := hT.1; omega
                refine lv_aload_n hx hb d_M_tell_63 rfl (lv_at hl 0 rfl) ?_
                refine lv_bipush (v := iI 65) hx hb d_M_tell_64 (by decide +kernel) ?_
                refine lv_iload_n hx hb d_M_tell_66 rfl (lv_at hl 1 rfl) ?_
                refine lv_bipush (v := iI 64) hx hb d_M_tell_67 (by decide +kernel) ?_
                refine rv_irem hx hb d_M_tell_69 (by omega) (by constructor <;> omega) (by omega) ⟨by decide, by decide⟩ ?_
                refine lv_iload_n hx hb d_M_tell_70 rfl (lv_at hl 1 rfl) ?_
                refine lv_bipush (v := iI 64) hx hb d_M_tell_71 (by decide +kernel) ?_
                refine rv_idiv hx hb d_M_tell_73 (by omega) (by constructor <;> omega) (by omega) ⟨by decide, by decide⟩ ?_
                refine lv_aload_n hx hb d_M_tell_74 rfl (lv_at hl 0 rfl) ?_
                refine va_get (D := G) (ci := 4) (v := .ref (w 1)) (C := R_M) (T := T_M) (N := 16) hx hb hg iw_M hown hE.1 hP 0 rfl rfl 3 (by decide) (hg _ fl_M_7) (fun _ h9 => h9) rfl d_M_tell_75 ?_
                refine lv_iload_n hx hb d_M_tell_78 rfl (lv_at hl 1 rfl) ?_
                refine lv_bipush (v := iI 64) hx hb d_M_tell_79 (by decide +kernel) ?_
                refine rv_idiv hx hb d_M_tell_81 (by omega) (by constructor <;> omega) (by omega) ⟨by decide, by decide⟩ ?_
                refine rv_iald hx hb hE hP 1 rfl (i := k / 64) (by omega) (by omega) (by decide) d_M_tell_82 ?_
                refine qV_v (As := [.int (iI 65), .int (iI (k % 64)), .int (iI (k / 64)), .int (iI (ppo (k / 64)))]) (rest := []) (wr := [(w 1, .inl (z.1, 64, .inl (aI ppo))), (w 2, .inl (z.2.1, 4096, .inl (aI pfr)))]) hx hb hml hown hg hE hA hS hP hD (k_M_add l G z w it cd now gr md dO gcn grt gnt gco 65 (k % 64) (k / 64) (ppo (k / 64)) (by assumption) (by omega) (by (try have := rgcn 65); omega)) [0, 3, 4, 5, 6] [1, 2] rfl rfl (by decide) (by decide) (by decide) (q0 := 0) rfl rfl ml_M_62 im_M_add se_M_add in_M co_M_add ok_M_add ⟨Nat.le_of_ble_eq_true rfl, Nat.le_of_ble_eq_true rfl⟩ hl.1 rfl (Nat.le_of_ble_eq_true rfl) d_M_tell_83 ⟨Nat.le_of_ble_eq_true rfl, Nat.le_of_ble_eq_true rfl⟩ (fun u9 H locs hw hP hD hS => ?_)
                subst hw
                have hP : va_P G cls0 [(w 1, .inl (z.1, 64, .inl (aI ppo))), (w 2, .inl (z.2.1, 4096, .inl (aI pfr))), (w 0, .inr (4, [.int (iI it), .int (iI cd), .int (iI now), .ref (w 1), .ref (w 2), .int (iI gr), .int (iI md), .ref (w 3), .ref (w 4), .ref (w 5), .ref (w 6), .ref (w 7), .ref (w 8), .int (iI dO), .ref (w 9), .ref (w 10)])), (w 5, .inl (z.1, 66, .inl (aI (uZ gcn 65 (gcn 65 + 1))))), (w 6, .inl (z.1, 1584, .inl (aI (uZ grt (24 * 65 + gcn 65) (k % 64))))), (w 7, .inl (z.1, 1584, .inl (aI (uZ gnt (24 * 65 + gcn 65) (k / 64))))), (w 8, .inl (z.1, 1584, .inl (aI (uZ gco (24 * 65 + gcn 65) (ppo (k / 64))))))] H := hP
                have hD : va_D A [(w 1, .inl (z.1, 64, .inl (aI ppo))), (w 2, .inl (z.2.1, 4096, .inl (aI pfr))), (w 0, .inr (4, [.int (iI it), .int (iI cd), .int (iI now), .ref (w 1), .ref (w 2), .int (iI gr), .int (iI md), .ref (w 3), .ref (w 4), .ref (w 5), .ref (w 6), .ref (w 7), .ref (w 8), .int (iI dO), .ref (w 9), .ref (w 10)])), (w 5, .inl (z.1, 66, .inl (aI (uZ gcn 65 (gcn 65 + 1))))), (w 6, .inl (z.1, 1584, .inl (aI (uZ grt (24 * 65 + gcn 65) (k % 64))))), (w 7, .inl (z.1, 1584, .inl (aI (uZ gnt (24 * 65 + gcn 65) (k / 64))))), (w 8, .inl (z.1, 1584, .inl (aI (uZ gco (24 * 65 + gcn 65) (ppo (k / 64))))))] := hD
                refine lv_iinc (v := iI (k + 1)) (lv' := [(1, .int (iI (k + 1))), (0, .ref (w 0))]) hx hb d_M_tell_86 hl (k := 1) rfl (iI_add _ _) (by decide) rfl (fun ls hl => ?_)
                refine lv_goto (tgt := 47) hx hb d_M_tell_89 (by decide) ?_
                exact ih47 _ _ _ _ (k + 1) (by omega) (by first | exact uZ_rng rgcn (by have := rgcn 65; omega) | exact rgcn) (by first | exact uZ_rng rgrt (by omega) | exact rgrt) (by first | exact uZ_rng rgnt (by omega) | exact rgnt) (by first | exact uZ_rng rgco (rpo _) | exact rgco) (by omega) (by first | exact TM_friend hk.1 hz hr (by omega) hT | exact TM_fskip hk.1 hz hT) H _ (hP.sub [2, 0, 1, 3, 4, 5, 6] rfl) (hD.sub [2, 0, 1, 3, 4, 5, 6] (by decide) rfl) hS ls (lv_sub hl [1, 0] rfl)
        exact L47 ((4096 - 0 : Int).toNat + 1) gcn grt gnt gco 0 (Nat.lt_succ_self _) rgcn rgrt rgnt rgco (by omega) (by rw [show (64 : Int) = n by omega]; exact hT) H _ (hP.sub [0, 1, 2, 3, 4, 5, 6] rfl) (hD.sub [0, 1, 2, 3, 4, 5, 6] (by decide) rfl) hS ls (lv_sub hl [1, 0] rfl)
      · skip
        refine lv_aload_n hx hb d_M_tell_16 rfl (lv_at hl 0 rfl) ?_
        refine va_get (D := G) (ci := 4) (v := .ref (w 1)) (C := R_M) (T := T_M) (N := 16) hx hb hg iw_M hown hE.1 hP 0 rfl rfl 3 (by decide) (hg _ fl_M_7) (fun _ h9 => h9) rfl d_M_tell_17 ?_
        refine lv_iload_n hx hb d_M_tell_20 rfl (lv_at hl 1 rfl) ?_
        refine rv_iald hx hb hE hP 1 rfl (i := n) (by omega) (by omega) (by decide) d_M_tell_21 ?_
        refine rv_if_le (tgt := 39) hx hb d_M_tell_22 (by decide) (by (try have := rpo n); constructor <;> omega) (fun c_4 => ?_) (fun c_4 => ?_)
        · skip
          have hz : ppo n = 0 := by have := rpo n; omega
          refine lv_iinc (v := iI (n + 1)) (lv' := [(1, .int (iI (n + 1))), (0, .ref (w 0))]) hx hb d_M_tell_39 hl (k := 1) rfl (iI_add _ _) (by decide) rfl (fun ls hl => ?_)
          refine lv_goto (tgt := 10) hx hb d_M_tell_42 (by decide) ?_
          exact ih10 _ _ _ _ (n + 1) (by omega) (by first | exact uZ_rng rgcn (by have := rgcn 65; omega) | exact rgcn) (by first | exact uZ_rng rgrt (by omega) | exact rgrt) (by first | exact uZ_rng rgnt (by omega) | exact rgnt) (by first | exact uZ_rng rgco (rpo n) | exact rgco) (by omega) (by first | exact TM_port hn.1 hz hr (by omega) hT | exact TM_pskip hn.1 hz hT) H _ (hP.sub [0, 1, 2, 3, 4, 5, 6] rfl) (hD.sub [0, 1, 2, 3, 4, 5, 6] (by decide) rfl) hS ls (lv_sub hl [1, 0] rfl)
        · skip
          have hz : ¬ ppo n = 0 := by omega
          have hr : gcn 65 < 24 := by have hm := cI_mono ppo (show n ≤ 64 by omega); have ha := hT.1; rw [cI_0] at ha; omega
          refine lv_aload_n hx hb d_M_tell_25 rfl (lv_at hl 0 rfl) ?_
          refine lv_bipush (v := iI 65) hx hb d_M_tell_26 (by decide +kernel) ?_
          refine lv_iconst (v := iI (-1)) hx hb d_M_tell_28 rfl ?_
          refine lv_iload_n hx hb d_M_tell_29 rfl (lv_at hl 1 rfl) ?_
          refine lv_aload_n hx hb d_M_tell_30 rfl (lv_at hl 0 rfl) ?_
          refine va_get (D := G) (ci := 4) (v := .ref (w 1)) (C := R_M) (T := T_M) (N := 16) hx hb hg iw_M hown hE.1 hP 0 rfl rfl 3 (by decide) (hg _ fl_M_7) (fun _ h9 => h9) rfl d_M_tell_31 ?_
          refine lv_iload_n hx hb d_M_tell_34 rfl (lv_at hl 1 rfl) ?_
          refine rv_iald hx hb hE hP 1 rfl (i := n) (by omega) (by omega) (by decide) d_M_tell_35 ?_
          refine qV_v (As := [.int (iI 65), .int (iI ((-1))), .int (iI n), .int (iI (ppo n))]) (rest := []) (wr := [(w 1, .inl (z.1, 64, .inl (aI ppo))), (w 2, .inl (z.2.1, 4096, .inl (aI pfr)))]) hx hb hml hown hg hE hA hS hP hD (k_M_add l G z w it cd now gr md dO gcn grt gnt gco 65 ((-1)) n (ppo n) (by assumption) (by omega) (by (try have := rgcn 65); omega)) [0, 3, 4, 5, 6] [1, 2] rfl rfl (by decide) (by decide) (by decide) (q0 := 0) rfl rfl ml_M_62 im_M_add se_M_add in_M co_M_add ok_M_add ⟨Nat.le_of_ble_eq_true rfl, Nat.le_of_ble_eq_true rfl⟩ hl.1 rfl (Nat.le_of_ble_eq_true rfl) d_M_tell_36 ⟨Nat.le_of_ble_eq_true rfl, Nat.le_of_ble_eq_true rfl⟩ (fun u9 H locs hw hP hD hS => ?_)
          subst hw
          have hP : va_P G cls0 [(w 1, .inl (z.1, 64, .inl (aI ppo))), (w 2, .inl (z.2.1, 4096, .inl (aI pfr))), (w 0, .inr (4, [.int (iI it), .int (iI cd), .int (iI now), .ref (w 1), .ref (w 2), .int (iI gr), .int (iI md), .ref (w 3), .ref (w 4), .ref (w 5), .ref (w 6), .ref (w 7), .ref (w 8), .int (iI dO), .ref (w 9), .ref (w 10)])), (w 5, .inl (z.1, 66, .inl (aI (uZ gcn 65 (gcn 65 + 1))))), (w 6, .inl (z.1, 1584, .inl (aI (uZ grt (24 * 65 + gcn 65) ((-1)))))), (w 7, .inl (z.1, 1584, .inl (aI (uZ gnt (24 * 65 + gcn 65) n)))), (w 8, .inl (z.1, 1584, .inl (aI (uZ gco (24 * 65 + gcn 65) (ppo n)))))] H := hP
          have hD : va_D A [(w 1, .inl (z.1, 64, .inl (aI ppo))), (w 2, .inl (z.2.1, 4096, .inl (aI pfr))), (w 0, .inr (4, [.int (iI it), .int (iI cd), .int (iI now), .ref (w 1), .ref (w 2), .int (iI gr), .int (iI md), .ref (w 3), .ref (w 4), .ref (w 5), .ref (w 6), .ref (w 7), .ref (w 8), .int (iI dO), .ref (w 9), .ref (w 10)])), (w 5, .inl (z.1, 66, .inl (aI (uZ gcn 65 (gcn 65 + 1))))), (w 6, .inl (z.1, 1584, .inl (aI (uZ grt (24 * 65 + gcn 65) ((-1)))))), (w 7, .inl (z.1, 1584, .inl (aI (uZ gnt (24 * 65 + gcn 65) n)))), (w 8, .inl (z.1, 1584, .inl (aI (uZ gco (24 * 65 + gcn 65) (ppo n)))))] := hD
          refine lv_iinc (v := iI (n + 1)) (lv' := [(1, .int (iI (n + 1))), (0, .ref (w 0))]) hx hb d_M_tell_39 hl (k := 1) rfl (iI_add _ _) (by decide) rfl (fun ls hl => ?_)
          refine lv_goto (tgt := 10) hx hb d_M_tell_42 (by decide) ?_
          exact ih10 _ _ _ _ (n + 1) (by omega) (by first | exact uZ_rng rgcn (by have := rgcn 65; omega) | exact rgcn) (by first | exact uZ_rng rgrt (by omega) | exact rgrt) (by first | exact uZ_rng rgnt (by omega) | exact rgnt) (by first | exact uZ_rng rgco (rpo n) | exact rgco) (by omega) (by first | exact TM_port hn.1 hz hr (by omega) hT | exact TM_pskip hn.1 hz hT) H _ (hP.sub [2, 0, 1, 3, 4, 5, 6] rfl) (hD.sub [2, 0, 1, 3, 4, 5, 6] (by decide) rfl) hS ls (lv_sub hl [1, 0] rfl)
  exact L10 ((64 - 0 : Int).toNat + 1) (uZ pcn 65 0) prt pnt pco 0 (Nat.lt_succ_self _) (uZ_rng rcn (by omega)) rrt rnt rco (by omega) TM_0 H _ (hP.sub [0, 1, 2, 3, 4, 5, 6] rfl) (hD.sub [0, 1, 2, 3, 4, 5, 6] (by decide) rfl) hS ls (lv_sub hl [1, 0] rfl)
set_option maxHeartbeats 4000000 in
set_option maxRecDepth 100000 in
theorem k_M_isToldNow (l : Launch) (G : va_G) (z : tz3) (w : Nat → Nat) (it : Int) (cd : Int) (now : Int) (gr : Int) (md : Int) (dO : Int) (pcn : Int → Int) (prt : Int → Int) (pnt : Int → Int) (pco : Int → Int) (rcn : ∀ i : Int, 0 ≤ pcn i ∧ pcn i ≤ 24) (rrt : ∀ i : Int, -1 ≤ prt i ∧ prt i ≤ 63) (rnt : ∀ i : Int, 0 ≤ pnt i ∧ pnt i ≤ 63) (rco : ∀ i : Int, 0 ≤ pco i ∧ pco i ≤ 1000) (hit : 0 ≤ it ∧ it < 64) : Ki l y_M_isToldNow c_M_isToldNow 5 (some .boolean) (rmD 0) G z [.ref (w 0)] [(w 0, .inr (4, [.int (iI it), .int (iI cd), .int (iI now), .ref (w 1), .ref (w 2), .int (iI gr), .int (iI md), .ref (w 3), .ref (w 4), .ref (w 5), .ref (w 6), .ref (w 7), .ref (w 8), .int (iI dO), .ref (w 9), .ref (w 10)])), (w 5, .inl (z.1, 66, .inl (aI pcn))), (w 6, .inl (z.1, 1584, .inl (aI prt))), (w 7, .inl (z.1, 1584, .inl (aI pnt))), (w 8, .inl (z.1, 1584, .inl (aI pco)))] (fun r9 u9 => ∃ (rb : Int), u9 = [(w 0, .inr (4, [.int (iI it), .int (iI cd), .int (iI now), .ref (w 1), .ref (w 2), .int (iI gr), .int (iI md), .ref (w 3), .ref (w 4), .ref (w 5), .ref (w 6), .ref (w 7), .ref (w 8), .int (iI dO), .ref (w 9), .ref (w 10)])), (w 5, .inl (z.1, 66, .inl (aI pcn))), (w 6, .inl (z.1, 1584, .inl (aI prt))), (w 7, .inl (z.1, 1584, .inl (aI pnt))), (w 8, .inl (z.1, 1584, .inl (aI pco)))] ∧ r9 = iI rb ∧ ((rb = 1 ∧ (SAMEe pcn prt pnt pco 65 it)) ∨ (rb = 0 ∧ ¬ (SAMEe pcn prt pnt pco 65 it)))) := by
  refine Ki.of (by decide) (Nat.le_of_ble_eq_true rfl) ?_
  intro p e s m below meth c A hB hP hD ls hl
  obtain ⟨hx, hb, hRt, hml, hown, hlocks, hg, hE, hA, hin⟩ := hB
  have hown : s.vm.findClass R_M = some m.cls := hown
  have hl : lv_has ls 5 [(0, .ref (w 0))] := hl
  obtain ⟨H, hH⟩ : ∃ H, H = s.heap := ⟨_, rfl⟩
  have hS : va_S A s.heap H [] := by rw [hH]; exact va_S.rf
  rw [← hH] at hP
  rw [← hH]
  have hP : va_P G cls0 [(w 0, .inr (4, [.int (iI it), .int (iI cd), .int (iI now), .ref (w 1), .ref (w 2), .int (iI gr), .int (iI md), .ref (w 3), .ref (w 4), .ref (w 5), .ref (w 6), .ref (w 7), .ref (w 8), .int (iI dO), .ref (w 9), .ref (w 10)])), (w 5, .inl (z.1, 66, .inl (aI pcn))), (w 6, .inl (z.1, 1584, .inl (aI prt))), (w 7, .inl (z.1, 1584, .inl (aI pnt))), (w 8, .inl (z.1, 1584, .inl (aI pco)))] H := hP
  have hD : va_D A [(w 0, .inr (4, [.int (iI it), .int (iI cd), .int (iI now), .ref (w 1), .ref (w 2), .int (iI gr), .int (iI md), .ref (w 3), .ref (w 4), .ref (w 5), .ref (w 6), .ref (w 7), .ref (w 8), .int (iI dO), .ref (w 9), .ref (w 10)])), (w 5, .inl (z.1, 66, .inl (aI pcn))), (w 6, .inl (z.1, 1584, .inl (aI prt))), (w 7, .inl (z.1, 1584, .inl (aI pnt))), (w 8, .inl (z.1, 1584, .inl (aI pco)))] := hD
  refine lv_aload_n hx hb d_M_isToldNow_0 rfl (lv_at hl 0 rfl) ?_
  refine va_get (D := G) (ci := 4) (v := .ref (w 5)) (C := R_M) (T := T_M) (N := 16) hx hb hg iw_M hown hE.1 hP 0 rfl rfl 9 (by decide) (hg _ fl_M_27) (fun _ h9 => h9) rfl d_M_isToldNow_1 ?_
  refine lv_bipush (v := iI 65) hx hb d_M_isToldNow_4 (by decide +kernel) ?_
  refine rv_iald hx hb hE hP 1 rfl (i := 65) (by omega) (by omega) (by decide) d_M_isToldNow_6 ?_
  refine lv_aload_n hx hb d_M_isToldNow_7 rfl (lv_at hl 0 rfl) ?_
  refine va_get (D := G) (ci := 4) (v := .ref (w 5)) (C := R_M) (T := T_M) (N := 16) hx hb hg iw_M hown hE.1 hP 0 rfl rfl 9 (by decide) (hg _ fl_M_27) (fun _ h9 => h9) rfl d_M_isToldNow_8 ?_
  refine lv_aload_n hx hb d_M_isToldNow_11 rfl (lv_at hl 0 rfl) ?_
  refine va_get (D := G) (ci := 4) (v := .int (iI it)) (C := R_M) (T := T_M) (N := 16) hx hb hg iw_M hown hE.1 hP 0 rfl rfl 0 (by decide) (hg _ fl_M_45) (fun _ h9 => h9) rfl d_M_isToldNow_12 ?_
  refine rv_iald hx hb hE hP 1 rfl (i := it) (by omega) (by omega) (by decide) d_M_isToldNow_15 ?_
  refine rv_icmp_ne (tgt := 23) hx hb d_M_isToldNow_16 (by decide) (by (try have := rcn 65); constructor <;> omega) (by (try have := rcn it); constructor <;> omega) (fun c_1 => ?_) (fun c_1 => ?_)
  · skip
    have hSM : SM pcn prt pnt pco it 0 0 := Or.inr ⟨rfl, fun q => c_1 q.1⟩
    refine lv_iconst (v := iI 0) hx hb d_M_isToldNow_23 rfl ?_
    refine lv_istore_n (lv' := [(1, .int (iI 0)), (0, .ref (w 0))]) hx hb d_M_isToldNow_24 rfl hl (by decide) rfl (fun ls hl => ?_)
    refine lv_iconst (v := iI 0) hx hb d_M_isToldNow_25 rfl ?_
    refine lv_istore_n (lv' := [(2, .int (iI 0)), (1, .int (iI 0)), (0, .ref (w 0))]) hx hb d_M_isToldNow_26 rfl hl (by decide) rfl (fun ls hl => ?_)
    have L27 : ∀ n9 : Nat, ∀ (sm : Int) (k : Int), (24 - k : Int).toNat < n9 → (0 ≤ k ∧ k ≤ 24 ∧ (sm = 0 ∨ sm = 1)) → (SM pcn prt pnt pco it k sm) → ∀ (H : Heap) (locs : List Loc), va_P G cls0 [(w 0, .inr (4, [.int (iI it), .int (iI cd), .int (iI now), .ref (w 1), .ref (w 2), .int (iI gr), .int (iI md), .ref (w 3), .ref (w 4), .ref (w 5), .ref (w 6), .ref (w 7), .ref (w 8), .int (iI dO), .ref (w 9), .ref (w 10)])), (w 5, .inl (z.1, 66, .inl (aI pcn))), (w 6, .inl (z.1, 1584, .inl (aI prt))), (w 7, .inl (z.1, 1584, .inl (aI pnt))), (w 8, .inl (z.1, 1584, .inl (aI pco)))] H → va_D A [(w 0, .inr (4, [.int (iI it), .int (iI cd), .int (iI now), .ref (w 1), .ref (w 2), .int (iI gr), .int (iI md), .ref (w 3), .ref (w 4), .ref (w 5), .ref (w 6), .ref (w 7), .ref (w 8), .int (iI dO), .ref (w 9), .ref (w 10)])), (w 5, .inl (z.1, 66, .inl (aI pcn))), (w 6, .inl (z.1, 1584, .inl (aI prt))), (w 7, .inl (z.1, 1584, .inl (aI pnt))), (w 8, .inl (z.1, 1584, .inl (aI pco)))] → va_S A s.heap H locs → ∀ ls : Array Slot, lv_has ls 5 [(0, .ref (w 0)), (1, .int (iI sm)), (2, .int (iI k))] → W p l e (rmD 0) s m [.ref (w 0)].toArray below meth c H locs 0 0 (Zi below [.ref (w 0)].toArray s (rmD 0) G A (fun r9 u9 => ∃ (rb : Int), u9 = [(w 0, .inr (4, [.int (iI it), .int (iI cd), .int (iI now), .ref (w 1), .ref (w 2), .int (iI gr), .int (iI md), .ref (w 3), .ref (w 4), .ref (w 5), .ref (w 6), .ref (w 7), .ref (w 8), .int (iI dO), .ref (w 9), .ref (w 10)])), (w 5, .inl (z.1, 66, .inl (aI pcn))), (w 6, .inl (z.1, 1584, .inl (aI prt))), (w 7, .inl (z.1, 1584, .inl (aI pnt))), (w 8, .inl (z.1, 1584, .inl (aI pco)))] ∧ r9 = iI rb ∧ ((rb = 1 ∧ (SAMEe pcn prt pnt pco 65 it)) ∨ (rb = 0 ∧ ¬ (SAMEe pcn prt pnt pco 65 it))))) (F0 m 27 ls []) := by
      intro n9
      induction n9 with
      | zero => intro sm k hmu; exact absurd hmu (Nat.not_lt_zero _)
      | succ n9 ih27 =>
        intro sm k hmu hk hS1 H locs hP hD hS ls hl
        refine lv_iload_n hx hb d_M_isToldNow_27 rfl (lv_at hl 2 rfl) ?_
        refine lv_aload_n hx hb d_M_isToldNow_28 rfl (lv_at hl 0 rfl) ?_
        refine va_get (D := G) (ci := 4) (v := .ref (w 5)) (C := R_M) (T := T_M) (N := 16) hx hb hg iw_M hown hE.1 hP 0 rfl rfl 9 (by decide) (hg _ fl_M_27) (fun _ h9 => h9) rfl d_M_isToldNow_29 ?_
        refine lv_bipush (v := iI 65) hx hb d_M_isToldNow_32 (by decide +kernel) ?_
        refine rv_iald hx hb hE hP 1 rfl (i := 65) (by omega) (by omega) (by decide) d_M_isToldNow_34 ?_
        refine rv_icmp_ge (tgt := 119) hx hb d_M_isToldNow_35 (by decide) (by (try have := rcn 65); constructor <;> omega) (by (try have := rcn 65); (try have := rcn 65); constructor <;> omega) (fun c_2 => ?_) (fun c_2 => ?_)
        · skip
          refine lv_iload_n hx hb d_M_isToldNow_119 rfl (lv_at hl 1 rfl) ?_
          have hP9 : va_P G cls0 [(w 0, .inr (4, [.int (iI it), .int (iI cd), .int (iI now), .ref (w 1), .ref (w 2), .int (iI gr), .int (iI md), .ref (w 3), .ref (w 4), .ref (w 5), .ref (w 6), .ref (w 7), .ref (w 8), .int (iI dO), .ref (w 9), .ref (w 10)])), (w 5, .inl (z.1, 66, .inl (aI pcn))), (w 6, .inl (z.1, 1584, .inl (aI prt))), (w 7, .inl (z.1, 1584, .inl (aI pnt))), (w 8, .inl (z.1, 1584, .inl (aI pco)))] H := hP.sub [0, 1, 2, 3, 4] rfl
          have hD9 : va_D A [(w 0, .inr (4, [.int (iI it), .int (iI cd), .int (iI now), .ref (w 1), .ref (w 2), .int (iI gr), .int (iI md), .ref (w 3), .ref (w 4), .ref (w 5), .ref (w 6), .ref (w 7), .ref (w 8), .int (iI dO), .ref (w 9), .ref (w 10)])), (w 5, .inl (z.1, 66, .inl (aI pcn))), (w 6, .inl (z.1, 1584, .inl (aI prt))), (w 7, .inl (z.1, 1584, .inl (aI pnt))), (w 8, .inl (z.1, 1584, .inl (aI pco)))] := hD.sub [0, 1, 2, 3, 4] (by decide) rfl
          refine rv_iret hx hb hRt (nar_b (by omega)) hlocks (Nat.le_of_ble_eq_true rfl) (Nat.le_of_ble_eq_true rfl) hP9 hD9 hS d_M_isToldNow_120 ?_
          have hc24 := rcn 65
          rcases hS1 with ⟨x1, x2, x3⟩ | ⟨x1, x2⟩
          · subst x1
            exact ⟨1, rfl, rfl, Or.inl ⟨rfl, x2, fun j j0 j1 => x3 j j0 (by omega)⟩⟩
          · subst x1
            exact ⟨0, rfl, rfl, Or.inr ⟨rfl, x2⟩⟩
        · skip
          refine lv_iload_n hx hb d_M_isToldNow_38 rfl (lv_at hl 1 rfl) ?_
          refine rv_if_eq (tgt := 119) hx hb d_M_isToldNow_39 (by decide) (by constructor <;> omega) (fun c_3 => ?_) (fun c_3 => ?_)
          · skip
            refine lv_iload_n hx hb d_M_isToldNow_119 rfl (lv_at hl 1 rfl) ?_
            have hP9 : va_P G cls0 [(w 0, .inr (4, [.int (iI it), .int (iI cd), .int (iI now), .ref (w 1), .ref (w 2), .int (iI gr), .int (iI md), .ref (w 3), .ref (w 4), .ref (w 5), .ref (w 6), .ref (w 7), .ref (w 8), .int (iI dO), .ref (w 9), .ref (w 10)])), (w 5, .inl (z.1, 66, .inl (aI pcn))), (w 6, .inl (z.1, 1584, .inl (aI prt))), (w 7, .inl (z.1, 1584, .inl (aI pnt))), (w 8, .inl (z.1, 1584, .inl (aI pco)))] H := hP.sub [0, 1, 2, 3, 4] rfl
            have hD9 : va_D A [(w 0, .inr (4, [.int (iI it), .int (iI cd), .int (iI now), .ref (w 1), .ref (w 2), .int (iI gr), .int (iI md), .ref (w 3), .ref (w 4), .ref (w 5), .ref (w 6), .ref (w 7), .ref (w 8), .int (iI dO), .ref (w 9), .ref (w 10)])), (w 5, .inl (z.1, 66, .inl (aI pcn))), (w 6, .inl (z.1, 1584, .inl (aI prt))), (w 7, .inl (z.1, 1584, .inl (aI pnt))), (w 8, .inl (z.1, 1584, .inl (aI pco)))] := hD.sub [0, 1, 2, 3, 4] (by decide) rfl
            refine rv_iret hx hb hRt (nar_b (by omega)) hlocks (Nat.le_of_ble_eq_true rfl) (Nat.le_of_ble_eq_true rfl) hP9 hD9 hS d_M_isToldNow_120 ?_
            have hc24 := rcn 65
            rcases hS1 with ⟨x1, x2, x3⟩ | ⟨x1, x2⟩
            · subst x1
              exact ⟨1, rfl, rfl, Or.inl ⟨rfl, x2, fun j j0 j1 => x3 j j0 (by omega)⟩⟩
            · subst x1
              exact ⟨0, rfl, rfl, Or.inr ⟨rfl, x2⟩⟩
          · skip
            have hc24 := rcn 65
            have hsm1 : sm = 1 := by omega
            refine lv_sipush (v := iI 1560) hx hb d_M_isToldNow_42 (by decide +kernel) ?_
            refine lv_iload_n hx hb d_M_isToldNow_45 rfl (lv_at hl 2 rfl) ?_
            refine rv_iadd hx hb d_M_isToldNow_46 ?_
            refine lv_istore_n (lv' := [(3, .int (iI (1560 + k))), (0, .ref (w 0)), (1, .int (iI sm)), (2, .int (iI k))]) hx hb d_M_isToldNow_47 rfl hl (by decide) rfl (fun ls hl => ?_)
            refine lv_bipush (v := iI 24) hx hb d_M_isToldNow_48 (by decide +kernel) ?_
            refine lv_aload_n hx hb d_M_isToldNow_50 rfl (lv_at hl 1 rfl) ?_
            refine va_get (D := G) (ci := 4) (v := .int (iI it)) (C := R_M) (T := T_M) (N := 16) hx hb hg iw_M hown hE.1 hP 0 rfl rfl 0 (by decide) (hg _ fl_M_45) (fun _ h9 => h9) rfl d_M_isToldNow_51 ?_
            refine rv_imul hx hb d_M_isToldNow_54 ?_
            refine lv_iload_n hx hb d_M_isToldNow_55 rfl (lv_at hl 3 rfl) ?_
            refine rv_iadd hx hb d_M_isToldNow_56 ?_
            refine lv_istore (lv' := [(4, .int (iI ((24 * it) + k))), (3, .int (iI (1560 + k))), (0, .ref (w 0)), (1, .int (iI sm)), (2, .int (iI k))]) hx hb d_M_isToldNow_57 hl (by decide) rfl (fun ls hl => ?_)
            refine lv_aload_n hx hb d_M_isToldNow_59 rfl (lv_at hl 2 rfl) ?_
            refine va_get (D := G) (ci := 4) (v := .ref (w 6)) (C := R_M) (T := T_M) (N := 16) hx hb hg iw_M hown hE.1 hP 0 rfl rfl 10 (by decide) (hg _ fl_M_30) (fun _ h9 => h9) rfl d_M_isToldNow_60 ?_
            refine lv_iload_n hx hb d_M_isToldNow_63 rfl (lv_at hl 1 rfl) ?_
            refine rv_iald hx hb hE hP 2 rfl (i := 1560 + k) (by omega) (by omega) (by decide) d_M_isToldNow_64 ?_
            refine lv_aload_n hx hb d_M_isToldNow_65 rfl (lv_at hl 2 rfl) ?_
            refine va_get (D := G) (ci := 4) (v := .ref (w 6)) (C := R_M) (T := T_M) (N := 16) hx hb hg iw_M hown hE.1 hP 0 rfl rfl 10 (by decide) (hg _ fl_M_30) (fun _ h9 => h9) rfl d_M_isToldNow_66 ?_
            refine lv_iload hx hb d_M_isToldNow_69 (lv_at hl 0 rfl) ?_
            refine rv_iald hx hb hE hP 2 rfl (i := (24 * it) + k) (by omega) (by omega) (by decide) d_M_isToldNow_71 ?_
            refine rv_icmp_ne (tgt := 111) hx hb d_M_isToldNow_72 (by decide) (by (try have := rrt (1560 + k)); constructor <;> omega) (by (try have := rrt ((24 * it) + k)); constructor <;> omega) (fun c_4 => ?_) (fun c_4 => ?_)
            · skip
              have hSM : SM pcn prt pnt pco it (k + 1) 0 := SM_no (k := k) (a := 1560 + k) (b := 24 * it + k) (by omega) (by omega) (by omega) (fun q => c_4 q.1)
              refine lv_iconst (v := iI 0) hx hb d_M_isToldNow_111 rfl ?_
              refine lv_istore_n (lv' := [(1, .int (iI 0)), (4, .int (iI ((24 * it) + k))), (3, .int (iI (1560 + k))), (0, .ref (w 0)), (2, .int (iI k))]) hx hb d_M_isToldNow_112 rfl hl (by decide) rfl (fun ls hl => ?_)
              refine lv_iinc (v := iI (k + 1)) (lv' := [(2, .int (iI (k + 1))), (1, .int (iI 0)), (4, .int (iI ((24 * it) + k))), (3, .int (iI (1560 + k))), (0, .ref (w 0))]) hx hb d_M_isToldNow_113 hl (k := 4) rfl (iI_add _ _) (by decide) rfl (fun ls hl => ?_)
              refine lv_goto (tgt := 27) hx hb d_M_isToldNow_116 (by decide) ?_
              exact ih27 _ (k + 1) (by omega) (by omega) hSM H _ (hP.sub [0, 1, 2, 3, 4] rfl) (hD.sub [0, 1, 2, 3, 4] (by decide) rfl) hS ls (lv_sub hl [4, 1, 0] rfl)
            · skip
              have h1 := c_4
              refine lv_aload_n hx hb d_M_isToldNow_75 rfl (lv_at hl 2 rfl) ?_
              refine va_get (D := G) (ci := 4) (v := .ref (w 7)) (C := R_M) (T := T_M) (N := 16) hx hb hg iw_M hown hE.1 hP 0 rfl rfl 11 (by decide) (hg _ fl_M_33) (fun _ h9 => h9) rfl d_M_isToldNow_76 ?_
              refine lv_iload_n hx hb d_M_isToldNow_79 rfl (lv_at hl 1 rfl) ?_
              refine rv_iald hx hb hE hP 3 rfl (i := 1560 + k) (by omega) (by omega) (by decide) d_M_isToldNow_80 ?_
              refine lv_aload_n hx hb d_M_isToldNow_81 rfl (lv_at hl 2 rfl) ?_
              refine va_get (D := G) (ci := 4) (v := .ref (w 7)) (C := R_M) (T := T_M) (N := 16) hx hb hg iw_M hown hE.1 hP 0 rfl rfl 11 (by decide) (hg _ fl_M_33) (fun _ h9 => h9) rfl d_M_isToldNow_82 ?_
              refine lv_iload hx hb d_M_isToldNow_85 (lv_at hl 0 rfl) ?_
              refine rv_iald hx hb hE hP 3 rfl (i := (24 * it) + k) (by omega) (by omega) (by decide) d_M_isToldNow_87 ?_
              refine rv_icmp_ne (tgt := 111) hx hb d_M_isToldNow_88 (by decide) (by (try have := rnt (1560 + k)); constructor <;> omega) (by (try have := rnt ((24 * it) + k)); constructor <;> omega) (fun c_5 => ?_) (fun c_5 => ?_)
              · skip
                have hSM : SM pcn prt pnt pco it (k + 1) 0 := SM_no (k := k) (a := 1560 + k) (b := 24 * it + k) (by omega) (by omega) (by omega) (fun q => c_5 q.2.1)
                refine lv_iconst (v := iI 0) hx hb d_M_isToldNow_111 rfl ?_
                refine lv_istore_n (lv' := [(1, .int (iI 0)), (4, .int (iI ((24 * it) + k))), (3, .int (iI (1560 + k))), (0, .ref (w 0)), (2, .int (iI k))]) hx hb d_M_isToldNow_112 rfl hl (by decide) rfl (fun ls hl => ?_)
                refine lv_iinc (v := iI (k + 1)) (lv' := [(2, .int (iI (k + 1))), (1, .int (iI 0)), (4, .int (iI ((24 * it) + k))), (3, .int (iI (1560 + k))), (0, .ref (w 0))]) hx hb d_M_isToldNow_113 hl (k := 4) rfl (iI_add _ _) (by decide) rfl (fun ls hl => ?_)
                refine lv_goto (tgt := 27) hx hb d_M_isToldNow_116 (by decide) ?_
                exact ih27 _ (k + 1) (by omega) (by omega) hSM H _ (hP.sub [0, 1, 2, 3, 4] rfl) (hD.sub [0, 1, 2, 3, 4] (by decide) rfl) hS ls (lv_sub hl [4, 1, 0] rfl)
              · skip
                have h2 := c_5
                refine lv_aload_n hx hb d_M_isToldNow_91 rfl (lv_at hl 2 rfl) ?_
                refine va_get (D := G) (ci := 4) (v := .ref (w 8)) (C := R_M) (T := T_M) (N := 16) hx hb hg iw_M hown hE.1 hP 0 rfl rfl 12 (by decide) (hg _ fl_M_36) (fun _ h9 => h9) rfl d_M_isToldNow_92 ?_
                refine lv_iload_n hx hb d_M_isToldNow_95 rfl (lv_at hl 1 rfl) ?_
                refine rv_iald hx hb hE hP 4 rfl (i := 1560 + k) (by omega) (by omega) (by decide) d_M_isToldNow_96 ?_
                refine lv_aload_n hx hb d_M_isToldNow_97 rfl (lv_at hl 2 rfl) ?_
                refine va_get (D := G) (ci := 4) (v := .ref (w 8)) (C := R_M) (T := T_M) (N := 16) hx hb hg iw_M hown hE.1 hP 0 rfl rfl 12 (by decide) (hg _ fl_M_36) (fun _ h9 => h9) rfl d_M_isToldNow_98 ?_
                refine lv_iload hx hb d_M_isToldNow_101 (lv_at hl 0 rfl) ?_
                refine rv_iald hx hb hE hP 4 rfl (i := (24 * it) + k) (by omega) (by omega) (by decide) d_M_isToldNow_103 ?_
                refine rv_icmp_ne (tgt := 111) hx hb d_M_isToldNow_104 (by decide) (by (try have := rco (1560 + k)); constructor <;> omega) (by (try have := rco ((24 * it) + k)); constructor <;> omega) (fun c_6 => ?_) (fun c_6 => ?_)
                · skip
                  have hSM : SM pcn prt pnt pco it (k + 1) 0 := SM_no (k := k) (a := 1560 + k) (b := 24 * it + k) (by omega) (by omega) (by omega) (fun q => c_6 q.2.2)
                  refine lv_iconst (v := iI 0) hx hb d_M_isToldNow_111 rfl ?_
                  refine lv_istore_n (lv' := [(1, .int (iI 0)), (4, .int (iI ((24 * it) + k))), (3, .int (iI (1560 + k))), (0, .ref (w 0)), (2, .int (iI k))]) hx hb d_M_isToldNow_112 rfl hl (by decide) rfl (fun ls hl => ?_)
                  refine lv_iinc (v := iI (k + 1)) (lv' := [(2, .int (iI (k + 1))), (1, .int (iI 0)), (4, .int (iI ((24 * it) + k))), (3, .int (iI (1560 + k))), (0, .ref (w 0))]) hx hb d_M_isToldNow_113 hl (k := 4) rfl (iI_add _ _) (by decide) rfl (fun ls hl => ?_)
                  refine lv_goto (tgt := 27) hx hb d_M_isToldNow_116 (by decide) ?_
                  exact ih27 _ (k + 1) (by omega) (by omega) hSM H _ (hP.sub [0, 1, 2, 3, 4] rfl) (hD.sub [0, 1, 2, 3, 4] (by decide) rfl) hS ls (lv_sub hl [4, 1, 0] rfl)
                · skip
                  have hSM : SM pcn prt pnt pco it (k + 1) 1 := SM_yes (by rw [← hsm1]; exact hS1) (a := 1560 + k) (b := 24 * it + k) (by omega) (by omega) h1 h2 c_6
                  refine lv_iconst (v := iI 1) hx hb d_M_isToldNow_107 rfl ?_
                  refine lv_goto (tgt := 112) hx hb d_M_isToldNow_108 (by decide) ?_
                  refine lv_istore_n (lv' := [(1, .int (iI 1)), (4, .int (iI ((24 * it) + k))), (3, .int (iI (1560 + k))), (0, .ref (w 0)), (2, .int (iI k))]) hx hb d_M_isToldNow_112 rfl hl (by decide) rfl (fun ls hl => ?_)
                  refine lv_iinc (v := iI (k + 1)) (lv' := [(2, .int (iI (k + 1))), (1, .int (iI 1)), (4, .int (iI ((24 * it) + k))), (3, .int (iI (1560 + k))), (0, .ref (w 0))]) hx hb d_M_isToldNow_113 hl (k := 4) rfl (iI_add _ _) (by decide) rfl (fun ls hl => ?_)
                  refine lv_goto (tgt := 27) hx hb d_M_isToldNow_116 (by decide) ?_
                  exact ih27 _ (k + 1) (by omega) (by omega) hSM H _ (hP.sub [0, 1, 2, 3, 4] rfl) (hD.sub [0, 1, 2, 3, 4] (by decide) rfl) hS ls (lv_sub hl [4, 1, 0] rfl)
    exact L27 ((24 - 0 : Int).toNat + 1) _ 0 (Nat.lt_succ_self _) (by omega) hSM H _ (hP.sub [0, 1, 2, 3, 4] rfl) (hD.sub [0, 1, 2, 3, 4] (by decide) rfl) hS ls (lv_sub hl [2, 1, 0] rfl)
  · skip
    have hSM : SM pcn prt pnt pco it 0 1 := Or.inl ⟨rfl, c_1, fun j j0 j1 => absurd j1 (by omega)⟩
    refine lv_iconst (v := iI 1) hx hb d_M_isToldNow_19 rfl ?_
    refine lv_goto (tgt := 24) hx hb d_M_isToldNow_20 (by decide) ?_
    refine lv_istore_n (lv' := [(1, .int (iI 1)), (0, .ref (w 0))]) hx hb d_M_isToldNow_24 rfl hl (by decide) rfl (fun ls hl => ?_)
    refine lv_iconst (v := iI 0) hx hb d_M_isToldNow_25 rfl ?_
    refine lv_istore_n (lv' := [(2, .int (iI 0)), (1, .int (iI 1)), (0, .ref (w 0))]) hx hb d_M_isToldNow_26 rfl hl (by decide) rfl (fun ls hl => ?_)
    have L27 : ∀ n9 : Nat, ∀ (sm : Int) (k : Int), (24 - k : Int).toNat < n9 → (0 ≤ k ∧ k ≤ 24 ∧ (sm = 0 ∨ sm = 1)) → (SM pcn prt pnt pco it k sm) → ∀ (H : Heap) (locs : List Loc), va_P G cls0 [(w 0, .inr (4, [.int (iI it), .int (iI cd), .int (iI now), .ref (w 1), .ref (w 2), .int (iI gr), .int (iI md), .ref (w 3), .ref (w 4), .ref (w 5), .ref (w 6), .ref (w 7), .ref (w 8), .int (iI dO), .ref (w 9), .ref (w 10)])), (w 5, .inl (z.1, 66, .inl (aI pcn))), (w 6, .inl (z.1, 1584, .inl (aI prt))), (w 7, .inl (z.1, 1584, .inl (aI pnt))), (w 8, .inl (z.1, 1584, .inl (aI pco)))] H → va_D A [(w 0, .inr (4, [.int (iI it), .int (iI cd), .int (iI now), .ref (w 1), .ref (w 2), .int (iI gr), .int (iI md), .ref (w 3), .ref (w 4), .ref (w 5), .ref (w 6), .ref (w 7), .ref (w 8), .int (iI dO), .ref (w 9), .ref (w 10)])), (w 5, .inl (z.1, 66, .inl (aI pcn))), (w 6, .inl (z.1, 1584, .inl (aI prt))), (w 7, .inl (z.1, 1584, .inl (aI pnt))), (w 8, .inl (z.1, 1584, .inl (aI pco)))] → va_S A s.heap H locs → ∀ ls : Array Slot, lv_has ls 5 [(0, .ref (w 0)), (1, .int (iI sm)), (2, .int (iI k))] → W p l e (rmD 0) s m [.ref (w 0)].toArray below meth c H locs 0 0 (Zi below [.ref (w 0)].toArray s (rmD 0) G A (fun r9 u9 => ∃ (rb : Int), u9 = [(w 0, .inr (4, [.int (iI it), .int (iI cd), .int (iI now), .ref (w 1), .ref (w 2), .int (iI gr), .int (iI md), .ref (w 3), .ref (w 4), .ref (w 5), .ref (w 6), .ref (w 7), .ref (w 8), .int (iI dO), .ref (w 9), .ref (w 10)])), (w 5, .inl (z.1, 66, .inl (aI pcn))), (w 6, .inl (z.1, 1584, .inl (aI prt))), (w 7, .inl (z.1, 1584, .inl (aI pnt))), (w 8, .inl (z.1, 1584, .inl (aI pco)))] ∧ r9 = iI rb ∧ ((rb = 1 ∧ (SAMEe pcn prt pnt pco 65 it)) ∨ (rb = 0 ∧ ¬ (SAMEe pcn prt pnt pco 65 it))))) (F0 m 27 ls []) := by
      intro n9
      induction n9 with
      | zero => intro sm k hmu; exact absurd hmu (Nat.not_lt_zero _)
      | succ n9 ih27 =>
        intro sm k hmu hk hS1 H locs hP hD hS ls hl
        refine lv_iload_n hx hb d_M_isToldNow_27 rfl (lv_at hl 2 rfl) ?_
        refine lv_aload_n hx hb d_M_isToldNow_28 rfl (lv_at hl 0 rfl) ?_
        refine va_get (D := G) (ci := 4) (v := .ref (w 5)) (C := R_M) (T := T_M) (N := 16) hx hb hg iw_M hown hE.1 hP 0 rfl rfl 9 (by decide) (hg _ fl_M_27) (fun _ h9 => h9) rfl d_M_isToldNow_29 ?_
        refine lv_bipush (v := iI 65) hx hb d_M_isToldNow_32 (by decide +kernel) ?_
        refine rv_iald hx hb hE hP 1 rfl (i := 65) (by omega) (by omega) (by decide) d_M_isToldNow_34 ?_
        refine rv_icmp_ge (tgt := 119) hx hb d_M_isToldNow_35 (by decide) (by (try have := rcn 65); constructor <;> omega) (by (try have := rcn 65); (try have := rcn 65); constructor <;> omega) (fun c_7 => ?_) (fun c_7 => ?_)
        · skip
          refine lv_iload_n hx hb d_M_isToldNow_119 rfl (lv_at hl 1 rfl) ?_
          have hP9 : va_P G cls0 [(w 0, .inr (4, [.int (iI it), .int (iI cd), .int (iI now), .ref (w 1), .ref (w 2), .int (iI gr), .int (iI md), .ref (w 3), .ref (w 4), .ref (w 5), .ref (w 6), .ref (w 7), .ref (w 8), .int (iI dO), .ref (w 9), .ref (w 10)])), (w 5, .inl (z.1, 66, .inl (aI pcn))), (w 6, .inl (z.1, 1584, .inl (aI prt))), (w 7, .inl (z.1, 1584, .inl (aI pnt))), (w 8, .inl (z.1, 1584, .inl (aI pco)))] H := hP.sub [0, 1, 2, 3, 4] rfl
          have hD9 : va_D A [(w 0, .inr (4, [.int (iI it), .int (iI cd), .int (iI now), .ref (w 1), .ref (w 2), .int (iI gr), .int (iI md), .ref (w 3), .ref (w 4), .ref (w 5), .ref (w 6), .ref (w 7), .ref (w 8), .int (iI dO), .ref (w 9), .ref (w 10)])), (w 5, .inl (z.1, 66, .inl (aI pcn))), (w 6, .inl (z.1, 1584, .inl (aI prt))), (w 7, .inl (z.1, 1584, .inl (aI pnt))), (w 8, .inl (z.1, 1584, .inl (aI pco)))] := hD.sub [0, 1, 2, 3, 4] (by decide) rfl
          refine rv_iret hx hb hRt (nar_b (by omega)) hlocks (Nat.le_of_ble_eq_true rfl) (Nat.le_of_ble_eq_true rfl) hP9 hD9 hS d_M_isToldNow_120 ?_
          have hc24 := rcn 65
          rcases hS1 with ⟨x1, x2, x3⟩ | ⟨x1, x2⟩
          · subst x1
            exact ⟨1, rfl, rfl, Or.inl ⟨rfl, x2, fun j j0 j1 => x3 j j0 (by omega)⟩⟩
          · subst x1
            exact ⟨0, rfl, rfl, Or.inr ⟨rfl, x2⟩⟩
        · skip
          refine lv_iload_n hx hb d_M_isToldNow_38 rfl (lv_at hl 1 rfl) ?_
          refine rv_if_eq (tgt := 119) hx hb d_M_isToldNow_39 (by decide) (by constructor <;> omega) (fun c_8 => ?_) (fun c_8 => ?_)
          · skip
            refine lv_iload_n hx hb d_M_isToldNow_119 rfl (lv_at hl 1 rfl) ?_
            have hP9 : va_P G cls0 [(w 0, .inr (4, [.int (iI it), .int (iI cd), .int (iI now), .ref (w 1), .ref (w 2), .int (iI gr), .int (iI md), .ref (w 3), .ref (w 4), .ref (w 5), .ref (w 6), .ref (w 7), .ref (w 8), .int (iI dO), .ref (w 9), .ref (w 10)])), (w 5, .inl (z.1, 66, .inl (aI pcn))), (w 6, .inl (z.1, 1584, .inl (aI prt))), (w 7, .inl (z.1, 1584, .inl (aI pnt))), (w 8, .inl (z.1, 1584, .inl (aI pco)))] H := hP.sub [0, 1, 2, 3, 4] rfl
            have hD9 : va_D A [(w 0, .inr (4, [.int (iI it), .int (iI cd), .int (iI now), .ref (w 1), .ref (w 2), .int (iI gr), .int (iI md), .ref (w 3), .ref (w 4), .ref (w 5), .ref (w 6), .ref (w 7), .ref (w 8), .int (iI dO), .ref (w 9), .ref (w 10)])), (w 5, .inl (z.1, 66, .inl (aI pcn))), (w 6, .inl (z.1, 1584, .inl (aI prt))), (w 7, .inl (z.1, 1584, .inl (aI pnt))), (w 8, .inl (z.1, 1584, .inl (aI pco)))] := hD.sub [0, 1, 2, 3, 4] (by decide) rfl
            refine rv_iret hx hb hRt (nar_b (by omega)) hlocks (Nat.le_of_ble_eq_true rfl) (Nat.le_of_ble_eq_true rfl) hP9 hD9 hS d_M_isToldNow_120 ?_
            have hc24 := rcn 65
            rcases hS1 with ⟨x1, x2, x3⟩ | ⟨x1, x2⟩
            · subst x1
              exact ⟨1, rfl, rfl, Or.inl ⟨rfl, x2, fun j j0 j1 => x3 j j0 (by omega)⟩⟩
            · subst x1
              exact ⟨0, rfl, rfl, Or.inr ⟨rfl, x2⟩⟩
          · skip
            have hc24 := rcn 65
            have hsm1 : sm = 1 := by omega
            refine lv_sipush (v := iI 1560) hx hb d_M_isToldNow_42 (by decide +kernel) ?_
            refine lv_iload_n hx hb d_M_isToldNow_45 rfl (lv_at hl 2 rfl) ?_
            refine rv_iadd hx hb d_M_isToldNow_46 ?_
            refine lv_istore_n (lv' := [(3, .int (iI (1560 + k))), (0, .ref (w 0)), (1, .int (iI sm)), (2, .int (iI k))]) hx hb d_M_isToldNow_47 rfl hl (by decide) rfl (fun ls hl => ?_)
            refine lv_bipush (v := iI 24) hx hb d_M_isToldNow_48 (by decide +kernel) ?_
            refine lv_aload_n hx hb d_M_isToldNow_50 rfl (lv_at hl 1 rfl) ?_
            refine va_get (D := G) (ci := 4) (v := .int (iI it)) (C := R_M) (T := T_M) (N := 16) hx hb hg iw_M hown hE.1 hP 0 rfl rfl 0 (by decide) (hg _ fl_M_45) (fun _ h9 => h9) rfl d_M_isToldNow_51 ?_
            refine rv_imul hx hb d_M_isToldNow_54 ?_
            refine lv_iload_n hx hb d_M_isToldNow_55 rfl (lv_at hl 3 rfl) ?_
            refine rv_iadd hx hb d_M_isToldNow_56 ?_
            refine lv_istore (lv' := [(4, .int (iI ((24 * it) + k))), (3, .int (iI (1560 + k))), (0, .ref (w 0)), (1, .int (iI sm)), (2, .int (iI k))]) hx hb d_M_isToldNow_57 hl (by decide) rfl (fun ls hl => ?_)
            refine lv_aload_n hx hb d_M_isToldNow_59 rfl (lv_at hl 2 rfl) ?_
            refine va_get (D := G) (ci := 4) (v := .ref (w 6)) (C := R_M) (T := T_M) (N := 16) hx hb hg iw_M hown hE.1 hP 0 rfl rfl 10 (by decide) (hg _ fl_M_30) (fun _ h9 => h9) rfl d_M_isToldNow_60 ?_
            refine lv_iload_n hx hb d_M_isToldNow_63 rfl (lv_at hl 1 rfl) ?_
            refine rv_iald hx hb hE hP 2 rfl (i := 1560 + k) (by omega) (by omega) (by decide) d_M_isToldNow_64 ?_
            refine lv_aload_n hx hb d_M_isToldNow_65 rfl (lv_at hl 2 rfl) ?_
            refine va_get (D := G) (ci := 4) (v := .ref (w 6)) (C := R_M) (T := T_M) (N := 16) hx hb hg iw_M hown hE.1 hP 0 rfl rfl 10 (by decide) (hg _ fl_M_30) (fun _ h9 => h9) rfl d_M_isToldNow_66 ?_
            refine lv_iload hx hb d_M_isToldNow_69 (lv_at hl 0 rfl) ?_
            refine rv_iald hx hb hE hP 2 rfl (i := (24 * it) + k) (by omega) (by omega) (by decide) d_M_isToldNow_71 ?_
            refine rv_icmp_ne (tgt := 111) hx hb d_M_isToldNow_72 (by decide) (by (try have := rrt (1560 + k)); constructor <;> omega) (by (try have := rrt ((24 * it) + k)); constructor <;> omega) (fun c_9 => ?_) (fun c_9 => ?_)
            · skip
              have hSM : SM pcn prt pnt pco it (k + 1) 0 := SM_no (k := k) (a := 1560 + k) (b := 24 * it + k) (by omega) (by omega) (by omega) (fun q => c_9 q.1)
              refine lv_iconst (v := iI 0) hx hb d_M_isToldNow_111 rfl ?_
              refine lv_istore_n (lv' := [(1, .int (iI 0)), (4, .int (iI ((24 * it) + k))), (3, .int (iI (1560 + k))), (0, .ref (w 0)), (2, .int (iI k))]) hx hb d_M_isToldNow_112 rfl hl (by decide) rfl (fun ls hl => ?_)
              refine lv_iinc (v := iI (k + 1)) (lv' := [(2, .int (iI (k + 1))), (1, .int (iI 0)), (4, .int (iI ((24 * it) + k))), (3, .int (iI (1560 + k))), (0, .ref (w 0))]) hx hb d_M_isToldNow_113 hl (k := 4) rfl (iI_add _ _) (by decide) rfl (fun ls hl => ?_)
              refine lv_goto (tgt := 27) hx hb d_M_isToldNow_116 (by decide) ?_
              exact ih27 _ (k + 1) (by omega) (by omega) hSM H _ (hP.sub [0, 1, 2, 3, 4] rfl) (hD.sub [0, 1, 2, 3, 4] (by decide) rfl) hS ls (lv_sub hl [4, 1, 0] rfl)
            · skip
              have h1 := c_9
              refine lv_aload_n hx hb d_M_isToldNow_75 rfl (lv_at hl 2 rfl) ?_
              refine va_get (D := G) (ci := 4) (v := .ref (w 7)) (C := R_M) (T := T_M) (N := 16) hx hb hg iw_M hown hE.1 hP 0 rfl rfl 11 (by decide) (hg _ fl_M_33) (fun _ h9 => h9) rfl d_M_isToldNow_76 ?_
              refine lv_iload_n hx hb d_M_isToldNow_79 rfl (lv_at hl 1 rfl) ?_
              refine rv_iald hx hb hE hP 3 rfl (i := 1560 + k) (by omega) (by omega) (by decide) d_M_isToldNow_80 ?_
              refine lv_aload_n hx hb d_M_isToldNow_81 rfl (lv_at hl 2 rfl) ?_
              refine va_get (D := G) (ci := 4) (v := .ref (w 7)) (C := R_M) (T := T_M) (N := 16) hx hb hg iw_M hown hE.1 hP 0 rfl rfl 11 (by decide) (hg _ fl_M_33) (fun _ h9 => h9) rfl d_M_isToldNow_82 ?_
              refine lv_iload hx hb d_M_isToldNow_85 (lv_at hl 0 rfl) ?_
              refine rv_iald hx hb hE hP 3 rfl (i := (24 * it) + k) (by omega) (by omega) (by decide) d_M_isToldNow_87 ?_
              refine rv_icmp_ne (tgt := 111) hx hb d_M_isToldNow_88 (by decide) (by (try have := rnt (1560 + k)); constructor <;> omega) (by (try have := rnt ((24 * it) + k)); constructor <;> omega) (fun c_10 => ?_) (fun c_10 => ?_)
              · skip
                have hSM : SM pcn prt pnt pco it (k + 1) 0 := SM_no (k := k) (a := 1560 + k) (b := 24 * it + k) (by omega) (by omega) (by omega) (fun q => c_10 q.2.1)
                refine lv_iconst (v := iI 0) hx hb d_M_isToldNow_111 rfl ?_
                refine lv_istore_n (lv' := [(1, .int (iI 0)), (4, .int (iI ((24 * it) + k))), (3, .int (iI (1560 + k))), (0, .ref (w 0)), (2, .int (iI k))]) hx hb d_M_isToldNow_112 rfl hl (by decide) rfl (fun ls hl => ?_)
                refine lv_iinc (v := iI (k + 1)) (lv' := [(2, .int (iI (k + 1))), (1, .int (iI 0)), (4, .int (iI ((24 * it) + k))), (3, .int (iI (1560 + k))), (0, .ref (w 0))]) hx hb d_M_isToldNow_113 hl (k := 4) rfl (iI_add _ _) (by decide) rfl (fun ls hl => ?_)
                refine lv_goto (tgt := 27) hx hb d_M_isToldNow_116 (by decide) ?_
                exact ih27 _ (k + 1) (by omega) (by omega) hSM H _ (hP.sub [0, 1, 2, 3, 4] rfl) (hD.sub [0, 1, 2, 3, 4] (by decide) rfl) hS ls (lv_sub hl [4, 1, 0] rfl)
              · skip
                have h2 := c_10
                refine lv_aload_n hx hb d_M_isToldNow_91 rfl (lv_at hl 2 rfl) ?_
                refine va_get (D := G) (ci := 4) (v := .ref (w 8)) (C := R_M) (T := T_M) (N := 16) hx hb hg iw_M hown hE.1 hP 0 rfl rfl 12 (by decide) (hg _ fl_M_36) (fun _ h9 => h9) rfl d_M_isToldNow_92 ?_
                refine lv_iload_n hx hb d_M_isToldNow_95 rfl (lv_at hl 1 rfl) ?_
                refine rv_iald hx hb hE hP 4 rfl (i := 1560 + k) (by omega) (by omega) (by decide) d_M_isToldNow_96 ?_
                refine lv_aload_n hx hb d_M_isToldNow_97 rfl (lv_at hl 2 rfl) ?_
                refine va_get (D := G) (ci := 4) (v := .ref (w 8)) (C := R_M) (T := T_M) (N := 16) hx hb hg iw_M hown hE.1 hP 0 rfl rfl 12 (by decide) (hg _ fl_M_36) (fun _ h9 => h9) rfl d_M_isToldNow_98 ?_
                refine lv_iload hx hb d_M_isToldNow_101 (lv_at hl 0 rfl) ?_
                refine rv_iald hx hb hE hP 4 rfl (i := (24 * it) + k) (by omega) (by omega) (by decide) d_M_isToldNow_103 ?_
                refine rv_icmp_ne (tgt := 111) hx hb d_M_isToldNow_104 (by decide) (by (try have := rco (1560 + k)); constructor <;> omega) (by (try have := rco ((24 * it) + k)); constructor <;> omega) (fun c_11 => ?_) (fun c_11 => ?_)
                · skip
                  have hSM : SM pcn prt pnt pco it (k + 1) 0 := SM_no (k := k) (a := 1560 + k) (b := 24 * it + k) (by omega) (by omega) (by omega) (fun q => c_11 q.2.2)
                  refine lv_iconst (v := iI 0) hx hb d_M_isToldNow_111 rfl ?_
                  refine lv_istore_n (lv' := [(1, .int (iI 0)), (4, .int (iI ((24 * it) + k))), (3, .int (iI (1560 + k))), (0, .ref (w 0)), (2, .int (iI k))]) hx hb d_M_isToldNow_112 rfl hl (by decide) rfl (fun ls hl => ?_)
                  refine lv_iinc (v := iI (k + 1)) (lv' := [(2, .int (iI (k + 1))), (1, .int (iI 0)), (4, .int (iI ((24 * it) + k))), (3, .int (iI (1560 + k))), (0, .ref (w 0))]) hx hb d_M_isToldNow_113 hl (k := 4) rfl (iI_add _ _) (by decide) rfl (fun ls hl => ?_)
                  refine lv_goto (tgt := 27) hx hb d_M_isToldNow_116 (by decide) ?_
                  exact ih27 _ (k + 1) (by omega) (by omega) hSM H _ (hP.sub [0, 1, 2, 3, 4] rfl) (hD.sub [0, 1, 2, 3, 4] (by decide) rfl) hS ls (lv_sub hl [4, 1, 0] rfl)
                · skip
                  have hSM : SM pcn prt pnt pco it (k + 1) 1 := SM_yes (by rw [← hsm1]; exact hS1) (a := 1560 + k) (b := 24 * it + k) (by omega) (by omega) h1 h2 c_11
                  refine lv_iconst (v := iI 1) hx hb d_M_isToldNow_107 rfl ?_
                  refine lv_goto (tgt := 112) hx hb d_M_isToldNow_108 (by decide) ?_
                  refine lv_istore_n (lv' := [(1, .int (iI 1)), (4, .int (iI ((24 * it) + k))), (3, .int (iI (1560 + k))), (0, .ref (w 0)), (2, .int (iI k))]) hx hb d_M_isToldNow_112 rfl hl (by decide) rfl (fun ls hl => ?_)
                  refine lv_iinc (v := iI (k + 1)) (lv' := [(2, .int (iI (k + 1))), (1, .int (iI 1)), (4, .int (iI ((24 * it) + k))), (3, .int (iI (1560 + k))), (0, .ref (w 0))]) hx hb d_M_isToldNow_113 hl (k := 4) rfl (iI_add _ _) (by decide) rfl (fun ls hl => ?_)
                  refine lv_goto (tgt := 27) hx hb d_M_isToldNow_116 (by decide) ?_
                  exact ih27 _ (k + 1) (by omega) (by omega) hSM H _ (hP.sub [0, 1, 2, 3, 4] rfl) (hD.sub [0, 1, 2, 3, 4] (by decide) rfl) hS ls (lv_sub hl [4, 1, 0] rfl)
    exact L27 ((24 - 0 : Int).toNat + 1) _ 0 (Nat.lt_succ_self _) (by omega) hSM H _ (hP.sub [0, 1, 2, 3, 4] rfl) (hD.sub [0, 1, 2, 3, 4] (by decide) rfl) hS ls (lv_sub hl [2, 1, 0] rfl)
