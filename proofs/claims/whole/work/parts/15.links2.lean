set_option maxHeartbeats 4000000 in
set_option maxRecDepth 100000 in
theorem k_K_setPort (l : Launch) (G : va_G) (z : tz3) (q : Nat → Nat) (fpo : Int → Int) (ffr : Int → Int) (pn : Int) (fn : Int) (net : Int) (cost : Int) (rpo : ∀ i : Int, 0 ≤ fpo i ∧ fpo i ≤ 1000) (rfr : ∀ i : Int, 0 ≤ ffr i ∧ ffr i ≤ 4095) (hfn : 0 ≤ fn ∧ fn ≤ 16) (hpn : 0 ≤ pn ∧ pn ≤ 8) (hs : srt ffr fn) (hnet : 0 ≤ net ∧ net < 64) (hcost : 0 ≤ cost ∧ cost ≤ 1000) : Ki l y_K_setPort c_K_setPort 4 (some .int) (rmD 2) G z [.ref (q 1), .int (iI net), .int (iI cost)] [(q 1, .inr (1, [.ref (q 4), .ref (q 5), .int (iI pn), .int (iI fn)])), (q 4, .inl (z.1, 64, .inl (aI fpo))), (q 5, .inl (z.1, 16, .inl (aI ffr)))] (fun r9 u9 => ∃ (g : Int → Int) (fn2 : Int) (pn2 : Int), u9 = [(q 1, .inr (1, [.ref (q 4), .ref (q 5), .int (iI pn2), .int (iI fn2)])), (q 4, .inl (z.1, 64, .inl (aI (uZ fpo net cost)))), (q 5, .inl (z.1, 16, .inl (aI g)))] ∧ r9 = iI (fpo net) ∧ (∀ i : Int, 0 ≤ g i ∧ g i ≤ 4095) ∧ (srt g fn2) ∧ (∀ s : Int, memF g fn2 s ↔ (memF ffr fn s ∧ ¬ (fpo net ≠ 0 ∧ cost = 0 ∧ 64 * net ≤ s ∧ s ≤ 64 * net + 63))) ∧ (0 ≤ fn2 ∧ fn2 ≤ fn) ∧ ((fpo net = 0 ∧ cost ≠ 0 ∧ pn2 = pn + 1) ∨ (fpo net ≠ 0 ∧ cost = 0 ∧ pn2 = pn - 1) ∨ ((fpo net = 0 ∧ cost = 0 ∨ fpo net ≠ 0 ∧ cost ≠ 0) ∧ pn2 = pn))) := by
  refine Ki.of (by decide) (Nat.le_of_ble_eq_true rfl) ?_
  intro p e s m below meth c A hB hP hD ls hl
  obtain ⟨hx, hb, hRt, hml, hown, hlocks, hg, hE, hA, hin⟩ := hB
  have hown : s.vm.findClass R_K = some m.cls := hown
  have hl : lv_has ls 4 [(0, .ref (q 1)), (1, .int (iI net)), (2, .int (iI cost))] := hl
  obtain ⟨H, hH⟩ : ∃ H, H = s.heap := ⟨_, rfl⟩
  have hS : va_S A s.heap H [] := by rw [hH]; exact va_S.rf
  rw [← hH] at hP
  rw [← hH]
  have hP : va_P G cls0 [(q 1, .inr (1, [.ref (q 4), .ref (q 5), .int (iI pn), .int (iI fn)])), (q 4, .inl (z.1, 64, .inl (aI fpo))), (q 5, .inl (z.1, 16, .inl (aI ffr)))] H := hP
  have hD : va_D A [(q 1, .inr (1, [.ref (q 4), .ref (q 5), .int (iI pn), .int (iI fn)])), (q 4, .inl (z.1, 64, .inl (aI fpo))), (q 5, .inl (z.1, 16, .inl (aI ffr)))] := hD
  refine lv_aload_n hx hb d_K_setPort_0 rfl (lv_at hl 0 rfl) ?_
  refine va_get (D := G) (ci := 1) (v := .ref (q 4)) (C := R_K) (T := T_K) (N := 4) hx hb hg iw_K hown hE.1 hP 0 rfl rfl 0 (by decide) (hg _ fl_K_9) (fun _ h9 => h9) rfl d_K_setPort_1 ?_
  refine lv_iload_n hx hb d_K_setPort_4 rfl (lv_at hl 1 rfl) ?_
  refine rv_iald hx hb hE hP 1 rfl (i := net) (by omega) (by omega) (by decide) d_K_setPort_5 ?_
  refine lv_istore_n (lv' := [(3, .int (iI (fpo net))), (0, .ref (q 1)), (1, .int (iI net)), (2, .int (iI cost))]) hx hb d_K_setPort_6 rfl hl (by decide) rfl (fun ls hl => ?_)
  refine lv_aload_n hx hb d_K_setPort_7 rfl (lv_at hl 1 rfl) ?_
  refine va_get (D := G) (ci := 1) (v := .ref (q 4)) (C := R_K) (T := T_K) (N := 4) hx hb hg iw_K hown hE.1 hP 0 rfl rfl 0 (by decide) (hg _ fl_K_9) (fun _ h9 => h9) rfl d_K_setPort_8 ?_
  refine lv_iload_n hx hb d_K_setPort_11 rfl (lv_at hl 2 rfl) ?_
  refine lv_iload_n hx hb d_K_setPort_12 rfl (lv_at hl 3 rfl) ?_
  refine rv_iast hx hb hE hP hD hS 1 rfl (i := net) (x := cost) (by omega) (by omega) (by decide) d_K_setPort_13 (fun H locs hP hD hS => ?_)
  have hP : va_P G cls0 [(q 1, .inr (1, [.ref (q 4), .ref (q 5), .int (iI pn), .int (iI fn)])), (q 4, .inl (z.1, 64, .inl (aI (uZ fpo net cost)))), (q 5, .inl (z.1, 16, .inl (aI ffr)))] H := hP
  have hD : va_D A [(q 1, .inr (1, [.ref (q 4), .ref (q 5), .int (iI pn), .int (iI fn)])), (q 4, .inl (z.1, 64, .inl (aI (uZ fpo net cost)))), (q 5, .inl (z.1, 16, .inl (aI ffr)))] := hD
  refine lv_iload_n hx hb d_K_setPort_14 rfl (lv_at hl 0 rfl) ?_
  refine rv_if_ne (tgt := 32) hx hb d_K_setPort_15 (by decide) (by (try have := rpo net); constructor <;> omega) (fun c_1 => ?_) (fun c_1 => ?_)
  · skip
    refine lv_iload_n hx hb d_K_setPort_32 rfl (lv_at hl 0 rfl) ?_
    refine rv_if_eq (tgt := 55) hx hb d_K_setPort_33 (by decide) (by (try have := rpo net); constructor <;> omega) (fun c_2 => ?_) (fun c_2 => ?_)
    · skip
      refine lv_iload_n hx hb d_K_setPort_55 rfl (lv_at hl 0 rfl) ?_
      have hP9 : va_P G cls0 [(q 1, .inr (1, [.ref (q 4), .ref (q 5), .int (iI pn), .int (iI fn)])), (q 4, .inl (z.1, 64, .inl (aI (uZ fpo net cost)))), (q 5, .inl (z.1, 16, .inl (aI ffr)))] H := hP.sub [0, 1, 2] rfl
      have hD9 : va_D A [(q 1, .inr (1, [.ref (q 4), .ref (q 5), .int (iI pn), .int (iI fn)])), (q 4, .inl (z.1, 64, .inl (aI (uZ fpo net cost)))), (q 5, .inl (z.1, 16, .inl (aI ffr)))] := hD.sub [0, 1, 2] (by decide) rfl
      refine rv_iret hx hb hRt (nar_int _) hlocks (Nat.le_of_ble_eq_true rfl) (Nat.le_of_ble_eq_true rfl) hP9 hD9 hS d_K_setPort_56 ?_
      exact ⟨ffr, fn, pn, rfl, rfl, (by first | exact f1 | exact rfr), (by first | exact f2 | exact hs), (fun s => by first | (rw [f3 s]; constructor <;> (rintro ⟨a, b⟩; exact ⟨a, by omega⟩)) | exact ⟨fun a => ⟨a, by omega⟩, fun a => a.1⟩), (by omega), (by (try have := rpo net); omega)⟩
    · skip
      refine lv_iload_n hx hb d_K_setPort_36 rfl (lv_at hl 3 rfl) ?_
      refine rv_if_ne (tgt := 55) hx hb d_K_setPort_37 (by decide) (by constructor <;> omega) (fun c_3 => ?_) (fun c_3 => ?_)
      · skip
        refine lv_iload_n hx hb d_K_setPort_55 rfl (lv_at hl 0 rfl) ?_
        have hP9 : va_P G cls0 [(q 1, .inr (1, [.ref (q 4), .ref (q 5), .int (iI pn), .int (iI fn)])), (q 4, .inl (z.1, 64, .inl (aI (uZ fpo net cost)))), (q 5, .inl (z.1, 16, .inl (aI ffr)))] H := hP.sub [0, 1, 2] rfl
        have hD9 : va_D A [(q 1, .inr (1, [.ref (q 4), .ref (q 5), .int (iI pn), .int (iI fn)])), (q 4, .inl (z.1, 64, .inl (aI (uZ fpo net cost)))), (q 5, .inl (z.1, 16, .inl (aI ffr)))] := hD.sub [0, 1, 2] (by decide) rfl
        refine rv_iret hx hb hRt (nar_int _) hlocks (Nat.le_of_ble_eq_true rfl) (Nat.le_of_ble_eq_true rfl) hP9 hD9 hS d_K_setPort_56 ?_
        exact ⟨ffr, fn, pn, rfl, rfl, (by first | exact f1 | exact rfr), (by first | exact f2 | exact hs), (fun s => by first | (rw [f3 s]; constructor <;> (rintro ⟨a, b⟩; exact ⟨a, by omega⟩)) | exact ⟨fun a => ⟨a, by omega⟩, fun a => a.1⟩), (by omega), (by (try have := rpo net); omega)⟩
      · skip
        refine lv_aload_n hx hb d_K_setPort_40 rfl (lv_at hl 1 rfl) ?_
        refine lv_dup hx hb d_K_setPort_41 rfl ?_
        refine va_get (D := G) (ci := 1) (v := .int (iI pn)) (C := R_K) (T := T_K) (N := 4) hx hb hg iw_K hown hE.1 hP 0 rfl rfl 2 (by decide) (hg _ fl_K_22) (fun _ h9 => h9) rfl d_K_setPort_42 ?_
        refine lv_iconst (v := iI 1) hx hb d_K_setPort_45 rfl ?_
        refine rv_isub hx hb d_K_setPort_46 ?_
        refine va_put (D := G) (ci := 1) (v := .int (iI (pn - 1))) (ty := .int) (C := R_K) (T := T_K) (N := 4) hx hb hg iw_K ty_K ty_K_ok nm_K hown hE.1 hP hD hS 0 rfl rfl 2 (by decide) (hg _ fl_K_22) (fun _ h9 => h9) rfl (by decide +kernel) rfl rfl (Nat.le_of_ble_eq_true rfl) d_K_setPort_47 (fun H locs hP hD hS => ?_)
        have hP : va_P G cls0 [(q 1, .inr (1, [.ref (q 4), .ref (q 5), .int (iI (pn - 1)), .int (iI fn)])), (q 4, .inl (z.1, 64, .inl (aI (uZ fpo net cost)))), (q 5, .inl (z.1, 16, .inl (aI ffr)))] H := hP
        have hD : va_D A [(q 1, .inr (1, [.ref (q 4), .ref (q 5), .int (iI (pn - 1)), .int (iI fn)])), (q 4, .inl (z.1, 64, .inl (aI (uZ fpo net cost)))), (q 5, .inl (z.1, 16, .inl (aI ffr)))] := hD
        refine lv_aload_n hx hb d_K_setPort_50 rfl (lv_at hl 1 rfl) ?_
        refine lv_iload_n hx hb d_K_setPort_51 rfl (lv_at hl 2 rfl) ?_
        refine qV_v (As := [.int (iI net)]) (rest := []) (wr := [(q 4, .inl (z.1, 64, .inl (aI (uZ fpo net cost))))]) hx hb hml hown hg hE hA hS hP hD (k_K_removeFriendsOn l G z q ffr (pn - 1) fn net (by assumption) (by omega) hs (by omega)) [0, 2] [1] rfl rfl (by decide) (by decide) (by decide) (q0 := 0) rfl rfl ml_K_26 im_K_removeFriendsOn se_K_removeFriendsOn in_K co_K_removeFriendsOn ok_K_removeFriendsOn ⟨Nat.le_of_ble_eq_true rfl, Nat.le_of_ble_eq_true rfl⟩ hl.1 rfl (Nat.le_of_ble_eq_true rfl) d_K_setPort_52 ⟨Nat.le_of_ble_eq_true rfl, Nat.le_of_ble_eq_true rfl⟩ (fun u9 H locs hw hP hD hS => ?_)
        obtain ⟨g, fn2, rfl, f1, f2, f3, f4⟩ := hw
        have hP : va_P G cls0 [(q 4, .inl (z.1, 64, .inl (aI (uZ fpo net cost)))), (q 1, .inr (1, [.ref (q 4), .ref (q 5), .int (iI ((pn - 1))), .int (iI fn2)])), (q 5, .inl (z.1, 16, .inl (aI g)))] H := hP
        have hD : va_D A [(q 4, .inl (z.1, 64, .inl (aI (uZ fpo net cost)))), (q 1, .inr (1, [.ref (q 4), .ref (q 5), .int (iI ((pn - 1))), .int (iI fn2)])), (q 5, .inl (z.1, 16, .inl (aI g)))] := hD
        refine lv_iload_n hx hb d_K_setPort_55 rfl (lv_at hl 0 rfl) ?_
        have hP9 : va_P G cls0 [(q 1, .inr (1, [.ref (q 4), .ref (q 5), .int (iI ((pn - 1))), .int (iI fn2)])), (q 4, .inl (z.1, 64, .inl (aI (uZ fpo net cost)))), (q 5, .inl (z.1, 16, .inl (aI g)))] H := hP.sub [1, 0, 2] rfl
        have hD9 : va_D A [(q 1, .inr (1, [.ref (q 4), .ref (q 5), .int (iI ((pn - 1))), .int (iI fn2)])), (q 4, .inl (z.1, 64, .inl (aI (uZ fpo net cost)))), (q 5, .inl (z.1, 16, .inl (aI g)))] := hD.sub [1, 0, 2] (by decide) rfl
        refine rv_iret hx hb hRt (nar_int _) hlocks (Nat.le_of_ble_eq_true rfl) (Nat.le_of_ble_eq_true rfl) hP9 hD9 hS d_K_setPort_56 ?_
        exact ⟨g, fn2, ((pn - 1)), rfl, rfl, (by first | exact f1 | exact rfr), (by first | exact f2 | exact hs), (fun s => by first | (rw [f3 s]; constructor <;> (rintro ⟨a, b⟩; exact ⟨a, by omega⟩)) | exact ⟨fun a => ⟨a, by omega⟩, fun a => a.1⟩), (by omega), (by (try have := rpo net); omega)⟩
  · skip
    refine lv_iload_n hx hb d_K_setPort_18 rfl (lv_at hl 3 rfl) ?_
    refine rv_if_eq (tgt := 32) hx hb d_K_setPort_19 (by decide) (by constructor <;> omega) (fun c_4 => ?_) (fun c_4 => ?_)
    · skip
      refine lv_iload_n hx hb d_K_setPort_32 rfl (lv_at hl 0 rfl) ?_
      refine rv_if_eq (tgt := 55) hx hb d_K_setPort_33 (by decide) (by (try have := rpo net); constructor <;> omega) (fun c_5 => ?_) (fun c_5 => ?_)
      · skip
        refine lv_iload_n hx hb d_K_setPort_55 rfl (lv_at hl 0 rfl) ?_
        have hP9 : va_P G cls0 [(q 1, .inr (1, [.ref (q 4), .ref (q 5), .int (iI pn), .int (iI fn)])), (q 4, .inl (z.1, 64, .inl (aI (uZ fpo net cost)))), (q 5, .inl (z.1, 16, .inl (aI ffr)))] H := hP.sub [0, 1, 2] rfl
        have hD9 : va_D A [(q 1, .inr (1, [.ref (q 4), .ref (q 5), .int (iI pn), .int (iI fn)])), (q 4, .inl (z.1, 64, .inl (aI (uZ fpo net cost)))), (q 5, .inl (z.1, 16, .inl (aI ffr)))] := hD.sub [0, 1, 2] (by decide) rfl
        refine rv_iret hx hb hRt (nar_int _) hlocks (Nat.le_of_ble_eq_true rfl) (Nat.le_of_ble_eq_true rfl) hP9 hD9 hS d_K_setPort_56 ?_
        exact ⟨ffr, fn, pn, rfl, rfl, (by first | exact f1 | exact rfr), (by first | exact f2 | exact hs), (fun s => by first | (rw [f3 s]; constructor <;> (rintro ⟨a, b⟩; exact ⟨a, by omega⟩)) | exact ⟨fun a => ⟨a, by omega⟩, fun a => a.1⟩), (by omega), (by (try have := rpo net); omega)⟩
      · skip
        refine lv_iload_n hx hb d_K_setPort_36 rfl (lv_at hl 3 rfl) ?_
        refine rv_if_ne (tgt := 55) hx hb d_K_setPort_37 (by decide) (by constructor <;> omega) (fun c_6 => ?_) (fun c_6 => ?_)
        · skip
          refine lv_iload_n hx hb d_K_setPort_55 rfl (lv_at hl 0 rfl) ?_
          have hP9 : va_P G cls0 [(q 1, .inr (1, [.ref (q 4), .ref (q 5), .int (iI pn), .int (iI fn)])), (q 4, .inl (z.1, 64, .inl (aI (uZ fpo net cost)))), (q 5, .inl (z.1, 16, .inl (aI ffr)))] H := hP.sub [0, 1, 2] rfl
          have hD9 : va_D A [(q 1, .inr (1, [.ref (q 4), .ref (q 5), .int (iI pn), .int (iI fn)])), (q 4, .inl (z.1, 64, .inl (aI (uZ fpo net cost)))), (q 5, .inl (z.1, 16, .inl (aI ffr)))] := hD.sub [0, 1, 2] (by decide) rfl
          refine rv_iret hx hb hRt (nar_int _) hlocks (Nat.le_of_ble_eq_true rfl) (Nat.le_of_ble_eq_true rfl) hP9 hD9 hS d_K_setPort_56 ?_
          exact ⟨ffr, fn, pn, rfl, rfl, (by first | exact f1 | exact rfr), (by first | exact f2 | exact hs), (fun s => by first | (rw [f3 s]; constructor <;> (rintro ⟨a, b⟩; exact ⟨a, by omega⟩)) | exact ⟨fun a => ⟨a, by omega⟩, fun a => a.1⟩), (by omega), (by (try have := rpo net); omega)⟩
        · skip
          refine lv_aload_n hx hb d_K_setPort_40 rfl (lv_at hl 1 rfl) ?_
          refine lv_dup hx hb d_K_setPort_41 rfl ?_
          refine va_get (D := G) (ci := 1) (v := .int (iI pn)) (C := R_K) (T := T_K) (N := 4) hx hb hg iw_K hown hE.1 hP 0 rfl rfl 2 (by decide) (hg _ fl_K_22) (fun _ h9 => h9) rfl d_K_setPort_42 ?_
          refine lv_iconst (v := iI 1) hx hb d_K_setPort_45 rfl ?_
          refine rv_isub hx hb d_K_setPort_46 ?_
          refine va_put (D := G) (ci := 1) (v := .int (iI (pn - 1))) (ty := .int) (C := R_K) (T := T_K) (N := 4) hx hb hg iw_K ty_K ty_K_ok nm_K hown hE.1 hP hD hS 0 rfl rfl 2 (by decide) (hg _ fl_K_22) (fun _ h9 => h9) rfl (by decide +kernel) rfl rfl (Nat.le_of_ble_eq_true rfl) d_K_setPort_47 (fun H locs hP hD hS => ?_)
          have hP : va_P G cls0 [(q 1, .inr (1, [.ref (q 4), .ref (q 5), .int (iI (pn - 1)), .int (iI fn)])), (q 4, .inl (z.1, 64, .inl (aI (uZ fpo net cost)))), (q 5, .inl (z.1, 16, .inl (aI ffr)))] H := hP
          have hD : va_D A [(q 1, .inr (1, [.ref (q 4), .ref (q 5), .int (iI (pn - 1)), .int (iI fn)])), (q 4, .inl (z.1, 64, .inl (aI (uZ fpo net cost)))), (q 5, .inl (z.1, 16, .inl (aI ffr)))] := hD
          refine lv_aload_n hx hb d_K_setPort_50 rfl (lv_at hl 1 rfl) ?_
          refine lv_iload_n hx hb d_K_setPort_51 rfl (lv_at hl 2 rfl) ?_
          refine qV_v (As := [.int (iI net)]) (rest := []) (wr := [(q 4, .inl (z.1, 64, .inl (aI (uZ fpo net cost))))]) hx hb hml hown hg hE hA hS hP hD (k_K_removeFriendsOn l G z q ffr (pn - 1) fn net (by assumption) (by omega) hs (by omega)) [0, 2] [1] rfl rfl (by decide) (by decide) (by decide) (q0 := 0) rfl rfl ml_K_26 im_K_removeFriendsOn se_K_removeFriendsOn in_K co_K_removeFriendsOn ok_K_removeFriendsOn ⟨Nat.le_of_ble_eq_true rfl, Nat.le_of_ble_eq_true rfl⟩ hl.1 rfl (Nat.le_of_ble_eq_true rfl) d_K_setPort_52 ⟨Nat.le_of_ble_eq_true rfl, Nat.le_of_ble_eq_true rfl⟩ (fun u9 H locs hw hP hD hS => ?_)
          obtain ⟨g, fn2, rfl, f1, f2, f3, f4⟩ := hw
          have hP : va_P G cls0 [(q 4, .inl (z.1, 64, .inl (aI (uZ fpo net cost)))), (q 1, .inr (1, [.ref (q 4), .ref (q 5), .int (iI ((pn - 1))), .int (iI fn2)])), (q 5, .inl (z.1, 16, .inl (aI g)))] H := hP
          have hD : va_D A [(q 4, .inl (z.1, 64, .inl (aI (uZ fpo net cost)))), (q 1, .inr (1, [.ref (q 4), .ref (q 5), .int (iI ((pn - 1))), .int (iI fn2)])), (q 5, .inl (z.1, 16, .inl (aI g)))] := hD
          refine lv_iload_n hx hb d_K_setPort_55 rfl (lv_at hl 0 rfl) ?_
          have hP9 : va_P G cls0 [(q 1, .inr (1, [.ref (q 4), .ref (q 5), .int (iI ((pn - 1))), .int (iI fn2)])), (q 4, .inl (z.1, 64, .inl (aI (uZ fpo net cost)))), (q 5, .inl (z.1, 16, .inl (aI g)))] H := hP.sub [1, 0, 2] rfl
          have hD9 : va_D A [(q 1, .inr (1, [.ref (q 4), .ref (q 5), .int (iI ((pn - 1))), .int (iI fn2)])), (q 4, .inl (z.1, 64, .inl (aI (uZ fpo net cost)))), (q 5, .inl (z.1, 16, .inl (aI g)))] := hD.sub [1, 0, 2] (by decide) rfl
          refine rv_iret hx hb hRt (nar_int _) hlocks (Nat.le_of_ble_eq_true rfl) (Nat.le_of_ble_eq_true rfl) hP9 hD9 hS d_K_setPort_56 ?_
          exact ⟨g, fn2, ((pn - 1)), rfl, rfl, (by first | exact f1 | exact rfr), (by first | exact f2 | exact hs), (fun s => by first | (rw [f3 s]; constructor <;> (rintro ⟨a, b⟩; exact ⟨a, by omega⟩)) | exact ⟨fun a => ⟨a, by omega⟩, fun a => a.1⟩), (by omega), (by (try have := rpo net); omega)⟩
    · skip
      refine lv_aload_n hx hb d_K_setPort_22 rfl (lv_at hl 1 rfl) ?_
      refine lv_dup hx hb d_K_setPort_23 rfl ?_
      refine va_get (D := G) (ci := 1) (v := .int (iI pn)) (C := R_K) (T := T_K) (N := 4) hx hb hg iw_K hown hE.1 hP 0 rfl rfl 2 (by decide) (hg _ fl_K_22) (fun _ h9 => h9) rfl d_K_setPort_24 ?_
      refine lv_iconst (v := iI 1) hx hb d_K_setPort_27 rfl ?_
      refine rv_iadd hx hb d_K_setPort_28 ?_
      refine va_put (D := G) (ci := 1) (v := .int (iI (pn + 1))) (ty := .int) (C := R_K) (T := T_K) (N := 4) hx hb hg iw_K ty_K ty_K_ok nm_K hown hE.1 hP hD hS 0 rfl rfl 2 (by decide) (hg _ fl_K_22) (fun _ h9 => h9) rfl (by decide +kernel) rfl rfl (Nat.le_of_ble_eq_true rfl) d_K_setPort_29 (fun H locs hP hD hS => ?_)
      have hP : va_P G cls0 [(q 1, .inr (1, [.ref (q 4), .ref (q 5), .int (iI (pn + 1)), .int (iI fn)])), (q 4, .inl (z.1, 64, .inl (aI (uZ fpo net cost)))), (q 5, .inl (z.1, 16, .inl (aI ffr)))] H := hP
      have hD : va_D A [(q 1, .inr (1, [.ref (q 4), .ref (q 5), .int (iI (pn + 1)), .int (iI fn)])), (q 4, .inl (z.1, 64, .inl (aI (uZ fpo net cost)))), (q 5, .inl (z.1, 16, .inl (aI ffr)))] := hD
      refine lv_iload_n hx hb d_K_setPort_32 rfl (lv_at hl 0 rfl) ?_
      refine rv_if_eq (tgt := 55) hx hb d_K_setPort_33 (by decide) (by (try have := rpo net); constructor <;> omega) (fun c_7 => ?_) (fun c_7 => ?_)
      · skip
        refine lv_iload_n hx hb d_K_setPort_55 rfl (lv_at hl 0 rfl) ?_
        have hP9 : va_P G cls0 [(q 1, .inr (1, [.ref (q 4), .ref (q 5), .int (iI (pn + 1)), .int (iI fn)])), (q 4, .inl (z.1, 64, .inl (aI (uZ fpo net cost)))), (q 5, .inl (z.1, 16, .inl (aI ffr)))] H := hP.sub [0, 1, 2] rfl
        have hD9 : va_D A [(q 1, .inr (1, [.ref (q 4), .ref (q 5), .int (iI (pn + 1)), .int (iI fn)])), (q 4, .inl (z.1, 64, .inl (aI (uZ fpo net cost)))), (q 5, .inl (z.1, 16, .inl (aI ffr)))] := hD.sub [0, 1, 2] (by decide) rfl
        refine rv_iret hx hb hRt (nar_int _) hlocks (Nat.le_of_ble_eq_true rfl) (Nat.le_of_ble_eq_true rfl) hP9 hD9 hS d_K_setPort_56 ?_
        exact ⟨ffr, fn, (pn + 1), rfl, rfl, (by first | exact f1 | exact rfr), (by first | exact f2 | exact hs), (fun s => by first | (rw [f3 s]; constructor <;> (rintro ⟨a, b⟩; exact ⟨a, by omega⟩)) | exact ⟨fun a => ⟨a, by omega⟩, fun a => a.1⟩), (by omega), (by (try have := rpo net); omega)⟩
      · skip
        refine lv_iload_n hx hb d_K_setPort_36 rfl (lv_at hl 3 rfl) ?_
        refine rv_if_ne (tgt := 55) hx hb d_K_setPort_37 (by decide) (by constructor <;> omega) (fun c_8 => ?_) (fun c_8 => ?_)
        · skip
          refine lv_iload_n hx hb d_K_setPort_55 rfl (lv_at hl 0 rfl) ?_
          have hP9 : va_P G cls0 [(q 1, .inr (1, [.ref (q 4), .ref (q 5), .int (iI (pn + 1)), .int (iI fn)])), (q 4, .inl (z.1, 64, .inl (aI (uZ fpo net cost)))), (q 5, .inl (z.1, 16, .inl (aI ffr)))] H := hP.sub [0, 1, 2] rfl
          have hD9 : va_D A [(q 1, .inr (1, [.ref (q 4), .ref (q 5), .int (iI (pn + 1)), .int (iI fn)])), (q 4, .inl (z.1, 64, .inl (aI (uZ fpo net cost)))), (q 5, .inl (z.1, 16, .inl (aI ffr)))] := hD.sub [0, 1, 2] (by decide) rfl
          refine rv_iret hx hb hRt (nar_int _) hlocks (Nat.le_of_ble_eq_true rfl) (Nat.le_of_ble_eq_true rfl) hP9 hD9 hS d_K_setPort_56 ?_
          exact ⟨ffr, fn, (pn + 1), rfl, rfl, (by first | exact f1 | exact rfr), (by first | exact f2 | exact hs), (fun s => by first | (rw [f3 s]; constructor <;> (rintro ⟨a, b⟩; exact ⟨a, by omega⟩)) | exact ⟨fun a => ⟨a, by omega⟩, fun a => a.1⟩), (by omega), (by (try have := rpo net); omega)⟩
        · skip
          refine lv_aload_n hx hb d_K_setPort_40 rfl (lv_at hl 1 rfl) ?_
          refine lv_dup hx hb d_K_setPort_41 rfl ?_
          refine va_get (D := G) (ci := 1) (v := .int (iI (pn + 1))) (C := R_K) (T := T_K) (N := 4) hx hb hg iw_K hown hE.1 hP 0 rfl rfl 2 (by decide) (hg _ fl_K_22) (fun _ h9 => h9) rfl d_K_setPort_42 ?_
          refine lv_iconst (v := iI 1) hx hb d_K_setPort_45 rfl ?_
          refine rv_isub hx hb d_K_setPort_46 ?_
          refine va_put (D := G) (ci := 1) (v := .int (iI ((pn + 1) - 1))) (ty := .int) (C := R_K) (T := T_K) (N := 4) hx hb hg iw_K ty_K ty_K_ok nm_K hown hE.1 hP hD hS 0 rfl rfl 2 (by decide) (hg _ fl_K_22) (fun _ h9 => h9) rfl (by decide +kernel) rfl rfl (Nat.le_of_ble_eq_true rfl) d_K_setPort_47 (fun H locs hP hD hS => ?_)
          have hP : va_P G cls0 [(q 1, .inr (1, [.ref (q 4), .ref (q 5), .int (iI ((pn + 1) - 1)), .int (iI fn)])), (q 4, .inl (z.1, 64, .inl (aI (uZ fpo net cost)))), (q 5, .inl (z.1, 16, .inl (aI ffr)))] H := hP
          have hD : va_D A [(q 1, .inr (1, [.ref (q 4), .ref (q 5), .int (iI ((pn + 1) - 1)), .int (iI fn)])), (q 4, .inl (z.1, 64, .inl (aI (uZ fpo net cost)))), (q 5, .inl (z.1, 16, .inl (aI ffr)))] := hD
          refine lv_aload_n hx hb d_K_setPort_50 rfl (lv_at hl 1 rfl) ?_
          refine lv_iload_n hx hb d_K_setPort_51 rfl (lv_at hl 2 rfl) ?_
          refine qV_v (As := [.int (iI net)]) (rest := []) (wr := [(q 4, .inl (z.1, 64, .inl (aI (uZ fpo net cost))))]) hx hb hml hown hg hE hA hS hP hD (k_K_removeFriendsOn l G z q ffr ((pn + 1) - 1) fn net (by assumption) (by omega) hs (by omega)) [0, 2] [1] rfl rfl (by decide) (by decide) (by decide) (q0 := 0) rfl rfl ml_K_26 im_K_removeFriendsOn se_K_removeFriendsOn in_K co_K_removeFriendsOn ok_K_removeFriendsOn ⟨Nat.le_of_ble_eq_true rfl, Nat.le_of_ble_eq_true rfl⟩ hl.1 rfl (Nat.le_of_ble_eq_true rfl) d_K_setPort_52 ⟨Nat.le_of_ble_eq_true rfl, Nat.le_of_ble_eq_true rfl⟩ (fun u9 H locs hw hP hD hS => ?_)
          obtain ⟨g, fn2, rfl, f1, f2, f3, f4⟩ := hw
          have hP : va_P G cls0 [(q 4, .inl (z.1, 64, .inl (aI (uZ fpo net cost)))), (q 1, .inr (1, [.ref (q 4), .ref (q 5), .int (iI (((pn + 1) - 1))), .int (iI fn2)])), (q 5, .inl (z.1, 16, .inl (aI g)))] H := hP
          have hD : va_D A [(q 4, .inl (z.1, 64, .inl (aI (uZ fpo net cost)))), (q 1, .inr (1, [.ref (q 4), .ref (q 5), .int (iI (((pn + 1) - 1))), .int (iI fn2)])), (q 5, .inl (z.1, 16, .inl (aI g)))] := hD
          refine lv_iload_n hx hb d_K_setPort_55 rfl (lv_at hl 0 rfl) ?_
          have hP9 : va_P G cls0 [(q 1, .inr (1, [.ref (q 4), .ref (q 5), .int (iI (((pn + 1) - 1))), .int (iI fn2)])), (q 4, .inl (z.1, 64, .inl (aI (uZ fpo net cost)))), (q 5, .inl (z.1, 16, .inl (aI g)))] H := hP.sub [1, 0, 2] rfl
          have hD9 : va_D A [(q 1, .inr (1, [.ref (q 4), .ref (q 5), .int (iI (((pn + 1) - 1))), .int (iI fn2)])), (q 4, .inl (z.1, 64, .inl (aI (uZ fpo net cost)))), (q 5, .inl (z.1, 16, .inl (aI g)))] := hD.sub [1, 0, 2] (by decide) rfl
          refine rv_iret hx hb hRt (nar_int _) hlocks (Nat.le_of_ble_eq_true rfl) (Nat.le_of_ble_eq_true rfl) hP9 hD9 hS d_K_setPort_56 ?_
          exact ⟨g, fn2, (((pn + 1) - 1)), rfl, rfl, (by first | exact f1 | exact rfr), (by first | exact f2 | exact hs), (fun s => by first | (rw [f3 s]; constructor <;> (rintro ⟨a, b⟩; exact ⟨a, by omega⟩)) | exact ⟨fun a => ⟨a, by omega⟩, fun a => a.1⟩), (by omega), (by (try have := rpo net); omega)⟩
set_option maxHeartbeats 4000000 in
set_option maxRecDepth 100000 in
theorem k_K_tellInto (l : Launch) (G : va_G) (z : tz3) (q : Nat → Nat) (fpo : Int → Int) (ffr : Int → Int) (pn : Int) (fn : Int) (fnu : Int → Int) (fsz : Int → Int) (frt : Int → Int) (fnt : Int → Int) (fco : Int → Int) (place : Int) (rpo : ∀ i : Int, 0 ≤ fpo i ∧ fpo i ≤ 1000) (rfr : ∀ i : Int, 0 ≤ ffr i ∧ ffr i ≤ 4095) (hfn : 0 ≤ fn ∧ fn ≤ 16) (hpl : 0 ≤ place ∧ place < 66) (rsz : ∀ i : Int, 0 ≤ fsz i ∧ fsz i ≤ 24) (rrt : ∀ i : Int, -1 ≤ frt i ∧ frt i ≤ 63) (rnt : ∀ i : Int, 0 ≤ fnt i ∧ fnt i ≤ 63) (rco : ∀ i : Int, 0 ≤ fco i ∧ fco i ≤ 1000) (hcp : cI fpo 64 ≤ 8) : Kv l y_K_tellInto c_K_tellInto 5 (rmD 2) G z [.ref (q 1), .ref (q 2), .int (iI place)] [(q 1, .inr (1, [.ref (q 4), .ref (q 5), .int (iI pn), .int (iI fn)])), (q 4, .inl (z.1, 64, .inl (aI fpo))), (q 5, .inl (z.1, 16, .inl (aI ffr))), (q 2, .inr (0, [.ref (q 6), .ref (q 7), .ref (q 8), .ref (q 9), .ref (q 10), .ref (q 11)])), (q 6, .inl (z.1, 66, .inl (aI fnu))), (q 8, .inl (z.1, 66, .inl (aI fsz))), (q 9, .inl (z.1, 1584, .inl (aI frt))), (q 10, .inl (z.1, 1584, .inl (aI fnt))), (q 11, .inl (z.1, 1584, .inl (aI fco)))] (fun u9 => ∃ (gsz : Int → Int) (grt : Int → Int) (gnt : Int → Int) (gco : Int → Int), u9 = [(q 1, .inr (1, [.ref (q 4), .ref (q 5), .int (iI pn), .int (iI fn)])), (q 4, .inl (z.1, 64, .inl (aI fpo))), (q 5, .inl (z.1, 16, .inl (aI ffr))), (q 2, .inr (0, [.ref (q 6), .ref (q 7), .ref (q 8), .ref (q 9), .ref (q 10), .ref (q 11)])), (q 6, .inl (z.1, 66, .inl (aI (uZ fnu place (-1))))), (q 8, .inl (z.1, 66, .inl (aI gsz))), (q 9, .inl (z.1, 1584, .inl (aI grt))), (q 10, .inl (z.1, 1584, .inl (aI gnt))), (q 11, .inl (z.1, 1584, .inl (aI gco)))] ∧ (∀ i : Int, 0 ≤ gsz i ∧ gsz i ≤ 24) ∧ (∀ i : Int, -1 ≤ grt i ∧ grt i ≤ 63) ∧ (∀ i : Int, 0 ≤ gnt i ∧ gnt i ≤ 63) ∧ (∀ i : Int, 0 ≤ gco i ∧ gco i ≤ 1000) ∧ (TL fsz frt fnt fco gsz grt gnt gco fpo ffr place 64 fn)) := by
  refine Kv.of (by decide) (Nat.le_of_ble_eq_true rfl) ?_
  intro p e s m below meth c A hB hP hD ls hl
  obtain ⟨hx, hb, hRt, hml, hown, hlocks, hg, hE, hA, hin⟩ := hB
  have hown : s.vm.findClass R_K = some m.cls := hown
  have hl : lv_has ls 5 [(0, .ref (q 1)), (1, .ref (q 2)), (2, .int (iI place))] := hl
  obtain ⟨H, hH⟩ : ∃ H, H = s.heap := ⟨_, rfl⟩
  have hS : va_S A s.heap H [] := by rw [hH]; exact va_S.rf
  rw [← hH] at hP
  rw [← hH]
  have hP : va_P G cls0 [(q 1, .inr (1, [.ref (q 4), .ref (q 5), .int (iI pn), .int (iI fn)])), (q 4, .inl (z.1, 64, .inl (aI fpo))), (q 5, .inl (z.1, 16, .inl (aI ffr))), (q 2, .inr (0, [.ref (q 6), .ref (q 7), .ref (q 8), .ref (q 9), .ref (q 10), .ref (q 11)])), (q 6, .inl (z.1, 66, .inl (aI fnu))), (q 8, .inl (z.1, 66, .inl (aI fsz))), (q 9, .inl (z.1, 1584, .inl (aI frt))), (q 10, .inl (z.1, 1584, .inl (aI fnt))), (q 11, .inl (z.1, 1584, .inl (aI fco)))] H := hP
  have hD : va_D A [(q 1, .inr (1, [.ref (q 4), .ref (q 5), .int (iI pn), .int (iI fn)])), (q 4, .inl (z.1, 64, .inl (aI fpo))), (q 5, .inl (z.1, 16, .inl (aI ffr))), (q 2, .inr (0, [.ref (q 6), .ref (q 7), .ref (q 8), .ref (q 9), .ref (q 10), .ref (q 11)])), (q 6, .inl (z.1, 66, .inl (aI fnu))), (q 8, .inl (z.1, 66, .inl (aI fsz))), (q 9, .inl (z.1, 1584, .inl (aI frt))), (q 10, .inl (z.1, 1584, .inl (aI fnt))), (q 11, .inl (z.1, 1584, .inl (aI fco)))] := hD
  refine lv_aload_n hx hb d_K_tellInto_0 rfl (lv_at hl 1 rfl) ?_
  refine lv_iload_n hx hb d_K_tellInto_1 rfl (lv_at hl 2 rfl) ?_
  refine qV_v (As := [.int (iI place)]) (rest := []) (wr := [(q 1, .inr (1, [.ref (q 4), .ref (q 5), .int (iI pn), .int (iI fn)])), (q 4, .inl (z.1, 64, .inl (aI fpo))), (q 5, .inl (z.1, 16, .inl (aI ffr))), (q 9, .inl (z.1, 1584, .inl (aI frt))), (q 10, .inl (z.1, 1584, .inl (aI fnt))), (q 11, .inl (z.1, 1584, .inl (aI fco)))]) hx hb hml hown hg hE hA hS hP hD (k_A_clear l G z q fnu fsz place (by omega)) [3, 4, 5] [0, 1, 2, 6, 7, 8] rfl rfl (by decide) (by decide) (by decide) (q0 := 0) rfl rfl ml_K_41 im_A_clear se_A_clear in_A co_A_clear ok_A_clear ⟨Nat.le_of_ble_eq_true rfl, Nat.le_of_ble_eq_true rfl⟩ hl.1 rfl (Nat.le_of_ble_eq_true rfl) d_K_tellInto_2 ⟨Nat.le_of_ble_eq_true rfl, Nat.le_of_ble_eq_true rfl⟩ (fun u9 H locs hw hP hD hS => ?_)
  subst hw
  have hP : va_P G cls0 [(q 1, .inr (1, [.ref (q 4), .ref (q 5), .int (iI pn), .int (iI fn)])), (q 4, .inl (z.1, 64, .inl (aI fpo))), (q 5, .inl (z.1, 16, .inl (aI ffr))), (q 9, .inl (z.1, 1584, .inl (aI frt))), (q 10, .inl (z.1, 1584, .inl (aI fnt))), (q 11, .inl (z.1, 1584, .inl (aI fco))), (q 2, .inr (0, [.ref (q 6), .ref (q 7), .ref (q 8), .ref (q 9), .ref (q 10), .ref (q 11)])), (q 6, .inl (z.1, 66, .inl (aI (uZ fnu place (-1))))), (q 8, .inl (z.1, 66, .inl (aI (uZ fsz place 0))))] H := hP
  have hD : va_D A [(q 1, .inr (1, [.ref (q 4), .ref (q 5), .int (iI pn), .int (iI fn)])), (q 4, .inl (z.1, 64, .inl (aI fpo))), (q 5, .inl (z.1, 16, .inl (aI ffr))), (q 9, .inl (z.1, 1584, .inl (aI frt))), (q 10, .inl (z.1, 1584, .inl (aI fnt))), (q 11, .inl (z.1, 1584, .inl (aI fco))), (q 2, .inr (0, [.ref (q 6), .ref (q 7), .ref (q 8), .ref (q 9), .ref (q 10), .ref (q 11)])), (q 6, .inl (z.1, 66, .inl (aI (uZ fnu place (-1))))), (q 8, .inl (z.1, 66, .inl (aI (uZ fsz place 0))))] := hD
  refine lv_iconst (v := iI 0) hx hb d_K_tellInto_5 rfl ?_
  refine lv_istore_n (lv' := [(3, .int (iI 0)), (0, .ref (q 1)), (1, .ref (q 2)), (2, .int (iI place))]) hx hb d_K_tellInto_6 rfl hl (by decide) rfl (fun ls hl => ?_)
  have L7 : ∀ n9 : Nat, ∀ (gsz : Int → Int) (grt : Int → Int) (gnt : Int → Int) (gco : Int → Int) (n : Int), (64 - n : Int).toNat < n9 → (∀ i : Int, 0 ≤ gsz i ∧ gsz i ≤ 24) → (∀ i : Int, -1 ≤ grt i ∧ grt i ≤ 63) → (∀ i : Int, 0 ≤ gnt i ∧ gnt i ≤ 63) → (∀ i : Int, 0 ≤ gco i ∧ gco i ≤ 1000) → (0 ≤ n ∧ n ≤ 64) → (TL fsz frt fnt fco gsz grt gnt gco fpo ffr place n 0) → ∀ (H : Heap) (locs : List Loc), va_P G cls0 [(q 1, .inr (1, [.ref (q 4), .ref (q 5), .int (iI pn), .int (iI fn)])), (q 4, .inl (z.1, 64, .inl (aI fpo))), (q 5, .inl (z.1, 16, .inl (aI ffr))), (q 9, .inl (z.1, 1584, .inl (aI grt))), (q 10, .inl (z.1, 1584, .inl (aI gnt))), (q 11, .inl (z.1, 1584, .inl (aI gco))), (q 2, .inr (0, [.ref (q 6), .ref (q 7), .ref (q 8), .ref (q 9), .ref (q 10), .ref (q 11)])), (q 6, .inl (z.1, 66, .inl (aI (uZ fnu place (-1))))), (q 8, .inl (z.1, 66, .inl (aI gsz)))] H → va_D A [(q 1, .inr (1, [.ref (q 4), .ref (q 5), .int (iI pn), .int (iI fn)])), (q 4, .inl (z.1, 64, .inl (aI fpo))), (q 5, .inl (z.1, 16, .inl (aI ffr))), (q 9, .inl (z.1, 1584, .inl (aI grt))), (q 10, .inl (z.1, 1584, .inl (aI gnt))), (q 11, .inl (z.1, 1584, .inl (aI gco))), (q 2, .inr (0, [.ref (q 6), .ref (q 7), .ref (q 8), .ref (q 9), .ref (q 10), .ref (q 11)])), (q 6, .inl (z.1, 66, .inl (aI (uZ fnu place (-1))))), (q 8, .inl (z.1, 66, .inl (aI gsz)))] → va_S A s.heap H locs → ∀ ls : Array Slot, lv_has ls 5 [(0, .ref (q 1)), (1, .ref (q 2)), (2, .int (iI place)), (3, .int (iI n))] → W p l e (rmD 2) s m [.ref (q 1), .ref (q 2), .int (iI place)].toArray below meth c H locs 0 0 (Zv below [.ref (q 1), .ref (q 2), .int (iI place)].toArray s (rmD 2) G A (fun u9 => ∃ (gsz : Int → Int) (grt : Int → Int) (gnt : Int → Int) (gco : Int → Int), u9 = [(q 1, .inr (1, [.ref (q 4), .ref (q 5), .int (iI pn), .int (iI fn)])), (q 4, .inl (z.1, 64, .inl (aI fpo))), (q 5, .inl (z.1, 16, .inl (aI ffr))), (q 2, .inr (0, [.ref (q 6), .ref (q 7), .ref (q 8), .ref (q 9), .ref (q 10), .ref (q 11)])), (q 6, .inl (z.1, 66, .inl (aI (uZ fnu place (-1))))), (q 8, .inl (z.1, 66, .inl (aI gsz))), (q 9, .inl (z.1, 1584, .inl (aI grt))), (q 10, .inl (z.1, 1584, .inl (aI gnt))), (q 11, .inl (z.1, 1584, .inl (aI gco)))] ∧ (∀ i : Int, 0 ≤ gsz i ∧ gsz i ≤ 24) ∧ (∀ i : Int, -1 ≤ grt i ∧ grt i ≤ 63) ∧ (∀ i : Int, 0 ≤ gnt i ∧ gnt i ≤ 63) ∧ (∀ i : Int, 0 ≤ gco i ∧ gco i ≤ 1000) ∧ (TL fsz frt fnt fco gsz grt gnt gco fpo ffr place 64 fn))) (F0 m 7 ls []) := by
    intro n9
    induction n9 with
    | zero => intro gsz grt gnt gco n hmu; exact absurd hmu (Nat.not_lt_zero _)
    | succ n9 ih7 =>
      intro gsz grt gnt gco n hmu rgsz rgrt rgnt rgco hn hT H locs hP hD hS ls hl
      refine lv_iload_n hx hb d_K_tellInto_7 rfl (lv_at hl 3 rfl) ?_
      refine lv_bipush (v := iI 64) hx hb d_K_tellInto_8 (by decide +kernel) ?_
      refine rv_icmp_ge (tgt := 40) hx hb d_K_tellInto_10 (by decide) (by constructor <;> omega) ⟨by decide, by decide⟩ (fun c_1 => ?_) (fun c_1 => ?_)
      · skip
        refine lv_iconst (v := iI 0) hx hb d_K_tellInto_40 rfl ?_
        refine lv_istore_n (lv' := [(3, .int (iI 0)), (0, .ref (q 1)), (1, .ref (q 2)), (2, .int (iI place))]) hx hb d_K_tellInto_41 rfl hl (by decide) rfl (fun ls hl => ?_)
        have L42 : ∀ n9 : Nat, ∀ (gsz : Int → Int) (grt : Int → Int) (gnt : Int → Int) (gco : Int → Int) (i : Int), (fn - i : Int).toNat < n9 → (∀ i : Int, 0 ≤ gsz i ∧ gsz i ≤ 24) → (∀ i : Int, -1 ≤ grt i ∧ grt i ≤ 63) → (∀ i : Int, 0 ≤ gnt i ∧ gnt i ≤ 63) → (∀ i : Int, 0 ≤ gco i ∧ gco i ≤ 1000) → (0 ≤ i ∧ i ≤ fn) → (TL fsz frt fnt fco gsz grt gnt gco fpo ffr place 64 i) → ∀ (H : Heap) (locs : List Loc), va_P G cls0 [(q 1, .inr (1, [.ref (q 4), .ref (q 5), .int (iI pn), .int (iI fn)])), (q 4, .inl (z.1, 64, .inl (aI fpo))), (q 5, .inl (z.1, 16, .inl (aI ffr))), (q 9, .inl (z.1, 1584, .inl (aI grt))), (q 10, .inl (z.1, 1584, .inl (aI gnt))), (q 11, .inl (z.1, 1584, .inl (aI gco))), (q 2, .inr (0, [.ref (q 6), .ref (q 7), .ref (q 8), .ref (q 9), .ref (q 10), .ref (q 11)])), (q 6, .inl (z.1, 66, .inl (aI (uZ fnu place (-1))))), (q 8, .inl (z.1, 66, .inl (aI gsz)))] H → va_D A [(q 1, .inr (1, [.ref (q 4), .ref (q 5), .int (iI pn), .int (iI fn)])), (q 4, .inl (z.1, 64, .inl (aI fpo))), (q 5, .inl (z.1, 16, .inl (aI ffr))), (q 9, .inl (z.1, 1584, .inl (aI grt))), (q 10, .inl (z.1, 1584, .inl (aI gnt))), (q 11, .inl (z.1, 1584, .inl (aI gco))), (q 2, .inr (0, [.ref (q 6), .ref (q 7), .ref (q 8), .ref (q 9), .ref (q 10), .ref (q 11)])), (q 6, .inl (z.1, 66, .inl (aI (uZ fnu place (-1))))), (q 8, .inl (z.1, 66, .inl (aI gsz)))] → va_S A s.heap H locs → ∀ ls : Array Slot, lv_has ls 5 [(0, .ref (q 1)), (1, .ref (q 2)), (2, .int (iI place)), (3, .int (iI i))] → W p l e (rmD 2) s m [.ref (q 1), .ref (q 2), .int (iI place)].toArray below meth c H locs 0 0 (Zv below [.ref (q 1), .ref (q 2), .int (iI place)].toArray s (rmD 2) G A (fun u9 => ∃ (gsz : Int → Int) (grt : Int → Int) (gnt : Int → Int) (gco : Int → Int), u9 = [(q 1, .inr (1, [.ref (q 4), .ref (q 5), .int (iI pn), .int (iI fn)])), (q 4, .inl (z.1, 64, .inl (aI fpo))), (q 5, .inl (z.1, 16, .inl (aI ffr))), (q 2, .inr (0, [.ref (q 6), .ref (q 7), .ref (q 8), .ref (q 9), .ref (q 10), .ref (q 11)])), (q 6, .inl (z.1, 66, .inl (aI (uZ fnu place (-1))))), (q 8, .inl (z.1, 66, .inl (aI gsz))), (q 9, .inl (z.1, 1584, .inl (aI grt))), (q 10, .inl (z.1, 1584, .inl (aI gnt))), (q 11, .inl (z.1, 1584, .inl (aI gco)))] ∧ (∀ i : Int, 0 ≤ gsz i ∧ gsz i ≤ 24) ∧ (∀ i : Int, -1 ≤ grt i ∧ grt i ≤ 63) ∧ (∀ i : Int, 0 ≤ gnt i ∧ gnt i ≤ 63) ∧ (∀ i : Int, 0 ≤ gco i ∧ gco i ≤ 1000) ∧ (TL fsz frt fnt fco gsz grt gnt gco fpo ffr place 64 fn))) (F0 m 42 ls []) := by
          intro n9
          induction n9 with
          | zero => intro gsz grt gnt gco i hmu; exact absurd hmu (Nat.not_lt_zero _)
          | succ n9 ih42 =>
            intro gsz grt gnt gco i hmu rgsz rgrt rgnt rgco hi hT H locs hP hD hS ls hl
            refine lv_iload_n hx hb d_K_tellInto_42 rfl (lv_at hl 3 rfl) ?_
            refine lv_aload_n hx hb d_K_tellInto_43 rfl (lv_at hl 0 rfl) ?_
            refine va_get (D := G) (ci := 1) (v := .int (iI fn)) (C := R_K) (T := T_K) (N := 4) hx hb hg iw_K hown hE.1 hP 0 rfl rfl 3 (by decide) (hg _ fl_K_30) (fun _ h9 => h9) rfl d_K_tellInto_44 ?_
            refine rv_icmp_ge (tgt := 90) hx hb d_K_tellInto_47 (by decide) (by constructor <;> omega) (by constructor <;> omega) (fun c_2 => ?_) (fun c_2 => ?_)
            · skip
              have hP9 : va_P G cls0 [(q 1, .inr (1, [.ref (q 4), .ref (q 5), .int (iI pn), .int (iI fn)])), (q 4, .inl (z.1, 64, .inl (aI fpo))), (q 5, .inl (z.1, 16, .inl (aI ffr))), (q 2, .inr (0, [.ref (q 6), .ref (q 7), .ref (q 8), .ref (q 9), .ref (q 10), .ref (q 11)])), (q 6, .inl (z.1, 66, .inl (aI (uZ fnu place (-1))))), (q 8, .inl (z.1, 66, .inl (aI gsz))), (q 9, .inl (z.1, 1584, .inl (aI grt))), (q 10, .inl (z.1, 1584, .inl (aI gnt))), (q 11, .inl (z.1, 1584, .inl (aI gco)))] H := hP.sub [0, 1, 2, 6, 7, 8, 3, 4, 5] rfl
              have hD9 : va_D A [(q 1, .inr (1, [.ref (q 4), .ref (q 5), .int (iI pn), .int (iI fn)])), (q 4, .inl (z.1, 64, .inl (aI fpo))), (q 5, .inl (z.1, 16, .inl (aI ffr))), (q 2, .inr (0, [.ref (q 6), .ref (q 7), .ref (q 8), .ref (q 9), .ref (q 10), .ref (q 11)])), (q 6, .inl (z.1, 66, .inl (aI (uZ fnu place (-1))))), (q 8, .inl (z.1, 66, .inl (aI gsz))), (q 9, .inl (z.1, 1584, .inl (aI grt))), (q 10, .inl (z.1, 1584, .inl (aI gnt))), (q 11, .inl (z.1, 1584, .inl (aI gco)))] := hD.sub [0, 1, 2, 6, 7, 8, 3, 4, 5] (by decide) rfl
              refine rv_vret hx hb hRt hlocks (Nat.le_of_ble_eq_true rfl) (Nat.le_of_ble_eq_true rfl) hP9 hD9 hS d_K_tellInto_90 ?_
              exact ⟨gsz, grt, gnt, gco, rfl, rgsz, rgrt, rgnt, rgco, (by rw [show fn = i by omega]; exact hT)⟩
            · skip
              have hr : gsz place < 24 := by have ha := hT.1; omega
              have hf := rfr i
              refine lv_aload_n hx hb d_K_tellInto_50 rfl (lv_at hl 0 rfl) ?_
              refine va_get (D := G) (ci := 1) (v := .ref (q 5)) (C := R_K) (T := T_K) (N := 4) hx hb hg iw_K hown hE.1 hP 0 rfl rfl 1 (by decide) (hg _ fl_K_15) (fun _ h9 => h9) rfl d_K_tellInto_51 ?_
              refine lv_iload_n hx hb d_K_tellInto_54 rfl (lv_at hl 3 rfl) ?_
              refine rv_iald hx hb hE hP 2 rfl (i := i) (by omega) (by omega) (by decide) d_K_tellInto_55 ?_
              refine lv_bipush (v := iI 64) hx hb d_K_tellInto_56 (by decide +kernel) ?_
              refine rv_idiv hx hb d_K_tellInto_58 (by (try have := rfr i); omega) (by (try have := rfr i); constructor <;> omega) (by omega) ⟨by decide, by decide⟩ ?_
              refine lv_istore (lv' := [(4, .int (iI ((ffr i) / 64))), (0, .ref (q 1)), (1, .ref (q 2)), (2, .int (iI place)), (3, .int (iI i))]) hx hb d_K_tellInto_59 hl (by decide) rfl (fun ls hl => ?_)
              refine lv_aload_n hx hb d_K_tellInto_61 rfl (lv_at hl 2 rfl) ?_
              refine lv_iload_n hx hb d_K_tellInto_62 rfl (lv_at hl 3 rfl) ?_
              refine lv_aload_n hx hb d_K_tellInto_63 rfl (lv_at hl 1 rfl) ?_
              refine va_get (D := G) (ci := 1) (v := .ref (q 5)) (C := R_K) (T := T_K) (N := 4) hx hb hg iw_K hown hE.1 hP 0 rfl rfl 1 (by decide) (hg _ fl_K_15) (fun _ h9 => h9) rfl d_K_tellInto_64 ?_
              refine lv_iload_n hx hb d_K_tellInto_67 rfl (lv_at hl 4 rfl) ?_
              refine rv_iald hx hb hE hP 2 rfl (i := i) (by omega) (by omega) (by decide) d_K_tellInto_68 ?_
              refine lv_bipush (v := iI 64) hx hb d_K_tellInto_69 (by decide +kernel) ?_
              refine rv_irem hx hb d_K_tellInto_71 (by (try have := rfr i); omega) (by (try have := rfr i); constructor <;> omega) (by omega) ⟨by decide, by decide⟩ ?_
              refine lv_iload hx hb d_K_tellInto_72 (lv_at hl 0 rfl) ?_
              refine lv_aload_n hx hb d_K_tellInto_74 rfl (lv_at hl 1 rfl) ?_
              refine va_get (D := G) (ci := 1) (v := .ref (q 4)) (C := R_K) (T := T_K) (N := 4) hx hb hg iw_K hown hE.1 hP 0 rfl rfl 0 (by decide) (hg _ fl_K_9) (fun _ h9 => h9) rfl d_K_tellInto_75 ?_
              refine lv_iload hx hb d_K_tellInto_78 (lv_at hl 0 rfl) ?_
              refine rv_iald hx hb hE hP 1 rfl (i := (ffr i) / 64) (by (try have := rfr i); omega) (by (try have := rfr i); omega) (by decide) d_K_tellInto_80 ?_
              refine qV_v (As := [.int (iI place), .int (iI ((ffr i) % 64)), .int (iI ((ffr i) / 64)), .int (iI (fpo ((ffr i) / 64)))]) (rest := []) (wr := [(q 1, .inr (1, [.ref (q 4), .ref (q 5), .int (iI pn), .int (iI fn)])), (q 4, .inl (z.1, 64, .inl (aI fpo))), (q 5, .inl (z.1, 16, .inl (aI ffr))), (q 6, .inl (z.1, 66, .inl (aI (uZ fnu place (-1)))))]) hx hb hml hown hg hE hA hS hP hD (k_A_append l G z q gsz grt gnt gco place ((ffr i) % 64) ((ffr i) / 64) (fpo ((ffr i) / 64)) (by have ha := hT.1; omega) (by assumption) (by have ha := hT.1; (try have := rgsz place); omega)) [6, 8, 3, 4, 5] [0, 1, 2, 7] rfl rfl (by decide) (by decide) (by decide) (q0 := 0) rfl rfl ml_K_46 im_A_append se_A_append in_A co_A_append ok_A_append ⟨Nat.le_of_ble_eq_true rfl, Nat.le_of_ble_eq_true rfl⟩ hl.1 rfl (Nat.le_of_ble_eq_true rfl) d_K_tellInto_81 ⟨Nat.le_of_ble_eq_true rfl, Nat.le_of_ble_eq_true rfl⟩ (fun u9 H locs hw hP hD hS => ?_)
              subst hw
              have hP : va_P G cls0 [(q 1, .inr (1, [.ref (q 4), .ref (q 5), .int (iI pn), .int (iI fn)])), (q 4, .inl (z.1, 64, .inl (aI fpo))), (q 5, .inl (z.1, 16, .inl (aI ffr))), (q 6, .inl (z.1, 66, .inl (aI (uZ fnu place (-1))))), (q 2, .inr (0, [.ref (q 6), .ref (q 7), .ref (q 8), .ref (q 9), .ref (q 10), .ref (q 11)])), (q 8, .inl (z.1, 66, .inl (aI (uZ gsz place (gsz place + 1))))), (q 9, .inl (z.1, 1584, .inl (aI (uZ grt (place * 24 + gsz place) ((ffr i) % 64))))), (q 10, .inl (z.1, 1584, .inl (aI (uZ gnt (place * 24 + gsz place) ((ffr i) / 64))))), (q 11, .inl (z.1, 1584, .inl (aI (uZ gco (place * 24 + gsz place) (fpo ((ffr i) / 64))))))] H := hP
              have hD : va_D A [(q 1, .inr (1, [.ref (q 4), .ref (q 5), .int (iI pn), .int (iI fn)])), (q 4, .inl (z.1, 64, .inl (aI fpo))), (q 5, .inl (z.1, 16, .inl (aI ffr))), (q 6, .inl (z.1, 66, .inl (aI (uZ fnu place (-1))))), (q 2, .inr (0, [.ref (q 6), .ref (q 7), .ref (q 8), .ref (q 9), .ref (q 10), .ref (q 11)])), (q 8, .inl (z.1, 66, .inl (aI (uZ gsz place (gsz place + 1))))), (q 9, .inl (z.1, 1584, .inl (aI (uZ grt (place * 24 + gsz place) ((ffr i) % 64))))), (q 10, .inl (z.1, 1584, .inl (aI (uZ gnt (place * 24 + gsz place) ((ffr i) / 64))))), (q 11, .inl (z.1, 1584, .inl (aI (uZ gco (place * 24 + gsz place) (fpo ((ffr i) / 64))))))] := hD
              refine lv_iinc (v := iI (i + 1)) (lv' := [(3, .int (iI (i + 1))), (4, .int (iI ((ffr i) / 64))), (0, .ref (q 1)), (1, .ref (q 2)), (2, .int (iI place))]) hx hb d_K_tellInto_84 hl (k := 4) rfl (iI_add _ _) (by decide) rfl (fun ls hl => ?_)
              refine lv_goto (tgt := 42) hx hb d_K_tellInto_87 (by decide) ?_
              exact ih42 _ _ _ _ (i + 1) (by omega) (uZ_rng rgsz (by have := rgsz place; omega)) (uZ_rng rgrt (by omega)) (uZ_rng rgnt (by omega)) (uZ_rng rgco (rpo _)) (by omega) (TL_friend hi.1 hr hT) H _ (hP.sub [0, 1, 2, 6, 7, 8, 4, 3, 5] rfl) (hD.sub [0, 1, 2, 6, 7, 8, 4, 3, 5] (by decide) rfl) hS ls (lv_sub hl [2, 3, 4, 0] rfl)
        exact L42 ((fn - 0 : Int).toNat + 1) gsz grt gnt gco 0 (Nat.lt_succ_self _) rgsz rgrt rgnt rgco (by omega) (by rw [show (64 : Int) = n by omega]; exact hT) H _ (hP.sub [0, 1, 2, 3, 4, 5, 6, 7, 8] rfl) (hD.sub [0, 1, 2, 3, 4, 5, 6, 7, 8] (by decide) rfl) hS ls (lv_sub hl [1, 2, 3, 0] rfl)
      · skip
        refine lv_aload_n hx hb d_K_tellInto_13 rfl (lv_at hl 0 rfl) ?_
        refine lv_iload_n hx hb d_K_tellInto_14 rfl (lv_at hl 3 rfl) ?_
        refine qV_i (As := [.int (iI n)]) (rest := []) (wr := [(q 5, .inl (z.1, 16, .inl (aI ffr))), (q 9, .inl (z.1, 1584, .inl (aI grt))), (q 10, .inl (z.1, 1584, .inl (aI gnt))), (q 11, .inl (z.1, 1584, .inl (aI gco))), (q 2, .inr (0, [.ref (q 6), .ref (q 7), .ref (q 8), .ref (q 9), .ref (q 10), .ref (q 11)])), (q 6, .inl (z.1, 66, .inl (aI (uZ fnu place (-1))))), (q 8, .inl (z.1, 66, .inl (aI gsz)))]) hx hb hml hown hg hE hA hS hP hD (k_K_hasPort l G z q fpo pn fn n (by omega) (by assumption)) [0, 1] [2, 3, 4, 5, 6, 7, 8] rfl rfl (by decide) (by decide) (by decide) (q0 := 0) rfl rfl ml_K_18 im_K_hasPort se_K_hasPort in_K co_K_hasPort ok_K_hasPort ⟨Nat.le_of_ble_eq_true rfl, Nat.le_of_ble_eq_true rfl⟩ hl.1 rfl (Nat.le_of_ble_eq_true rfl) d_K_tellInto_15 ⟨Nat.le_of_ble_eq_true rfl, Nat.le_of_ble_eq_true rfl⟩ (fun r9 u9 H locs hw hP hD hS => ?_)
        obtain ⟨rb_3, rfl, rfl, fb_4⟩ := hw
        have hP : va_P G cls0 [(q 5, .inl (z.1, 16, .inl (aI ffr))), (q 9, .inl (z.1, 1584, .inl (aI grt))), (q 10, .inl (z.1, 1584, .inl (aI gnt))), (q 11, .inl (z.1, 1584, .inl (aI gco))), (q 2, .inr (0, [.ref (q 6), .ref (q 7), .ref (q 8), .ref (q 9), .ref (q 10), .ref (q 11)])), (q 6, .inl (z.1, 66, .inl (aI (uZ fnu place (-1))))), (q 8, .inl (z.1, 66, .inl (aI gsz))), (q 1, .inr (1, [.ref (q 4), .ref (q 5), .int (iI pn), .int (iI fn)])), (q 4, .inl (z.1, 64, .inl (aI fpo)))] H := hP
        have hD : va_D A [(q 5, .inl (z.1, 16, .inl (aI ffr))), (q 9, .inl (z.1, 1584, .inl (aI grt))), (q 10, .inl (z.1, 1584, .inl (aI gnt))), (q 11, .inl (z.1, 1584, .inl (aI gco))), (q 2, .inr (0, [.ref (q 6), .ref (q 7), .ref (q 8), .ref (q 9), .ref (q 10), .ref (q 11)])), (q 6, .inl (z.1, 66, .inl (aI (uZ fnu place (-1))))), (q 8, .inl (z.1, 66, .inl (aI gsz))), (q 1, .inr (1, [.ref (q 4), .ref (q 5), .int (iI pn), .int (iI fn)])), (q 4, .inl (z.1, 64, .inl (aI fpo)))] := hD
        refine rv_if_eq (tgt := 34) hx hb d_K_tellInto_18 (by decide) (by constructor <;> omega) (fun c_5 => ?_) (fun c_5 => ?_)
        · skip
          have hz : fpo n = 0 := by omega
          refine lv_iinc (v := iI (n + 1)) (lv' := [(3, .int (iI (n + 1))), (0, .ref (q 1)), (1, .ref (q 2)), (2, .int (iI place))]) hx hb d_K_tellInto_34 hl (k := 3) rfl (iI_add _ _) (by decide) rfl (fun ls hl => ?_)
          refine lv_goto (tgt := 7) hx hb d_K_tellInto_37 (by decide) ?_
          exact ih7 _ _ _ _ (n + 1) (by omega) (by first | exact uZ_rng rgsz (by have := rgsz place; omega) | exact rgsz) (by first | exact uZ_rng rgrt (by omega) | exact rgrt) (by first | exact uZ_rng rgnt (by omega) | exact rgnt) (by first | exact uZ_rng rgco (rpo n) | exact rgco) (by omega) (by first | exact TL_port hn.1 hz hr hT | exact TL_skip hn.1 hz hT) H _ (hP.sub [7, 8, 0, 1, 2, 3, 4, 5, 6] rfl) (hD.sub [7, 8, 0, 1, 2, 3, 4, 5, 6] (by decide) rfl) hS ls (lv_sub hl [1, 2, 3, 0] rfl)
        · skip
          have hz : ¬ fpo n = 0 := by omega
          have hr : gsz place < 24 := by have hm := cI_mono fpo (show n ≤ 64 by omega); have ha := hT.1; omega
          refine lv_aload_n hx hb d_K_tellInto_21 rfl (lv_at hl 1 rfl) ?_
          refine lv_iload_n hx hb d_K_tellInto_22 rfl (lv_at hl 2 rfl) ?_
          refine lv_iconst (v := iI (-1)) hx hb d_K_tellInto_23 rfl ?_
          refine lv_iload_n hx hb d_K_tellInto_24 rfl (lv_at hl 3 rfl) ?_
          refine lv_aload_n hx hb d_K_tellInto_25 rfl (lv_at hl 0 rfl) ?_
          refine va_get (D := G) (ci := 1) (v := .ref (q 4)) (C := R_K) (T := T_K) (N := 4) hx hb hg iw_K hown hE.1 hP 7 rfl rfl 0 (by decide) (hg _ fl_K_9) (fun _ h9 => h9) rfl d_K_tellInto_26 ?_
          refine lv_iload_n hx hb d_K_tellInto_29 rfl (lv_at hl 3 rfl) ?_
          refine rv_iald hx hb hE hP 8 rfl (i := n) (by omega) (by omega) (by decide) d_K_tellInto_30 ?_
          refine qV_v (As := [.int (iI place), .int (iI ((-1))), .int (iI n), .int (iI (fpo n))]) (rest := []) (wr := [(q 5, .inl (z.1, 16, .inl (aI ffr))), (q 6, .inl (z.1, 66, .inl (aI (uZ fnu place (-1))))), (q 1, .inr (1, [.ref (q 4), .ref (q 5), .int (iI pn), .int (iI fn)])), (q 4, .inl (z.1, 64, .inl (aI fpo)))]) hx hb hml hown hg hE hA hS hP hD (k_A_append l G z q gsz grt gnt gco place ((-1)) n (fpo n) (by have hm := cI_mono fpo (show n ≤ 64 by omega); have ha := hT.1; omega) (by assumption) (by have hm := cI_mono fpo (show n ≤ 64 by omega); have ha := hT.1; (try have := rgsz place); omega)) [4, 6, 1, 2, 3] [0, 5, 7, 8] rfl rfl (by decide) (by decide) (by decide) (q0 := 0) rfl rfl ml_K_46 im_A_append se_A_append in_A co_A_append ok_A_append ⟨Nat.le_of_ble_eq_true rfl, Nat.le_of_ble_eq_true rfl⟩ hl.1 rfl (Nat.le_of_ble_eq_true rfl) d_K_tellInto_31 ⟨Nat.le_of_ble_eq_true rfl, Nat.le_of_ble_eq_true rfl⟩ (fun u9 H locs hw hP hD hS => ?_)
          subst hw
          have hP : va_P G cls0 [(q 5, .inl (z.1, 16, .inl (aI ffr))), (q 6, .inl (z.1, 66, .inl (aI (uZ fnu place (-1))))), (q 1, .inr (1, [.ref (q 4), .ref (q 5), .int (iI pn), .int (iI fn)])), (q 4, .inl (z.1, 64, .inl (aI fpo))), (q 2, .inr (0, [.ref (q 6), .ref (q 7), .ref (q 8), .ref (q 9), .ref (q 10), .ref (q 11)])), (q 8, .inl (z.1, 66, .inl (aI (uZ gsz place (gsz place + 1))))), (q 9, .inl (z.1, 1584, .inl (aI (uZ grt (place * 24 + gsz place) ((-1)))))), (q 10, .inl (z.1, 1584, .inl (aI (uZ gnt (place * 24 + gsz place) n)))), (q 11, .inl (z.1, 1584, .inl (aI (uZ gco (place * 24 + gsz place) (fpo n)))))] H := hP
          have hD : va_D A [(q 5, .inl (z.1, 16, .inl (aI ffr))), (q 6, .inl (z.1, 66, .inl (aI (uZ fnu place (-1))))), (q 1, .inr (1, [.ref (q 4), .ref (q 5), .int (iI pn), .int (iI fn)])), (q 4, .inl (z.1, 64, .inl (aI fpo))), (q 2, .inr (0, [.ref (q 6), .ref (q 7), .ref (q 8), .ref (q 9), .ref (q 10), .ref (q 11)])), (q 8, .inl (z.1, 66, .inl (aI (uZ gsz place (gsz place + 1))))), (q 9, .inl (z.1, 1584, .inl (aI (uZ grt (place * 24 + gsz place) ((-1)))))), (q 10, .inl (z.1, 1584, .inl (aI (uZ gnt (place * 24 + gsz place) n)))), (q 11, .inl (z.1, 1584, .inl (aI (uZ gco (place * 24 + gsz place) (fpo n)))))] := hD
          refine lv_iinc (v := iI (n + 1)) (lv' := [(3, .int (iI (n + 1))), (0, .ref (q 1)), (1, .ref (q 2)), (2, .int (iI place))]) hx hb d_K_tellInto_34 hl (k := 3) rfl (iI_add _ _) (by decide) rfl (fun ls hl => ?_)
          refine lv_goto (tgt := 7) hx hb d_K_tellInto_37 (by decide) ?_
          exact ih7 _ _ _ _ (n + 1) (by omega) (by first | exact uZ_rng rgsz (by have := rgsz place; omega) | exact rgsz) (by first | exact uZ_rng rgrt (by omega) | exact rgrt) (by first | exact uZ_rng rgnt (by omega) | exact rgnt) (by first | exact uZ_rng rgco (rpo n) | exact rgco) (by omega) (by first | exact TL_port hn.1 hz hr hT | exact TL_skip hn.1 hz hT) H _ (hP.sub [2, 3, 0, 6, 7, 8, 4, 1, 5] rfl) (hD.sub [2, 3, 0, 6, 7, 8, 4, 1, 5] (by decide) rfl) hS ls (lv_sub hl [1, 2, 3, 0] rfl)
  exact L7 ((64 - 0 : Int).toNat + 1) (uZ fsz place 0) frt fnt fco 0 (Nat.lt_succ_self _) (uZ_rng rsz (by omega)) rrt rnt rco (by omega) TL_0 H _ (hP.sub [0, 1, 2, 3, 4, 5, 6, 7, 8] rfl) (hD.sub [0, 1, 2, 3, 4, 5, 6, 7, 8] (by decide) rfl) hS ls (lv_sub hl [1, 2, 3, 0] rfl)
