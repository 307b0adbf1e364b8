set_option maxHeartbeats 4000000 in
set_option maxRecDepth 100000 in
theorem k_Y_forget (l : Launch) (G : va_G) (z : tz3) (q : Nat → Nat) (self : Int) (fresh : Int)  : Kv l y_Y_forget c_Y_forget 1 (rmD 0) G z [.ref (q 3)] [(q 3, .inr (2, [.ref (q 2), .int (iI self), .ref (q 12), .ref (q 13), .ref (q 14), .int (iI fresh)]))] (fun u9 => u9 = [(q 3, .inr (2, [.ref (q 2), .int (iI self), .ref (q 12), .ref (q 13), .ref (q 14), .int (iI 0)]))]) := by
  refine Kv.of (by decide) (Nat.le_of_ble_eq_true rfl) ?_
  intro p e s m below meth c A hB hP hD ls hl
  obtain ⟨hx, hb, hRt, hml, hown, hlocks, hg, hE, hA, hin⟩ := hB
  have hown : s.vm.findClass R_Y = some m.cls := hown
  have hl : lv_has ls 1 [(0, .ref (q 3))] := hl
  obtain ⟨H, hH⟩ : ∃ H, H = s.heap := ⟨_, rfl⟩
  have hS : va_S A s.heap H [] := by rw [hH]; exact va_S.rf
  rw [← hH] at hP
  rw [← hH]
  have hP : va_P G cls0 [(q 3, .inr (2, [.ref (q 2), .int (iI self), .ref (q 12), .ref (q 13), .ref (q 14), .int (iI fresh)]))] H := hP
  have hD : va_D A [(q 3, .inr (2, [.ref (q 2), .int (iI self), .ref (q 12), .ref (q 13), .ref (q 14), .int (iI fresh)]))] := hD
  refine lv_aload_n hx hb d_Y_forget_0 rfl (lv_at hl 0 rfl) ?_
  refine lv_iconst (v := iI 0) hx hb d_Y_forget_1 rfl ?_
  refine va_put (D := G) (ci := 2) (v := .int (iI 0)) (ty := .boolean) (C := R_Y) (T := T_Y) (N := 6) hx hb hg iw_Y ty_Y ty_Y_ok nm_Y hown hE.1 hP hD hS 0 rfl rfl 5 (by decide) (hg _ fl_Y_30) (fun _ h9 => h9) rfl (by decide +kernel) nar_b0 (by decide +kernel) (Nat.le_of_ble_eq_true rfl) d_Y_forget_2 (fun H locs hP hD hS => ?_)
  have hP : va_P G cls0 [(q 3, .inr (2, [.ref (q 2), .int (iI self), .ref (q 12), .ref (q 13), .ref (q 14), .int (iI 0)]))] H := hP
  have hD : va_D A [(q 3, .inr (2, [.ref (q 2), .int (iI self), .ref (q 12), .ref (q 13), .ref (q 14), .int (iI 0)]))] := hD
  have hP9 : va_P G cls0 [(q 3, .inr (2, [.ref (q 2), .int (iI self), .ref (q 12), .ref (q 13), .ref (q 14), .int (iI 0)]))] H := hP.sub [0] rfl
  have hD9 : va_D A [(q 3, .inr (2, [.ref (q 2), .int (iI self), .ref (q 12), .ref (q 13), .ref (q 14), .int (iI 0)]))] := hD.sub [0] (by decide) rfl
  refine rv_vret hx hb hRt hlocks (Nat.le_of_ble_eq_true rfl) (Nat.le_of_ble_eq_true rfl) hP9 hD9 hS d_Y_forget_5 ?_
  exact rfl
set_option maxHeartbeats 4000000 in
set_option maxRecDepth 100000 in
theorem k_Y_beginAnew (l : Launch) (G : va_G) (z : tz3) (q : Nat → Nat) (self : Int) (fresh : Int) (fsu : Int → Int) (fsr : Int → Int) (fse : Int → Int) (rsu : ∀ i : Int, -1 ≤ fsu i ∧ fsu i ≤ 64000) (rsr : ∀ i : Int, 0 ≤ fsr i ∧ fsr i ≤ 16777215) (rse : ∀ i : Int, 0 ≤ fse i ∧ fse i ≤ 1) (hself : 0 ≤ self ∧ self < 64) : Kv l y_Y_beginAnew c_Y_beginAnew 2 (rmD 0) G z [.ref (q 3)] [(q 3, .inr (2, [.ref (q 2), .int (iI self), .ref (q 12), .ref (q 13), .ref (q 14), .int (iI fresh)])), (q 12, .inl (z.1, 64, .inl (aI fsu))), (q 13, .inl (z.1, 64, .inl (aI fsr))), (q 14, .inl (z.2.1, 64, .inl (aI fse)))] (fun u9 => ∃ (gsu : Int → Int) (gsr : Int → Int) (gse : Int → Int), u9 = [(q 3, .inr (2, [.ref (q 2), .int (iI self), .ref (q 12), .ref (q 13), .ref (q 14), .int (iI fresh)])), (q 12, .inl (z.1, 64, .inl (aI gsu))), (q 13, .inl (z.1, 64, .inl (aI gsr))), (q 14, .inl (z.2.1, 64, .inl (aI gse)))] ∧ (∀ i : Int, -1 ≤ gsu i ∧ gsu i ≤ 64000) ∧ (∀ i : Int, 0 ≤ gsr i ∧ gsr i ≤ 16777215) ∧ (∀ i : Int, 0 ≤ gse i ∧ gse i ≤ 1) ∧ (gsu self = 0) ∧ (∀ t : Int, 0 ≤ t → t < 64 → t ≠ self → gsu t = -1) ∧ (∀ t : Int, 0 ≤ t → t < 64 → gsr t = 0) ∧ (∀ t : Int, 0 ≤ t → t < 64 → gse t = 0)) := by
  refine Kv.of (by decide) (Nat.le_of_ble_eq_true rfl) ?_
  intro p e s m below meth c A hB hP hD ls hl
  obtain ⟨hx, hb, hRt, hml, hown, hlocks, hg, hE, hA, hin⟩ := hB
  have hown : s.vm.findClass R_Y = some m.cls := hown
  have hl : lv_has ls 2 [(0, .ref (q 3))] := hl
  obtain ⟨H, hH⟩ : ∃ H, H = s.heap := ⟨_, rfl⟩
  have hS : va_S A s.heap H [] := by rw [hH]; exact va_S.rf
  rw [← hH] at hP
  rw [← hH]
  have hP : va_P G cls0 [(q 3, .inr (2, [.ref (q 2), .int (iI self), .ref (q 12), .ref (q 13), .ref (q 14), .int (iI fresh)])), (q 12, .inl (z.1, 64, .inl (aI fsu))), (q 13, .inl (z.1, 64, .inl (aI fsr))), (q 14, .inl (z.2.1, 64, .inl (aI fse)))] H := hP
  have hD : va_D A [(q 3, .inr (2, [.ref (q 2), .int (iI self), .ref (q 12), .ref (q 13), .ref (q 14), .int (iI fresh)])), (q 12, .inl (z.1, 64, .inl (aI fsu))), (q 13, .inl (z.1, 64, .inl (aI fsr))), (q 14, .inl (z.2.1, 64, .inl (aI fse)))] := hD
  refine lv_iconst (v := iI 0) hx hb d_Y_beginAnew_0 rfl ?_
  refine lv_istore_n (lv' := [(1, .int (iI 0)), (0, .ref (q 3))]) hx hb d_Y_beginAnew_1 rfl hl (by decide) rfl (fun ls hl => ?_)
  have L2 : ∀ n9 : Nat, ∀ (gsu : Int → Int) (gsr : Int → Int) (gse : Int → Int) (i : Int), (64 - i : Int).toNat < n9 → (∀ i : Int, -1 ≤ gsu i ∧ gsu i ≤ 64000) → (∀ i : Int, 0 ≤ gsr i ∧ gsr i ≤ 16777215) → (∀ i : Int, 0 ≤ gse i ∧ gse i ≤ 1) → (0 ≤ i ∧ i ≤ 64) → (∀ t : Int, 0 ≤ t → t < i → gsu t = -1 ∧ gsr t = 0 ∧ gse t = 0) → ∀ (H : Heap) (locs : List Loc), va_P G cls0 [(q 3, .inr (2, [.ref (q 2), .int (iI self), .ref (q 12), .ref (q 13), .ref (q 14), .int (iI fresh)])), (q 12, .inl (z.1, 64, .inl (aI gsu))), (q 13, .inl (z.1, 64, .inl (aI gsr))), (q 14, .inl (z.2.1, 64, .inl (aI gse)))] H → va_D A [(q 3, .inr (2, [.ref (q 2), .int (iI self), .ref (q 12), .ref (q 13), .ref (q 14), .int (iI fresh)])), (q 12, .inl (z.1, 64, .inl (aI gsu))), (q 13, .inl (z.1, 64, .inl (aI gsr))), (q 14, .inl (z.2.1, 64, .inl (aI gse)))] → va_S A s.heap H locs → ∀ ls : Array Slot, lv_has ls 2 [(0, .ref (q 3)), (1, .int (iI i))] → W p l e (rmD 0) s m [.ref (q 3)].toArray below meth c H locs 0 0 (Zv below [.ref (q 3)].toArray s (rmD 0) G A (fun u9 => ∃ (gsu : Int → Int) (gsr : Int → Int) (gse : Int → Int), u9 = [(q 3, .inr (2, [.ref (q 2), .int (iI self), .ref (q 12), .ref (q 13), .ref (q 14), .int (iI fresh)])), (q 12, .inl (z.1, 64, .inl (aI gsu))), (q 13, .inl (z.1, 64, .inl (aI gsr))), (q 14, .inl (z.2.1, 64, .inl (aI gse)))] ∧ (∀ i : Int, -1 ≤ gsu i ∧ gsu i ≤ 64000) ∧ (∀ i : Int, 0 ≤ gsr i ∧ gsr i ≤ 16777215) ∧ (∀ i : Int, 0 ≤ gse i ∧ gse i ≤ 1) ∧ (gsu self = 0) ∧ (∀ t : Int, 0 ≤ t → t < 64 → t ≠ self → gsu t = -1) ∧ (∀ t : Int, 0 ≤ t → t < 64 → gsr t = 0) ∧ (∀ t : Int, 0 ≤ t → t < 64 → gse t = 0))) (F0 m 2 ls []) := by
    intro n9
    induction n9 with
    | zero => intro gsu gsr gse i hmu; exact absurd hmu (Nat.not_lt_zero _)
    | succ n9 ih2 =>
      intro gsu gsr gse i hmu rgsu rgsr rgse hi h0 H locs hP hD hS ls hl
      refine lv_iload_n hx hb d_Y_beginAnew_2 rfl (lv_at hl 1 rfl) ?_
      refine lv_bipush (v := iI 64) hx hb d_Y_beginAnew_3 (by decide +kernel) ?_
      refine rv_icmp_ge (tgt := 35) hx hb d_Y_beginAnew_5 (by decide) (by constructor <;> omega) ⟨by decide, by decide⟩ (fun c_1 => ?_) (fun c_1 => ?_)
      · skip
        refine lv_aload_n hx hb d_Y_beginAnew_35 rfl (lv_at hl 0 rfl) ?_
        refine va_get (D := G) (ci := 2) (v := .ref (q 12)) (C := R_Y) (T := T_Y) (N := 6) hx hb hg iw_Y hown hE.1 hP 0 rfl rfl 2 (by decide) (hg _ fl_Y_9) (fun _ h9 => h9) rfl d_Y_beginAnew_36 ?_
        refine lv_aload_n hx hb d_Y_beginAnew_39 rfl (lv_at hl 0 rfl) ?_
        refine va_get (D := G) (ci := 2) (v := .int (iI self)) (C := R_Y) (T := T_Y) (N := 6) hx hb hg iw_Y hown hE.1 hP 0 rfl rfl 1 (by decide) (hg _ fl_Y_26) (fun _ h9 => h9) rfl d_Y_beginAnew_40 ?_
        refine lv_iconst (v := iI 0) hx hb d_Y_beginAnew_43 rfl ?_
        refine rv_iast hx hb hE hP hD hS 1 rfl (i := self) (x := 0) (by omega) (by omega) (by decide) d_Y_beginAnew_44 (fun H locs hP hD hS => ?_)
        have hP : va_P G cls0 [(q 3, .inr (2, [.ref (q 2), .int (iI self), .ref (q 12), .ref (q 13), .ref (q 14), .int (iI fresh)])), (q 12, .inl (z.1, 64, .inl (aI (uZ gsu self 0)))), (q 13, .inl (z.1, 64, .inl (aI gsr))), (q 14, .inl (z.2.1, 64, .inl (aI gse)))] H := hP
        have hD : va_D A [(q 3, .inr (2, [.ref (q 2), .int (iI self), .ref (q 12), .ref (q 13), .ref (q 14), .int (iI fresh)])), (q 12, .inl (z.1, 64, .inl (aI (uZ gsu self 0)))), (q 13, .inl (z.1, 64, .inl (aI gsr))), (q 14, .inl (z.2.1, 64, .inl (aI gse)))] := hD
        have hP9 : va_P G cls0 [(q 3, .inr (2, [.ref (q 2), .int (iI self), .ref (q 12), .ref (q 13), .ref (q 14), .int (iI fresh)])), (q 12, .inl (z.1, 64, .inl (aI (uZ gsu self 0)))), (q 13, .inl (z.1, 64, .inl (aI gsr))), (q 14, .inl (z.2.1, 64, .inl (aI gse)))] H := hP.sub [0, 1, 2, 3] rfl
        have hD9 : va_D A [(q 3, .inr (2, [.ref (q 2), .int (iI self), .ref (q 12), .ref (q 13), .ref (q 14), .int (iI fresh)])), (q 12, .inl (z.1, 64, .inl (aI (uZ gsu self 0)))), (q 13, .inl (z.1, 64, .inl (aI gsr))), (q 14, .inl (z.2.1, 64, .inl (aI gse)))] := hD.sub [0, 1, 2, 3] (by decide) rfl
        refine rv_vret hx hb hRt hlocks (Nat.le_of_ble_eq_true rfl) (Nat.le_of_ble_eq_true rfl) hP9 hD9 hS d_Y_beginAnew_45 ?_
        exact ⟨(uZ gsu self 0), gsr, gse, rfl, (uZ_rng rgsu (by omega)), rgsr, rgse, uZ_s, (fun t t0 t1 ts => by rw [uZ_n ts]; exact (h0 t t0 (by omega)).1), (fun t t0 t1 => (h0 t t0 (by omega)).2.1), (fun t t0 t1 => (h0 t t0 (by omega)).2.2)⟩
      · skip
        refine lv_aload_n hx hb d_Y_beginAnew_8 rfl (lv_at hl 0 rfl) ?_
        refine va_get (D := G) (ci := 2) (v := .ref (q 12)) (C := R_Y) (T := T_Y) (N := 6) hx hb hg iw_Y hown hE.1 hP 0 rfl rfl 2 (by decide) (hg _ fl_Y_9) (fun _ h9 => h9) rfl d_Y_beginAnew_9 ?_
        refine lv_iload_n hx hb d_Y_beginAnew_12 rfl (lv_at hl 1 rfl) ?_
        refine lv_iconst (v := iI (-1)) hx hb d_Y_beginAnew_13 rfl ?_
        refine rv_iast hx hb hE hP hD hS 1 rfl (i := i) (x := (-1)) (by omega) (by omega) (by decide) d_Y_beginAnew_14 (fun H locs hP hD hS => ?_)
        have hP : va_P G cls0 [(q 3, .inr (2, [.ref (q 2), .int (iI self), .ref (q 12), .ref (q 13), .ref (q 14), .int (iI fresh)])), (q 12, .inl (z.1, 64, .inl (aI (uZ gsu i ((-1)))))), (q 13, .inl (z.1, 64, .inl (aI gsr))), (q 14, .inl (z.2.1, 64, .inl (aI gse)))] H := hP
        have hD : va_D A [(q 3, .inr (2, [.ref (q 2), .int (iI self), .ref (q 12), .ref (q 13), .ref (q 14), .int (iI fresh)])), (q 12, .inl (z.1, 64, .inl (aI (uZ gsu i ((-1)))))), (q 13, .inl (z.1, 64, .inl (aI gsr))), (q 14, .inl (z.2.1, 64, .inl (aI gse)))] := hD
        refine lv_aload_n hx hb d_Y_beginAnew_15 rfl (lv_at hl 0 rfl) ?_
        refine va_get (D := G) (ci := 2) (v := .ref (q 13)) (C := R_Y) (T := T_Y) (N := 6) hx hb hg iw_Y hown hE.1 hP 0 rfl rfl 3 (by decide) (hg _ fl_Y_15) (fun _ h9 => h9) rfl d_Y_beginAnew_16 ?_
        refine lv_iload_n hx hb d_Y_beginAnew_19 rfl (lv_at hl 1 rfl) ?_
        refine lv_iconst (v := iI 0) hx hb d_Y_beginAnew_20 rfl ?_
        refine rv_iast hx hb hE hP hD hS 2 rfl (i := i) (x := 0) (by omega) (by omega) (by decide) d_Y_beginAnew_21 (fun H locs hP hD hS => ?_)
        have hP : va_P G cls0 [(q 3, .inr (2, [.ref (q 2), .int (iI self), .ref (q 12), .ref (q 13), .ref (q 14), .int (iI fresh)])), (q 12, .inl (z.1, 64, .inl (aI (uZ gsu i ((-1)))))), (q 13, .inl (z.1, 64, .inl (aI (uZ gsr i 0)))), (q 14, .inl (z.2.1, 64, .inl (aI gse)))] H := hP
        have hD : va_D A [(q 3, .inr (2, [.ref (q 2), .int (iI self), .ref (q 12), .ref (q 13), .ref (q 14), .int (iI fresh)])), (q 12, .inl (z.1, 64, .inl (aI (uZ gsu i ((-1)))))), (q 13, .inl (z.1, 64, .inl (aI (uZ gsr i 0)))), (q 14, .inl (z.2.1, 64, .inl (aI gse)))] := hD
        refine lv_aload_n hx hb d_Y_beginAnew_22 rfl (lv_at hl 0 rfl) ?_
        refine va_get (D := G) (ci := 2) (v := .ref (q 14)) (C := R_Y) (T := T_Y) (N := 6) hx hb hg iw_Y hown hE.1 hP 0 rfl rfl 4 (by decide) (hg _ fl_Y_18) (fun _ h9 => h9) rfl d_Y_beginAnew_23 ?_
        refine lv_iload_n hx hb d_Y_beginAnew_26 rfl (lv_at hl 1 rfl) ?_
        refine lv_iconst (v := iI 0) hx hb d_Y_beginAnew_27 rfl ?_
        refine rv_zast hx hb hE hP hD hS 3 rfl (i := i) (x := 0) (by omega) (by omega) (by decide) (Or.inl rfl) d_Y_beginAnew_28 (fun H locs hP hD hS => ?_)
        have hP : va_P G cls0 [(q 3, .inr (2, [.ref (q 2), .int (iI self), .ref (q 12), .ref (q 13), .ref (q 14), .int (iI fresh)])), (q 12, .inl (z.1, 64, .inl (aI (uZ gsu i ((-1)))))), (q 13, .inl (z.1, 64, .inl (aI (uZ gsr i 0)))), (q 14, .inl (z.2.1, 64, .inl (aI (uZ gse i 0))))] H := hP
        have hD : va_D A [(q 3, .inr (2, [.ref (q 2), .int (iI self), .ref (q 12), .ref (q 13), .ref (q 14), .int (iI fresh)])), (q 12, .inl (z.1, 64, .inl (aI (uZ gsu i ((-1)))))), (q 13, .inl (z.1, 64, .inl (aI (uZ gsr i 0)))), (q 14, .inl (z.2.1, 64, .inl (aI (uZ gse i 0))))] := hD
        refine lv_iinc (v := iI (i + 1)) (lv' := [(1, .int (iI (i + 1))), (0, .ref (q 3))]) hx hb d_Y_beginAnew_29 hl (k := 1) rfl (iI_add _ _) (by decide) rfl (fun ls hl => ?_)
        refine lv_goto (tgt := 2) hx hb d_Y_beginAnew_32 (by decide) ?_
        exact ih2 _ _ _ (i + 1) (by omega) (uZ_rng rgsu (by omega)) (uZ_rng rgsr (by omega)) (uZ_rng rgse (by omega)) (by omega) (fun t t0 t1 => if e : t = i then (by subst e; exact ⟨uZ_s, uZ_s, uZ_s⟩) else (by rw [uZ_n e, uZ_n e, uZ_n e]; exact h0 t t0 (by omega))) H _ (hP.sub [0, 1, 2, 3] rfl) (hD.sub [0, 1, 2, 3] (by decide) rfl) hS ls (lv_sub hl [1, 0] rfl)
  exact L2 ((64 - 0 : Int).toNat + 1) fsu fsr fse 0 (Nat.lt_succ_self _) rsu rsr rse (by omega) (fun t h0 h1 => absurd h1 (by omega)) H _ (hP.sub [0, 1, 2, 3] rfl) (hD.sub [0, 1, 2, 3] (by decide) rfl) hS ls (lv_sub hl [1, 0] rfl)
set_option maxHeartbeats 4000000 in
set_option maxRecDepth 100000 in
theorem k_Y_nearestUnsettled (l : Launch) (G : va_G) (z : tz3) (q : Nat → Nat) (self : Int) (fresh : Int) (fsu : Int → Int) (fse : Int → Int) (rsu : ∀ i : Int, -1 ≤ fsu i ∧ fsu i ≤ 64000) (rse : ∀ i : Int, 0 ≤ fse i ∧ fse i ≤ 1) : Ki l y_Y_nearestUnsettled c_Y_nearestUnsettled 3 (some .int) (rmD 0) G z [.ref (q 3)] [(q 3, .inr (2, [.ref (q 2), .int (iI self), .ref (q 12), .ref (q 13), .ref (q 14), .int (iI fresh)])), (q 12, .inl (z.1, 64, .inl (aI fsu))), (q 14, .inl (z.2.1, 64, .inl (aI fse)))] (fun r9 u9 => ∃ (rv : Int), u9 = [(q 3, .inr (2, [.ref (q 2), .int (iI self), .ref (q 12), .ref (q 13), .ref (q 14), .int (iI fresh)])), (q 12, .inl (z.1, 64, .inl (aI fsu))), (q 14, .inl (z.2.1, 64, .inl (aI fse)))] ∧ r9 = iI rv ∧ (NRS fsu fse 64 rv)) := by
  refine Ki.of (by decide) (Nat.le_of_ble_eq_true rfl) ?_
  intro p e s m below meth c A hB hP hD ls hl
  obtain ⟨hx, hb, hRt, hml, hown, hlocks, hg, hE, hA, hin⟩ := hB
  have hown : s.vm.findClass R_Y = some m.cls := hown
  have hl : lv_has ls 3 [(0, .ref (q 3))] := hl
  obtain ⟨H, hH⟩ : ∃ H, H = s.heap := ⟨_, rfl⟩
  have hS : va_S A s.heap H [] := by rw [hH]; exact va_S.rf
  rw [← hH] at hP
  rw [← hH]
  have hP : va_P G cls0 [(q 3, .inr (2, [.ref (q 2), .int (iI self), .ref (q 12), .ref (q 13), .ref (q 14), .int (iI fresh)])), (q 12, .inl (z.1, 64, .inl (aI fsu))), (q 14, .inl (z.2.1, 64, .inl (aI fse)))] H := hP
  have hD : va_D A [(q 3, .inr (2, [.ref (q 2), .int (iI self), .ref (q 12), .ref (q 13), .ref (q 14), .int (iI fresh)])), (q 12, .inl (z.1, 64, .inl (aI fsu))), (q 14, .inl (z.2.1, 64, .inl (aI fse)))] := hD
  refine lv_iconst (v := iI (-1)) hx hb d_Y_nearestUnsettled_0 rfl ?_
  refine lv_istore_n (lv' := [(1, .int (iI ((-1)))), (0, .ref (q 3))]) hx hb d_Y_nearestUnsettled_1 rfl hl (by decide) rfl (fun ls hl => ?_)
  refine lv_iconst (v := iI 0) hx hb d_Y_nearestUnsettled_2 rfl ?_
  refine lv_istore_n (lv' := [(2, .int (iI 0)), (1, .int (iI ((-1)))), (0, .ref (q 3))]) hx hb d_Y_nearestUnsettled_3 rfl hl (by decide) rfl (fun ls hl => ?_)
  have L4 : ∀ n9 : Nat, ∀ (nr : Int) (i : Int), (64 - i : Int).toNat < n9 → (0 ≤ i ∧ i ≤ 64 ∧ -1 ≤ nr ∧ nr < 64) → (NRS fsu fse i nr) → ∀ (H : Heap) (locs : List Loc), va_P G cls0 [(q 3, .inr (2, [.ref (q 2), .int (iI self), .ref (q 12), .ref (q 13), .ref (q 14), .int (iI fresh)])), (q 12, .inl (z.1, 64, .inl (aI fsu))), (q 14, .inl (z.2.1, 64, .inl (aI fse)))] H → va_D A [(q 3, .inr (2, [.ref (q 2), .int (iI self), .ref (q 12), .ref (q 13), .ref (q 14), .int (iI fresh)])), (q 12, .inl (z.1, 64, .inl (aI fsu))), (q 14, .inl (z.2.1, 64, .inl (aI fse)))] → va_S A s.heap H locs → ∀ ls : Array Slot, lv_has ls 3 [(0, .ref (q 3)), (1, .int (iI nr)), (2, .int (iI i))] → W p l e (rmD 0) s m [.ref (q 3)].toArray below meth c H locs 0 0 (Zi below [.ref (q 3)].toArray s (rmD 0) G A (fun r9 u9 => ∃ (rv : Int), u9 = [(q 3, .inr (2, [.ref (q 2), .int (iI self), .ref (q 12), .ref (q 13), .ref (q 14), .int (iI fresh)])), (q 12, .inl (z.1, 64, .inl (aI fsu))), (q 14, .inl (z.2.1, 64, .inl (aI fse)))] ∧ r9 = iI rv ∧ (NRS fsu fse 64 rv))) (F0 m 4 ls []) := by
    intro n9
    induction n9 with
    | zero => intro nr i hmu; exact absurd hmu (Nat.not_lt_zero _)
    | succ n9 ih4 =>
      intro nr i hmu hi hN H locs hP hD hS ls hl
      refine lv_iload_n hx hb d_Y_nearestUnsettled_4 rfl (lv_at hl 2 rfl) ?_
      refine lv_bipush (v := iI 64) hx hb d_Y_nearestUnsettled_5 (by decide +kernel) ?_
      refine rv_icmp_ge (tgt := 60) hx hb d_Y_nearestUnsettled_7 (by decide) (by constructor <;> omega) ⟨by decide, by decide⟩ (fun c_1 => ?_) (fun c_1 => ?_)
      · skip
        refine lv_iload_n hx hb d_Y_nearestUnsettled_60 rfl (lv_at hl 1 rfl) ?_
        have hP9 : va_P G cls0 [(q 3, .inr (2, [.ref (q 2), .int (iI self), .ref (q 12), .ref (q 13), .ref (q 14), .int (iI fresh)])), (q 12, .inl (z.1, 64, .inl (aI fsu))), (q 14, .inl (z.2.1, 64, .inl (aI fse)))] H := hP.sub [0, 1, 2] rfl
        have hD9 : va_D A [(q 3, .inr (2, [.ref (q 2), .int (iI self), .ref (q 12), .ref (q 13), .ref (q 14), .int (iI fresh)])), (q 12, .inl (z.1, 64, .inl (aI fsu))), (q 14, .inl (z.2.1, 64, .inl (aI fse)))] := hD.sub [0, 1, 2] (by decide) rfl
        refine rv_iret hx hb hRt (nar_int _) hlocks (Nat.le_of_ble_eq_true rfl) (Nat.le_of_ble_eq_true rfl) hP9 hD9 hS d_Y_nearestUnsettled_61 ?_
        exact ⟨nr, rfl, rfl, (by rw [show (64 : Int) = i by omega]; exact hN)⟩
      · skip
        refine lv_aload_n hx hb d_Y_nearestUnsettled_10 rfl (lv_at hl 0 rfl) ?_
        refine va_get (D := G) (ci := 2) (v := .ref (q 14)) (C := R_Y) (T := T_Y) (N := 6) hx hb hg iw_Y hown hE.1 hP 0 rfl rfl 4 (by decide) (hg _ fl_Y_18) (fun _ h9 => h9) rfl d_Y_nearestUnsettled_11 ?_
        refine lv_iload_n hx hb d_Y_nearestUnsettled_14 rfl (lv_at hl 2 rfl) ?_
        refine rv_zald hx hb hE hP 2 rfl (i := i) (by omega) (by omega) (by decide) d_Y_nearestUnsettled_15 ?_
        refine rv_if_ne (tgt := 54) hx hb d_Y_nearestUnsettled_16 (by decide) (by (try have := rse i); constructor <;> omega) (fun c_2 => ?_) (fun c_2 => ?_)
        · skip
          have hs : ¬ (fse i = 0 ∧ fsu i ≠ -1) ∨ (nr ≠ -1 ∧ fsu nr ≤ fsu i) := Or.inl (by omega)
          refine lv_iinc (v := iI (i + 1)) (lv' := [(2, .int (iI (i + 1))), (0, .ref (q 3)), (1, .int (iI nr))]) hx hb d_Y_nearestUnsettled_54 hl (k := 2) rfl (iI_add _ _) (by decide) rfl (fun ls hl => ?_)
          refine lv_goto (tgt := 4) hx hb d_Y_nearestUnsettled_57 (by decide) ?_
          exact ih4 _ (i + 1) (by omega) (by omega) (by first | exact NRS_skip hi.1 hN hs | exact NRS_take hi.1 hN (by omega) (by omega) ht) H _ (hP.sub [0, 1, 2] rfl) (hD.sub [0, 1, 2] (by decide) rfl) hS ls (lv_sub hl [1, 2, 0] rfl)
        · skip
          refine lv_aload_n hx hb d_Y_nearestUnsettled_19 rfl (lv_at hl 0 rfl) ?_
          refine va_get (D := G) (ci := 2) (v := .ref (q 12)) (C := R_Y) (T := T_Y) (N := 6) hx hb hg iw_Y hown hE.1 hP 0 rfl rfl 2 (by decide) (hg _ fl_Y_9) (fun _ h9 => h9) rfl d_Y_nearestUnsettled_20 ?_
          refine lv_iload_n hx hb d_Y_nearestUnsettled_23 rfl (lv_at hl 2 rfl) ?_
          refine rv_iald hx hb hE hP 1 rfl (i := i) (by omega) (by omega) (by decide) d_Y_nearestUnsettled_24 ?_
          refine lv_iconst (v := iI (-1)) hx hb d_Y_nearestUnsettled_25 rfl ?_
          refine rv_icmp_ne (tgt := 32) hx hb d_Y_nearestUnsettled_26 (by decide) (by (try have := rsu i); constructor <;> omega) ⟨by decide, by decide⟩ (fun c_3 => ?_) (fun c_3 => ?_)
          · skip
            refine lv_iload_n hx hb d_Y_nearestUnsettled_32 rfl (lv_at hl 1 rfl) ?_
            refine lv_iconst (v := iI (-1)) hx hb d_Y_nearestUnsettled_33 rfl ?_
            refine rv_icmp_eq (tgt := 52) hx hb d_Y_nearestUnsettled_34 (by decide) (by constructor <;> omega) ⟨by decide, by decide⟩ (fun c_4 => ?_) (fun c_4 => ?_)
            · skip
              have ht : nr = -1 ∨ fsu i < fsu nr := Or.inl (by omega)
              refine lv_iload_n hx hb d_Y_nearestUnsettled_52 rfl (lv_at hl 2 rfl) ?_
              refine lv_istore_n (lv' := [(1, .int (iI i)), (0, .ref (q 3)), (2, .int (iI i))]) hx hb d_Y_nearestUnsettled_53 rfl hl (by decide) rfl (fun ls hl => ?_)
              refine lv_iinc (v := iI (i + 1)) (lv' := [(2, .int (iI (i + 1))), (1, .int (iI i)), (0, .ref (q 3))]) hx hb d_Y_nearestUnsettled_54 hl (k := 2) rfl (iI_add _ _) (by decide) rfl (fun ls hl => ?_)
              refine lv_goto (tgt := 4) hx hb d_Y_nearestUnsettled_57 (by decide) ?_
              exact ih4 _ (i + 1) (by omega) (by omega) (by first | exact NRS_skip hi.1 hN hs | exact NRS_take hi.1 hN (by omega) (by omega) ht) H _ (hP.sub [0, 1, 2] rfl) (hD.sub [0, 1, 2] (by decide) rfl) hS ls (lv_sub hl [2, 1, 0] rfl)
            · skip
              refine lv_aload_n hx hb d_Y_nearestUnsettled_37 rfl (lv_at hl 0 rfl) ?_
              refine va_get (D := G) (ci := 2) (v := .ref (q 12)) (C := R_Y) (T := T_Y) (N := 6) hx hb hg iw_Y hown hE.1 hP 0 rfl rfl 2 (by decide) (hg _ fl_Y_9) (fun _ h9 => h9) rfl d_Y_nearestUnsettled_38 ?_
              refine lv_iload_n hx hb d_Y_nearestUnsettled_41 rfl (lv_at hl 2 rfl) ?_
              refine rv_iald hx hb hE hP 1 rfl (i := i) (by omega) (by omega) (by decide) d_Y_nearestUnsettled_42 ?_
              refine lv_aload_n hx hb d_Y_nearestUnsettled_43 rfl (lv_at hl 0 rfl) ?_
              refine va_get (D := G) (ci := 2) (v := .ref (q 12)) (C := R_Y) (T := T_Y) (N := 6) hx hb hg iw_Y hown hE.1 hP 0 rfl rfl 2 (by decide) (hg _ fl_Y_9) (fun _ h9 => h9) rfl d_Y_nearestUnsettled_44 ?_
              refine lv_iload_n hx hb d_Y_nearestUnsettled_47 rfl (lv_at hl 1 rfl) ?_
              refine rv_iald hx hb hE hP 1 rfl (i := nr) (by omega) (by omega) (by decide) d_Y_nearestUnsettled_48 ?_
              refine rv_icmp_ge (tgt := 54) hx hb d_Y_nearestUnsettled_49 (by decide) (by (try have := rsu i); constructor <;> omega) (by (try have := rsu nr); constructor <;> omega) (fun c_5 => ?_) (fun c_5 => ?_)
              · skip
                have hs : ¬ (fse i = 0 ∧ fsu i ≠ -1) ∨ (nr ≠ -1 ∧ fsu nr ≤ fsu i) := Or.inr (by omega)
                refine lv_iinc (v := iI (i + 1)) (lv' := [(2, .int (iI (i + 1))), (0, .ref (q 3)), (1, .int (iI nr))]) hx hb d_Y_nearestUnsettled_54 hl (k := 2) rfl (iI_add _ _) (by decide) rfl (fun ls hl => ?_)
                refine lv_goto (tgt := 4) hx hb d_Y_nearestUnsettled_57 (by decide) ?_
                exact ih4 _ (i + 1) (by omega) (by omega) (by first | exact NRS_skip hi.1 hN hs | exact NRS_take hi.1 hN (by omega) (by omega) ht) H _ (hP.sub [0, 1, 2] rfl) (hD.sub [0, 1, 2] (by decide) rfl) hS ls (lv_sub hl [1, 2, 0] rfl)
              · skip
                have ht : nr = -1 ∨ fsu i < fsu nr := Or.inr (by omega)
                refine lv_iload_n hx hb d_Y_nearestUnsettled_52 rfl (lv_at hl 2 rfl) ?_
                refine lv_istore_n (lv' := [(1, .int (iI i)), (0, .ref (q 3)), (2, .int (iI i))]) hx hb d_Y_nearestUnsettled_53 rfl hl (by decide) rfl (fun ls hl => ?_)
                refine lv_iinc (v := iI (i + 1)) (lv' := [(2, .int (iI (i + 1))), (1, .int (iI i)), (0, .ref (q 3))]) hx hb d_Y_nearestUnsettled_54 hl (k := 2) rfl (iI_add _ _) (by decide) rfl (fun ls hl => ?_)
                refine lv_goto (tgt := 4) hx hb d_Y_nearestUnsettled_57 (by decide) ?_
                exact ih4 _ (i + 1) (by omega) (by omega) (by first | exact NRS_skip hi.1 hN hs | exact NRS_take hi.1 hN (by omega) (by omega) ht) H _ (hP.sub [0, 1, 2] rfl) (hD.sub [0, 1, 2] (by decide) rfl) hS ls (lv_sub hl [2, 1, 0] rfl)
          · skip
            have hs : ¬ (fse i = 0 ∧ fsu i ≠ -1) ∨ (nr ≠ -1 ∧ fsu nr ≤ fsu i) := Or.inl (by omega)
            refine lv_goto (tgt := 54) hx hb d_Y_nearestUnsettled_29 (by decide) ?_
            refine lv_iinc (v := iI (i + 1)) (lv' := [(2, .int (iI (i + 1))), (0, .ref (q 3)), (1, .int (iI nr))]) hx hb d_Y_nearestUnsettled_54 hl (k := 2) rfl (iI_add _ _) (by decide) rfl (fun ls hl => ?_)
            refine lv_goto (tgt := 4) hx hb d_Y_nearestUnsettled_57 (by decide) ?_
            exact ih4 _ (i + 1) (by omega) (by omega) (by first | exact NRS_skip hi.1 hN hs | exact NRS_take hi.1 hN (by omega) (by omega) ht) H _ (hP.sub [0, 1, 2] rfl) (hD.sub [0, 1, 2] (by decide) rfl) hS ls (lv_sub hl [1, 2, 0] rfl)
  exact L4 ((64 - 0 : Int).toNat + 1) (-1) 0 (Nat.lt_succ_self _) (by omega) NRS_0 H _ (hP.sub [0, 1, 2] rfl) (hD.sub [0, 1, 2] (by decide) rfl) hS ls (lv_sub hl [2, 1, 0] rfl)
set_option maxHeartbeats 4000000 in
set_option maxRecDepth 100000 in
theorem k_Y_reach (l : Launch) (G : va_G) (z : tz3) (q : Nat → Nat) (self : Int) (fresh : Int) (fsu : Int → Int) (fsr : Int → Int) (t : Int) (sum : Int) (bg : Int) (rsu : ∀ i : Int, -1 ≤ fsu i ∧ fsu i ≤ 64000) (rsr : ∀ i : Int, 0 ≤ fsr i ∧ fsr i ≤ 16777215) (ht : 0 ≤ t ∧ t < 64) (hsum : 0 ≤ sum ∧ sum ≤ 64000) (hbg : 0 ≤ bg ∧ bg ≤ 16777215) : Kv l y_Y_reach c_Y_reach 4 (rmD 0) G z [.ref (q 3), .int (iI t), .int (iI sum), .int (iI bg)] [(q 3, .inr (2, [.ref (q 2), .int (iI self), .ref (q 12), .ref (q 13), .ref (q 14), .int (iI fresh)])), (q 12, .inl (z.1, 64, .inl (aI fsu))), (q 13, .inl (z.1, 64, .inl (aI fsr)))] (fun u9 => ∃ (gsu : Int → Int) (gsr : Int → Int), u9 = [(q 3, .inr (2, [.ref (q 2), .int (iI self), .ref (q 12), .ref (q 13), .ref (q 14), .int (iI fresh)])), (q 12, .inl (z.1, 64, .inl (aI gsu))), (q 13, .inl (z.1, 64, .inl (aI gsr)))] ∧ (∀ i : Int, -1 ≤ gsu i ∧ gsu i ≤ 64000) ∧ (∀ i : Int, 0 ≤ gsr i ∧ gsr i ≤ 16777215) ∧ (RCH fsu fsr gsu gsr t sum bg)) := by
  refine Kv.of (by decide) (Nat.le_of_ble_eq_true rfl) ?_
  intro p e s m below meth c A hB hP hD ls hl
  obtain ⟨hx, hb, hRt, hml, hown, hlocks, hg, hE, hA, hin⟩ := hB
  have hown : s.vm.findClass R_Y = some m.cls := hown
  have hl : lv_has ls 4 [(0, .ref (q 3)), (1, .int (iI t)), (2, .int (iI sum)), (3, .int (iI bg))] := hl
  obtain ⟨H, hH⟩ : ∃ H, H = s.heap := ⟨_, rfl⟩
  have hS : va_S A s.heap H [] := by rw [hH]; exact va_S.rf
  rw [← hH] at hP
  rw [← hH]
  have hP : va_P G cls0 [(q 3, .inr (2, [.ref (q 2), .int (iI self), .ref (q 12), .ref (q 13), .ref (q 14), .int (iI fresh)])), (q 12, .inl (z.1, 64, .inl (aI fsu))), (q 13, .inl (z.1, 64, .inl (aI fsr)))] H := hP
  have hD : va_D A [(q 3, .inr (2, [.ref (q 2), .int (iI self), .ref (q 12), .ref (q 13), .ref (q 14), .int (iI fresh)])), (q 12, .inl (z.1, 64, .inl (aI fsu))), (q 13, .inl (z.1, 64, .inl (aI fsr)))] := hD
  refine lv_aload_n hx hb d_Y_reach_0 rfl (lv_at hl 0 rfl) ?_
  refine va_get (D := G) (ci := 2) (v := .ref (q 12)) (C := R_Y) (T := T_Y) (N := 6) hx hb hg iw_Y hown hE.1 hP 0 rfl rfl 2 (by decide) (hg _ fl_Y_9) (fun _ h9 => h9) rfl d_Y_reach_1 ?_
  refine lv_iload_n hx hb d_Y_reach_4 rfl (lv_at hl 1 rfl) ?_
  refine rv_iald hx hb hE hP 1 rfl (i := t) (by omega) (by omega) (by decide) d_Y_reach_5 ?_
  refine lv_iconst (v := iI (-1)) hx hb d_Y_reach_6 rfl ?_
  refine rv_icmp_eq (tgt := 20) hx hb d_Y_reach_7 (by decide) (by (try have := rsu t); constructor <;> omega) ⟨by decide, by decide⟩ (fun c_1 => ?_) (fun c_1 => ?_)
  · skip
    refine lv_aload_n hx hb d_Y_reach_20 rfl (lv_at hl 0 rfl) ?_
    refine va_get (D := G) (ci := 2) (v := .ref (q 12)) (C := R_Y) (T := T_Y) (N := 6) hx hb hg iw_Y hown hE.1 hP 0 rfl rfl 2 (by decide) (hg _ fl_Y_9) (fun _ h9 => h9) rfl d_Y_reach_21 ?_
    refine lv_iload_n hx hb d_Y_reach_24 rfl (lv_at hl 1 rfl) ?_
    refine lv_iload_n hx hb d_Y_reach_25 rfl (lv_at hl 2 rfl) ?_
    refine rv_iast hx hb hE hP hD hS 1 rfl (i := t) (x := sum) (by omega) (by omega) (by decide) d_Y_reach_26 (fun H locs hP hD hS => ?_)
    have hP : va_P G cls0 [(q 3, .inr (2, [.ref (q 2), .int (iI self), .ref (q 12), .ref (q 13), .ref (q 14), .int (iI fresh)])), (q 12, .inl (z.1, 64, .inl (aI (uZ fsu t sum)))), (q 13, .inl (z.1, 64, .inl (aI fsr)))] H := hP
    have hD : va_D A [(q 3, .inr (2, [.ref (q 2), .int (iI self), .ref (q 12), .ref (q 13), .ref (q 14), .int (iI fresh)])), (q 12, .inl (z.1, 64, .inl (aI (uZ fsu t sum)))), (q 13, .inl (z.1, 64, .inl (aI fsr)))] := hD
    refine lv_aload_n hx hb d_Y_reach_27 rfl (lv_at hl 0 rfl) ?_
    refine va_get (D := G) (ci := 2) (v := .ref (q 13)) (C := R_Y) (T := T_Y) (N := 6) hx hb hg iw_Y hown hE.1 hP 0 rfl rfl 3 (by decide) (hg _ fl_Y_15) (fun _ h9 => h9) rfl d_Y_reach_28 ?_
    refine lv_iload_n hx hb d_Y_reach_31 rfl (lv_at hl 1 rfl) ?_
    refine lv_iload_n hx hb d_Y_reach_32 rfl (lv_at hl 3 rfl) ?_
    refine rv_iast hx hb hE hP hD hS 2 rfl (i := t) (x := bg) (by omega) (by omega) (by decide) d_Y_reach_33 (fun H locs hP hD hS => ?_)
    have hP : va_P G cls0 [(q 3, .inr (2, [.ref (q 2), .int (iI self), .ref (q 12), .ref (q 13), .ref (q 14), .int (iI fresh)])), (q 12, .inl (z.1, 64, .inl (aI (uZ fsu t sum)))), (q 13, .inl (z.1, 64, .inl (aI (uZ fsr t bg))))] H := hP
    have hD : va_D A [(q 3, .inr (2, [.ref (q 2), .int (iI self), .ref (q 12), .ref (q 13), .ref (q 14), .int (iI fresh)])), (q 12, .inl (z.1, 64, .inl (aI (uZ fsu t sum)))), (q 13, .inl (z.1, 64, .inl (aI (uZ fsr t bg))))] := hD
    refine lv_goto (tgt := 57) hx hb d_Y_reach_34 (by decide) ?_
    have hP9 : va_P G cls0 [(q 3, .inr (2, [.ref (q 2), .int (iI self), .ref (q 12), .ref (q 13), .ref (q 14), .int (iI fresh)])), (q 12, .inl (z.1, 64, .inl (aI (uZ fsu t sum)))), (q 13, .inl (z.1, 64, .inl (aI (uZ fsr t bg))))] H := hP.sub [0, 1, 2] rfl
    have hD9 : va_D A [(q 3, .inr (2, [.ref (q 2), .int (iI self), .ref (q 12), .ref (q 13), .ref (q 14), .int (iI fresh)])), (q 12, .inl (z.1, 64, .inl (aI (uZ fsu t sum)))), (q 13, .inl (z.1, 64, .inl (aI (uZ fsr t bg))))] := hD.sub [0, 1, 2] (by decide) rfl
    refine rv_vret hx hb hRt hlocks (Nat.le_of_ble_eq_true rfl) (Nat.le_of_ble_eq_true rfl) hP9 hD9 hS d_Y_reach_57 ?_
    exact ⟨(uZ fsu t sum), (uZ fsr t bg), rfl, (by first | exact uZ_rng rsu (by omega) | exact rsu), (by first | exact uZ_rng rsr hbg | exact uZ_rng rsr (by have hq := lorI_b (x := fsr t) (y := bg) ⟨(rsr t).1, by have := rsr t; omega⟩ ⟨hbg.1, by omega⟩; omega) | exact rsr), (by first | exact Or.inl ⟨by omega, rfl, rfl⟩ | exact Or.inr (Or.inl ⟨by omega, by omega, rfl, rfl⟩) | exact Or.inr (Or.inr ⟨by omega, by omega, rfl, rfl⟩))⟩
  · skip
    refine lv_iload_n hx hb d_Y_reach_10 rfl (lv_at hl 2 rfl) ?_
    refine lv_aload_n hx hb d_Y_reach_11 rfl (lv_at hl 0 rfl) ?_
    refine va_get (D := G) (ci := 2) (v := .ref (q 12)) (C := R_Y) (T := T_Y) (N := 6) hx hb hg iw_Y hown hE.1 hP 0 rfl rfl 2 (by decide) (hg _ fl_Y_9) (fun _ h9 => h9) rfl d_Y_reach_12 ?_
    refine lv_iload_n hx hb d_Y_reach_15 rfl (lv_at hl 1 rfl) ?_
    refine rv_iald hx hb hE hP 1 rfl (i := t) (by omega) (by omega) (by decide) d_Y_reach_16 ?_
    refine rv_icmp_ge (tgt := 37) hx hb d_Y_reach_17 (by decide) (by constructor <;> omega) (by (try have := rsu t); constructor <;> omega) (fun c_2 => ?_) (fun c_2 => ?_)
    · skip
      refine lv_iload_n hx hb d_Y_reach_37 rfl (lv_at hl 2 rfl) ?_
      refine lv_aload_n hx hb d_Y_reach_38 rfl (lv_at hl 0 rfl) ?_
      refine va_get (D := G) (ci := 2) (v := .ref (q 12)) (C := R_Y) (T := T_Y) (N := 6) hx hb hg iw_Y hown hE.1 hP 0 rfl rfl 2 (by decide) (hg _ fl_Y_9) (fun _ h9 => h9) rfl d_Y_reach_39 ?_
      refine lv_iload_n hx hb d_Y_reach_42 rfl (lv_at hl 1 rfl) ?_
      refine rv_iald hx hb hE hP 1 rfl (i := t) (by omega) (by omega) (by decide) d_Y_reach_43 ?_
      refine rv_icmp_ne (tgt := 57) hx hb d_Y_reach_44 (by decide) (by constructor <;> omega) (by (try have := rsu t); constructor <;> omega) (fun c_3 => ?_) (fun c_3 => ?_)
      · skip
        have hP9 : va_P G cls0 [(q 3, .inr (2, [.ref (q 2), .int (iI self), .ref (q 12), .ref (q 13), .ref (q 14), .int (iI fresh)])), (q 12, .inl (z.1, 64, .inl (aI fsu))), (q 13, .inl (z.1, 64, .inl (aI fsr)))] H := hP.sub [0, 1, 2] rfl
        have hD9 : va_D A [(q 3, .inr (2, [.ref (q 2), .int (iI self), .ref (q 12), .ref (q 13), .ref (q 14), .int (iI fresh)])), (q 12, .inl (z.1, 64, .inl (aI fsu))), (q 13, .inl (z.1, 64, .inl (aI fsr)))] := hD.sub [0, 1, 2] (by decide) rfl
        refine rv_vret hx hb hRt hlocks (Nat.le_of_ble_eq_true rfl) (Nat.le_of_ble_eq_true rfl) hP9 hD9 hS d_Y_reach_57 ?_
        exact ⟨fsu, fsr, rfl, (by first | exact uZ_rng rsu (by omega) | exact rsu), (by first | exact uZ_rng rsr hbg | exact uZ_rng rsr (by have hq := lorI_b (x := fsr t) (y := bg) ⟨(rsr t).1, by have := rsr t; omega⟩ ⟨hbg.1, by omega⟩; omega) | exact rsr), (by first | exact Or.inl ⟨by omega, rfl, rfl⟩ | exact Or.inr (Or.inl ⟨by omega, by omega, rfl, rfl⟩) | exact Or.inr (Or.inr ⟨by omega, by omega, rfl, rfl⟩))⟩
      · skip
        refine lv_aload_n hx hb d_Y_reach_47 rfl (lv_at hl 0 rfl) ?_
        refine va_get (D := G) (ci := 2) (v := .ref (q 13)) (C := R_Y) (T := T_Y) (N := 6) hx hb hg iw_Y hown hE.1 hP 0 rfl rfl 3 (by decide) (hg _ fl_Y_15) (fun _ h9 => h9) rfl d_Y_reach_48 ?_
        refine lv_iload_n hx hb d_Y_reach_51 rfl (lv_at hl 1 rfl) ?_
        refine lv_dup2_11 hx hb d_Y_reach_52 rfl rfl ?_
        refine rv_iald hx hb hE hP 2 rfl (i := t) (by omega) (by omega) (by decide) d_Y_reach_53 ?_
        refine lv_iload_n hx hb d_Y_reach_54 rfl (lv_at hl 3 rfl) ?_
        refine rv_ior hx hb d_Y_reach_55 (by (try have := rsr t); omega) (by omega) ?_
        refine rv_iast hx hb hE hP hD hS 2 rfl (i := t) (x := lorI (fsr t) bg) (by omega) (by omega) (by decide) d_Y_reach_56 (fun H locs hP hD hS => ?_)
        have hP : va_P G cls0 [(q 3, .inr (2, [.ref (q 2), .int (iI self), .ref (q 12), .ref (q 13), .ref (q 14), .int (iI fresh)])), (q 12, .inl (z.1, 64, .inl (aI fsu))), (q 13, .inl (z.1, 64, .inl (aI (uZ fsr t (lorI (fsr t) bg)))))] H := hP
        have hD : va_D A [(q 3, .inr (2, [.ref (q 2), .int (iI self), .ref (q 12), .ref (q 13), .ref (q 14), .int (iI fresh)])), (q 12, .inl (z.1, 64, .inl (aI fsu))), (q 13, .inl (z.1, 64, .inl (aI (uZ fsr t (lorI (fsr t) bg)))))] := hD
        have hP9 : va_P G cls0 [(q 3, .inr (2, [.ref (q 2), .int (iI self), .ref (q 12), .ref (q 13), .ref (q 14), .int (iI fresh)])), (q 12, .inl (z.1, 64, .inl (aI fsu))), (q 13, .inl (z.1, 64, .inl (aI (uZ fsr t (lorI (fsr t) bg)))))] H := hP.sub [0, 1, 2] rfl
        have hD9 : va_D A [(q 3, .inr (2, [.ref (q 2), .int (iI self), .ref (q 12), .ref (q 13), .ref (q 14), .int (iI fresh)])), (q 12, .inl (z.1, 64, .inl (aI fsu))), (q 13, .inl (z.1, 64, .inl (aI (uZ fsr t (lorI (fsr t) bg)))))] := hD.sub [0, 1, 2] (by decide) rfl
        refine rv_vret hx hb hRt hlocks (Nat.le_of_ble_eq_true rfl) (Nat.le_of_ble_eq_true rfl) hP9 hD9 hS d_Y_reach_57 ?_
        exact ⟨fsu, (uZ fsr t (lorI (fsr t) bg)), rfl, (by first | exact uZ_rng rsu (by omega) | exact rsu), (by first | exact uZ_rng rsr hbg | exact uZ_rng rsr (by have hq := lorI_b (x := fsr t) (y := bg) ⟨(rsr t).1, by have := rsr t; omega⟩ ⟨hbg.1, by omega⟩; omega) | exact rsr), (by first | exact Or.inl ⟨by omega, rfl, rfl⟩ | exact Or.inr (Or.inl ⟨by omega, by omega, rfl, rfl⟩) | exact Or.inr (Or.inr ⟨by omega, by omega, rfl, rfl⟩))⟩
    · skip
      refine lv_aload_n hx hb d_Y_reach_20 rfl (lv_at hl 0 rfl) ?_
      refine va_get (D := G) (ci := 2) (v := .ref (q 12)) (C := R_Y) (T := T_Y) (N := 6) hx hb hg iw_Y hown hE.1 hP 0 rfl rfl 2 (by decide) (hg _ fl_Y_9) (fun _ h9 => h9) rfl d_Y_reach_21 ?_
      refine lv_iload_n hx hb d_Y_reach_24 rfl (lv_at hl 1 rfl) ?_
      refine lv_iload_n hx hb d_Y_reach_25 rfl (lv_at hl 2 rfl) ?_
      refine rv_iast hx hb hE hP hD hS 1 rfl (i := t) (x := sum) (by omega) (by omega) (by decide) d_Y_reach_26 (fun H locs hP hD hS => ?_)
      have hP : va_P G cls0 [(q 3, .inr (2, [.ref (q 2), .int (iI self), .ref (q 12), .ref (q 13), .ref (q 14), .int (iI fresh)])), (q 12, .inl (z.1, 64, .inl (aI (uZ fsu t sum)))), (q 13, .inl (z.1, 64, .inl (aI fsr)))] H := hP
      have hD : va_D A [(q 3, .inr (2, [.ref (q 2), .int (iI self), .ref (q 12), .ref (q 13), .ref (q 14), .int (iI fresh)])), (q 12, .inl (z.1, 64, .inl (aI (uZ fsu t sum)))), (q 13, .inl (z.1, 64, .inl (aI fsr)))] := hD
      refine lv_aload_n hx hb d_Y_reach_27 rfl (lv_at hl 0 rfl) ?_
      refine va_get (D := G) (ci := 2) (v := .ref (q 13)) (C := R_Y) (T := T_Y) (N := 6) hx hb hg iw_Y hown hE.1 hP 0 rfl rfl 3 (by decide) (hg _ fl_Y_15) (fun _ h9 => h9) rfl d_Y_reach_28 ?_
      refine lv_iload_n hx hb d_Y_reach_31 rfl (lv_at hl 1 rfl) ?_
      refine lv_iload_n hx hb d_Y_reach_32 rfl (lv_at hl 3 rfl) ?_
      refine rv_iast hx hb hE hP hD hS 2 rfl (i := t) (x := bg) (by omega) (by omega) (by decide) d_Y_reach_33 (fun H locs hP hD hS => ?_)
      have hP : va_P G cls0 [(q 3, .inr (2, [.ref (q 2), .int (iI self), .ref (q 12), .ref (q 13), .ref (q 14), .int (iI fresh)])), (q 12, .inl (z.1, 64, .inl (aI (uZ fsu t sum)))), (q 13, .inl (z.1, 64, .inl (aI (uZ fsr t bg))))] H := hP
      have hD : va_D A [(q 3, .inr (2, [.ref (q 2), .int (iI self), .ref (q 12), .ref (q 13), .ref (q 14), .int (iI fresh)])), (q 12, .inl (z.1, 64, .inl (aI (uZ fsu t sum)))), (q 13, .inl (z.1, 64, .inl (aI (uZ fsr t bg))))] := hD
      refine lv_goto (tgt := 57) hx hb d_Y_reach_34 (by decide) ?_
      have hP9 : va_P G cls0 [(q 3, .inr (2, [.ref (q 2), .int (iI self), .ref (q 12), .ref (q 13), .ref (q 14), .int (iI fresh)])), (q 12, .inl (z.1, 64, .inl (aI (uZ fsu t sum)))), (q 13, .inl (z.1, 64, .inl (aI (uZ fsr t bg))))] H := hP.sub [0, 1, 2] rfl
      have hD9 : va_D A [(q 3, .inr (2, [.ref (q 2), .int (iI self), .ref (q 12), .ref (q 13), .ref (q 14), .int (iI fresh)])), (q 12, .inl (z.1, 64, .inl (aI (uZ fsu t sum)))), (q 13, .inl (z.1, 64, .inl (aI (uZ fsr t bg))))] := hD.sub [0, 1, 2] (by decide) rfl
      refine rv_vret hx hb hRt hlocks (Nat.le_of_ble_eq_true rfl) (Nat.le_of_ble_eq_true rfl) hP9 hD9 hS d_Y_reach_57 ?_
      exact ⟨(uZ fsu t sum), (uZ fsr t bg), rfl, (by first | exact uZ_rng rsu (by omega) | exact rsu), (by first | exact uZ_rng rsr hbg | exact uZ_rng rsr (by have hq := lorI_b (x := fsr t) (y := bg) ⟨(rsr t).1, by have := rsr t; omega⟩ ⟨hbg.1, by omega⟩; omega) | exact rsr), (by first | exact Or.inl ⟨by omega, rfl, rfl⟩ | exact Or.inr (Or.inl ⟨by omega, by omega, rfl, rfl⟩) | exact Or.inr (Or.inr ⟨by omega, by omega, rfl, rfl⟩))⟩
set_option maxHeartbeats 4000000 in
set_option maxRecDepth 100000 in
theorem k_Y_goOnFrom (l : Launch) (G : va_G) (z : tz3) (q : Nat → Nat) (self : Int) (fresh : Int) (fsu : Int → Int) (fsr : Int → Int) (fsz : Int → Int) (frt : Int → Int) (fnt : Int → Int) (fco : Int → Int) (r : Int) (rsu : ∀ i : Int, -1 ≤ fsu i ∧ fsu i ≤ 64000) (rsr : ∀ i : Int, 0 ≤ fsr i ∧ fsr i ≤ 16777215) (rsz : ∀ i : Int, 0 ≤ fsz i ∧ fsz i ≤ 24) (rrt : ∀ i : Int, -1 ≤ frt i ∧ frt i ≤ 63) (rnt : ∀ i : Int, 0 ≤ fnt i ∧ fnt i ≤ 63) (rco : ∀ i : Int, 0 ≤ fco i ∧ fco i ≤ 1000) (hAK : AOK fsz frt fco) (hr : 0 ≤ r ∧ r < 64) (hself : 0 ≤ self ∧ self < 64) (hsr0 : 0 ≤ fsu r ∧ fsu r ≤ 63000) : Kv l y_Y_goOnFrom c_Y_goOnFrom 6 (rmD 3) G z [.ref (q 3), .int (iI r)] [(q 3, .inr (2, [.ref (q 2), .int (iI self), .ref (q 12), .ref (q 13), .ref (q 14), .int (iI fresh)])), (q 12, .inl (z.1, 64, .inl (aI fsu))), (q 13, .inl (z.1, 64, .inl (aI fsr))), (q 2, .inr (0, [.ref (q 6), .ref (q 7), .ref (q 8), .ref (q 9), .ref (q 10), .ref (q 11)])), (q 8, .inl (z.1, 66, .inl (aI fsz))), (q 9, .inl (z.1, 1584, .inl (aI frt))), (q 10, .inl (z.1, 1584, .inl (aI fnt))), (q 11, .inl (z.1, 1584, .inl (aI fco)))] (fun u9 => ∃ (gsu : Int → Int) (gsr : Int → Int), u9 = [(q 3, .inr (2, [.ref (q 2), .int (iI self), .ref (q 12), .ref (q 13), .ref (q 14), .int (iI fresh)])), (q 12, .inl (z.1, 64, .inl (aI gsu))), (q 13, .inl (z.1, 64, .inl (aI gsr))), (q 2, .inr (0, [.ref (q 6), .ref (q 7), .ref (q 8), .ref (q 9), .ref (q 10), .ref (q 11)])), (q 8, .inl (z.1, 66, .inl (aI fsz))), (q 9, .inl (z.1, 1584, .inl (aI frt))), (q 10, .inl (z.1, 1584, .inl (aI fnt))), (q 11, .inl (z.1, 1584, .inl (aI fco)))] ∧ (∀ i : Int, -1 ≤ gsu i ∧ gsu i ≤ 64000) ∧ (∀ i : Int, 0 ≤ gsr i ∧ gsr i ≤ 16777215) ∧ (GO fsz frt fnt fco self r fsu fsr gsu gsr (fsz r))) := by
  refine Kv.of (by decide) (Nat.le_of_ble_eq_true rfl) ?_
  intro p e s m below meth c A hB hP hD ls hl
  obtain ⟨hx, hb, hRt, hml, hown, hlocks, hg, hE, hA, hin⟩ := hB
  have hown : s.vm.findClass R_Y = some m.cls := hown
  have hl : lv_has ls 6 [(0, .ref (q 3)), (1, .int (iI r))] := hl
  obtain ⟨H, hH⟩ : ∃ H, H = s.heap := ⟨_, rfl⟩
  have hS : va_S A s.heap H [] := by rw [hH]; exact va_S.rf
  rw [← hH] at hP
  rw [← hH]
  have hP : va_P G cls0 [(q 3, .inr (2, [.ref (q 2), .int (iI self), .ref (q 12), .ref (q 13), .ref (q 14), .int (iI fresh)])), (q 12, .inl (z.1, 64, .inl (aI fsu))), (q 13, .inl (z.1, 64, .inl (aI fsr))), (q 2, .inr (0, [.ref (q 6), .ref (q 7), .ref (q 8), .ref (q 9), .ref (q 10), .ref (q 11)])), (q 8, .inl (z.1, 66, .inl (aI fsz))), (q 9, .inl (z.1, 1584, .inl (aI frt))), (q 10, .inl (z.1, 1584, .inl (aI fnt))), (q 11, .inl (z.1, 1584, .inl (aI fco)))] H := hP
  have hD : va_D A [(q 3, .inr (2, [.ref (q 2), .int (iI self), .ref (q 12), .ref (q 13), .ref (q 14), .int (iI fresh)])), (q 12, .inl (z.1, 64, .inl (aI fsu))), (q 13, .inl (z.1, 64, .inl (aI fsr))), (q 2, .inr (0, [.ref (q 6), .ref (q 7), .ref (q 8), .ref (q 9), .ref (q 10), .ref (q 11)])), (q 8, .inl (z.1, 66, .inl (aI fsz))), (q 9, .inl (z.1, 1584, .inl (aI frt))), (q 10, .inl (z.1, 1584, .inl (aI fnt))), (q 11, .inl (z.1, 1584, .inl (aI fco)))] := hD
  refine lv_iconst (v := iI 0) hx hb d_Y_goOnFrom_0 rfl ?_
  refine lv_istore_n (lv' := [(2, .int (iI 0)), (0, .ref (q 3)), (1, .int (iI r))]) hx hb d_Y_goOnFrom_1 rfl hl (by decide) rfl (fun ls hl => ?_)
  have L2 : ∀ n9 : Nat, ∀ (gsu : Int → Int) (gsr : Int → Int) (k : Int), (fsz r - k : Int).toNat < n9 → (∀ i : Int, -1 ≤ gsu i ∧ gsu i ≤ 64000) → (∀ i : Int, 0 ≤ gsr i ∧ gsr i ≤ 16777215) → (0 ≤ k ∧ k ≤ fsz r) → (GO fsz frt fnt fco self r fsu fsr gsu gsr k) → ∀ (H : Heap) (locs : List Loc), va_P G cls0 [(q 3, .inr (2, [.ref (q 2), .int (iI self), .ref (q 12), .ref (q 13), .ref (q 14), .int (iI fresh)])), (q 12, .inl (z.1, 64, .inl (aI gsu))), (q 13, .inl (z.1, 64, .inl (aI gsr))), (q 2, .inr (0, [.ref (q 6), .ref (q 7), .ref (q 8), .ref (q 9), .ref (q 10), .ref (q 11)])), (q 8, .inl (z.1, 66, .inl (aI fsz))), (q 9, .inl (z.1, 1584, .inl (aI frt))), (q 10, .inl (z.1, 1584, .inl (aI fnt))), (q 11, .inl (z.1, 1584, .inl (aI fco)))] H → va_D A [(q 3, .inr (2, [.ref (q 2), .int (iI self), .ref (q 12), .ref (q 13), .ref (q 14), .int (iI fresh)])), (q 12, .inl (z.1, 64, .inl (aI gsu))), (q 13, .inl (z.1, 64, .inl (aI gsr))), (q 2, .inr (0, [.ref (q 6), .ref (q 7), .ref (q 8), .ref (q 9), .ref (q 10), .ref (q 11)])), (q 8, .inl (z.1, 66, .inl (aI fsz))), (q 9, .inl (z.1, 1584, .inl (aI frt))), (q 10, .inl (z.1, 1584, .inl (aI fnt))), (q 11, .inl (z.1, 1584, .inl (aI fco)))] → va_S A s.heap H locs → ∀ ls : Array Slot, lv_has ls 6 [(0, .ref (q 3)), (1, .int (iI r)), (2, .int (iI k))] → W p l e (rmD 3) s m [.ref (q 3), .int (iI r)].toArray below meth c H locs 0 0 (Zv below [.ref (q 3), .int (iI r)].toArray s (rmD 3) G A (fun u9 => ∃ (gsu : Int → Int) (gsr : Int → Int), u9 = [(q 3, .inr (2, [.ref (q 2), .int (iI self), .ref (q 12), .ref (q 13), .ref (q 14), .int (iI fresh)])), (q 12, .inl (z.1, 64, .inl (aI gsu))), (q 13, .inl (z.1, 64, .inl (aI gsr))), (q 2, .inr (0, [.ref (q 6), .ref (q 7), .ref (q 8), .ref (q 9), .ref (q 10), .ref (q 11)])), (q 8, .inl (z.1, 66, .inl (aI fsz))), (q 9, .inl (z.1, 1584, .inl (aI frt))), (q 10, .inl (z.1, 1584, .inl (aI fnt))), (q 11, .inl (z.1, 1584, .inl (aI fco)))] ∧ (∀ i : Int, -1 ≤ gsu i ∧ gsu i ≤ 64000) ∧ (∀ i : Int, 0 ≤ gsr i ∧ gsr i ≤ 16777215) ∧ (GO fsz frt fnt fco self r fsu fsr gsu gsr (fsz r)))) (F0 m 2 ls []) := by
    intro n9
    induction n9 with
    | zero => intro gsu gsr k hmu; exact absurd hmu (Nat.not_lt_zero _)
    | succ n9 ih2 =>
      intro gsu gsr k hmu rgsu rgsr hk hG H locs hP hD hS ls hl
      refine lv_iload_n hx hb d_Y_goOnFrom_2 rfl (lv_at hl 2 rfl) ?_
      refine lv_aload_n hx hb d_Y_goOnFrom_3 rfl (lv_at hl 0 rfl) ?_
      refine va_get (D := G) (ci := 2) (v := .ref (q 2)) (C := R_Y) (T := T_Y) (N := 6) hx hb hg iw_Y hown hE.1 hP 0 rfl rfl 0 (by decide) (hg _ fl_Y_22) (fun _ h9 => h9) rfl d_Y_goOnFrom_4 ?_
      refine va_getN (D := G) (ci := 0) (v := .ref (q 8)) (C := R_A) (T := T_A) (N := 6) hx hb hg iw_A hown hE.1 hP 3 rfl rfl 2 (by decide) (hE.nest nf_Y_45) (fun _ h9 => h9) rfl d_Y_goOnFrom_7 ?_
      refine lv_iload_n hx hb d_Y_goOnFrom_10 rfl (lv_at hl 1 rfl) ?_
      refine rv_iald hx hb hE hP 4 rfl (i := r) (by omega) (by omega) (by decide) d_Y_goOnFrom_11 ?_
      refine rv_icmp_ge (tgt := 112) hx hb d_Y_goOnFrom_12 (by decide) (by (try have := rsz r); constructor <;> omega) (by (try have := rsz r); (try have := rsz r); constructor <;> omega) (fun c_1 => ?_) (fun c_1 => ?_)
      · skip
        have hP9 : va_P G cls0 [(q 3, .inr (2, [.ref (q 2), .int (iI self), .ref (q 12), .ref (q 13), .ref (q 14), .int (iI fresh)])), (q 12, .inl (z.1, 64, .inl (aI gsu))), (q 13, .inl (z.1, 64, .inl (aI gsr))), (q 2, .inr (0, [.ref (q 6), .ref (q 7), .ref (q 8), .ref (q 9), .ref (q 10), .ref (q 11)])), (q 8, .inl (z.1, 66, .inl (aI fsz))), (q 9, .inl (z.1, 1584, .inl (aI frt))), (q 10, .inl (z.1, 1584, .inl (aI fnt))), (q 11, .inl (z.1, 1584, .inl (aI fco)))] H := hP.sub [0, 1, 2, 3, 4, 5, 6, 7] rfl
        have hD9 : va_D A [(q 3, .inr (2, [.ref (q 2), .int (iI self), .ref (q 12), .ref (q 13), .ref (q 14), .int (iI fresh)])), (q 12, .inl (z.1, 64, .inl (aI gsu))), (q 13, .inl (z.1, 64, .inl (aI gsr))), (q 2, .inr (0, [.ref (q 6), .ref (q 7), .ref (q 8), .ref (q 9), .ref (q 10), .ref (q 11)])), (q 8, .inl (z.1, 66, .inl (aI fsz))), (q 9, .inl (z.1, 1584, .inl (aI frt))), (q 10, .inl (z.1, 1584, .inl (aI fnt))), (q 11, .inl (z.1, 1584, .inl (aI fco)))] := hD.sub [0, 1, 2, 3, 4, 5, 6, 7] (by decide) rfl
        refine rv_vret hx hb hRt hlocks (Nat.le_of_ble_eq_true rfl) (Nat.le_of_ble_eq_true rfl) hP9 hD9 hS d_Y_goOnFrom_112 ?_
        exact ⟨gsu, gsr, rfl, rgsu, rgsr, (by rw [show fsz r = k by omega]; exact hG)⟩
      · skip
        refine lv_iload_n hx hb d_Y_goOnFrom_15 rfl (lv_at hl 1 rfl) ?_
        refine lv_iload_n hx hb d_Y_goOnFrom_16 rfl (lv_at hl 2 rfl) ?_
        refine qS_i (As := [.int (iI r), .int (iI k)]) (rest := []) (wr := [(q 3, .inr (2, [.ref (q 2), .int (iI self), .ref (q 12), .ref (q 13), .ref (q 14), .int (iI fresh)])), (q 12, .inl (z.1, 64, .inl (aI gsu))), (q 13, .inl (z.1, 64, .inl (aI gsr))), (q 2, .inr (0, [.ref (q 6), .ref (q 7), .ref (q 8), .ref (q 9), .ref (q 10), .ref (q 11)])), (q 8, .inl (z.1, 66, .inl (aI fsz))), (q 9, .inl (z.1, 1584, .inl (aI frt))), (q 10, .inl (z.1, 1584, .inl (aI fnt))), (q 11, .inl (z.1, 1584, .inl (aI fco)))]) hx hb hml hown hg hE hA hS hP hD (k_A_indexOf l G z r k) [] [0, 1, 2, 3, 4, 5, 6, 7] rfl rfl (by decide) (by decide) (by decide) ml_Y_50 st_A_indexOf in_A co_A_indexOf ok_A_indexOf ⟨Nat.le_of_ble_eq_true rfl, Nat.le_of_ble_eq_true rfl⟩ hl.1 rfl (Nat.le_of_ble_eq_true rfl) d_Y_goOnFrom_17 ⟨Nat.le_of_ble_eq_true rfl, Nat.le_of_ble_eq_true rfl⟩ (fun r9 u9 H locs hw hP hD hS => ?_)
        obtain ⟨rfl, rfl⟩ := hw
        have hP : va_P G cls0 [(q 3, .inr (2, [.ref (q 2), .int (iI self), .ref (q 12), .ref (q 13), .ref (q 14), .int (iI fresh)])), (q 12, .inl (z.1, 64, .inl (aI gsu))), (q 13, .inl (z.1, 64, .inl (aI gsr))), (q 2, .inr (0, [.ref (q 6), .ref (q 7), .ref (q 8), .ref (q 9), .ref (q 10), .ref (q 11)])), (q 8, .inl (z.1, 66, .inl (aI fsz))), (q 9, .inl (z.1, 1584, .inl (aI frt))), (q 10, .inl (z.1, 1584, .inl (aI fnt))), (q 11, .inl (z.1, 1584, .inl (aI fco)))] H := hP
        have hD : va_D A [(q 3, .inr (2, [.ref (q 2), .int (iI self), .ref (q 12), .ref (q 13), .ref (q 14), .int (iI fresh)])), (q 12, .inl (z.1, 64, .inl (aI gsu))), (q 13, .inl (z.1, 64, .inl (aI gsr))), (q 2, .inr (0, [.ref (q 6), .ref (q 7), .ref (q 8), .ref (q 9), .ref (q 10), .ref (q 11)])), (q 8, .inl (z.1, 66, .inl (aI fsz))), (q 9, .inl (z.1, 1584, .inl (aI frt))), (q 10, .inl (z.1, 1584, .inl (aI fnt))), (q 11, .inl (z.1, 1584, .inl (aI fco)))] := hD
        refine lv_istore_n (lv' := [(3, .int (iI (r * 24 + k))), (0, .ref (q 3)), (1, .int (iI r)), (2, .int (iI k))]) hx hb d_Y_goOnFrom_20 rfl hl (by decide) rfl (fun ls hl => ?_)
        refine lv_aload_n hx hb d_Y_goOnFrom_21 rfl (lv_at hl 1 rfl) ?_
        refine va_get (D := G) (ci := 2) (v := .ref (q 2)) (C := R_Y) (T := T_Y) (N := 6) hx hb hg iw_Y hown hE.1 hP 0 rfl rfl 0 (by decide) (hg _ fl_Y_22) (fun _ h9 => h9) rfl d_Y_goOnFrom_22 ?_
        refine va_getN (D := G) (ci := 0) (v := .ref (q 9)) (C := R_A) (T := T_A) (N := 6) hx hb hg iw_A hown hE.1 hP 3 rfl rfl 3 (by decide) (hE.nest nf_Y_54) (fun _ h9 => h9) rfl d_Y_goOnFrom_25 ?_
        refine lv_iload_n hx hb d_Y_goOnFrom_28 rfl (lv_at hl 0 rfl) ?_
        refine rv_iald hx hb hE hP 5 rfl (i := r * 24 + k) (by (try have := rsz r); omega) (by (try have := rsz r); omega) (by decide) d_Y_goOnFrom_29 ?_
        refine lv_istore (lv' := [(4, .int (iI (frt (r * 24 + k)))), (3, .int (iI (r * 24 + k))), (0, .ref (q 3)), (1, .int (iI r)), (2, .int (iI k))]) hx hb d_Y_goOnFrom_30 hl (by decide) rfl (fun ls hl => ?_)
        refine lv_iload hx hb d_Y_goOnFrom_32 (lv_at hl 0 rfl) ?_
        refine lv_iconst (v := iI (-1)) hx hb d_Y_goOnFrom_34 rfl ?_
        refine rv_icmp_eq (tgt := 106) hx hb d_Y_goOnFrom_35 (by decide) (by (try have := rrt (r * 24 + k)); constructor <;> omega) ⟨by decide, by decide⟩ (fun c_2 => ?_) (fun c_2 => ?_)
        · skip
          have hnu : ¬ usb fsz frt fnt r k := fun q => q.2.2.1 c_2
          refine lv_iinc (v := iI (k + 1)) (lv' := [(2, .int (iI (k + 1))), (4, .int (iI (frt (r * 24 + k)))), (3, .int (iI (r * 24 + k))), (0, .ref (q 3)), (1, .int (iI r))]) hx hb d_Y_goOnFrom_106 hl (k := 4) rfl (iI_add _ _) (by decide) rfl (fun ls hl => ?_)
          refine lv_goto (tgt := 2) hx hb d_Y_goOnFrom_109 (by decide) ?_
          exact ih2 _ _ (k + 1) (by (try have := rsz r); omega) (by first | exact rgsu2 | exact rgsu) (by first | exact rgsr2 | exact rgsr) (by (try have := rsz r); omega) (by first | exact GO_edge hr hsr0.1 (usb_c hAK hr.1 hr.2 hu) hu (usb_t hAK hu) hbg (by rw [hsame.1] at fR; exact fR) hG | exact GO_skip hnu hG) H _ (hP.sub [0, 1, 2, 3, 4, 5, 6, 7] rfl) (hD.sub [0, 1, 2, 3, 4, 5, 6, 7] (by decide) rfl) hS ls (lv_sub hl [3, 4, 0] rfl)
        · skip
          refine lv_aload_n hx hb d_Y_goOnFrom_38 rfl (lv_at hl 2 rfl) ?_
          refine va_get (D := G) (ci := 2) (v := .ref (q 2)) (C := R_Y) (T := T_Y) (N := 6) hx hb hg iw_Y hown hE.1 hP 0 rfl rfl 0 (by decide) (hg _ fl_Y_22) (fun _ h9 => h9) rfl d_Y_goOnFrom_39 ?_
          refine lv_iload hx hb d_Y_goOnFrom_42 (lv_at hl 0 rfl) ?_
          refine lv_iload_n hx hb d_Y_goOnFrom_44 rfl (lv_at hl 3 rfl) ?_
          refine lv_aload_n hx hb d_Y_goOnFrom_45 rfl (lv_at hl 2 rfl) ?_
          refine va_get (D := G) (ci := 2) (v := .ref (q 2)) (C := R_Y) (T := T_Y) (N := 6) hx hb hg iw_Y hown hE.1 hP 0 rfl rfl 0 (by decide) (hg _ fl_Y_22) (fun _ h9 => h9) rfl d_Y_goOnFrom_46 ?_
          refine va_getN (D := G) (ci := 0) (v := .ref (q 10)) (C := R_A) (T := T_A) (N := 6) hx hb hg iw_A hown hE.1 hP 3 rfl rfl 4 (by decide) (hE.nest nf_Y_57) (fun _ h9 => h9) rfl d_Y_goOnFrom_49 ?_
          refine lv_iload_n hx hb d_Y_goOnFrom_52 rfl (lv_at hl 1 rfl) ?_
          refine rv_iald hx hb hE hP 6 rfl (i := r * 24 + k) (by (try have := rsz r); omega) (by (try have := rsz r); omega) (by decide) d_Y_goOnFrom_53 ?_
          refine qV_i (As := [.int (iI (frt (r * 24 + k))), .int (iI r), .int (iI (fnt (r * 24 + k)))]) (rest := []) (wr := [(q 3, .inr (2, [.ref (q 2), .int (iI self), .ref (q 12), .ref (q 13), .ref (q 14), .int (iI fresh)])), (q 12, .inl (z.1, 64, .inl (aI gsu))), (q 13, .inl (z.1, 64, .inl (aI gsr)))]) hx hb hml hown hg hE hA hS hP hD (k_A_has l G z q fsz frt fnt fco (frt (r * 24 + k)) r (fnt (r * 24 + k)) (by (try have := rrt (r * 24 + k)); omega) (by assumption) (by assumption) (by assumption) (by assumption) (by omega) (by (try have := rnt (r * 24 + k)); omega) (fun j j0 j1 => hAK.2.2 _ j (by have := rrt (r * 24 + k); omega) (by have := rrt (r * 24 + k); omega) j0 j1)) [3, 4, 5, 6, 7] [0, 1, 2] rfl rfl (by decide) (by decide) (by decide) (q0 := 0) rfl rfl ml_Y_60 im_A_has se_A_has in_A co_A_has ok_A_has ⟨Nat.le_of_ble_eq_true rfl, Nat.le_of_ble_eq_true rfl⟩ hl.1 rfl (Nat.le_of_ble_eq_true rfl) d_Y_goOnFrom_54 ⟨Nat.le_of_ble_eq_true rfl, Nat.le_of_ble_eq_true rfl⟩ (fun r9 u9 H locs hw hP hD hS => ?_)
          obtain ⟨rb, rfl, rfl, fbh⟩ := hw
          have hP : va_P G cls0 [(q 3, .inr (2, [.ref (q 2), .int (iI self), .ref (q 12), .ref (q 13), .ref (q 14), .int (iI fresh)])), (q 12, .inl (z.1, 64, .inl (aI gsu))), (q 13, .inl (z.1, 64, .inl (aI gsr))), (q 2, .inr (0, [.ref (q 6), .ref (q 7), .ref (q 8), .ref (q 9), .ref (q 10), .ref (q 11)])), (q 8, .inl (z.1, 66, .inl (aI fsz))), (q 9, .inl (z.1, 1584, .inl (aI frt))), (q 10, .inl (z.1, 1584, .inl (aI fnt))), (q 11, .inl (z.1, 1584, .inl (aI fco)))] H := hP
          have hD : va_D A [(q 3, .inr (2, [.ref (q 2), .int (iI self), .ref (q 12), .ref (q 13), .ref (q 14), .int (iI fresh)])), (q 12, .inl (z.1, 64, .inl (aI gsu))), (q 13, .inl (z.1, 64, .inl (aI gsr))), (q 2, .inr (0, [.ref (q 6), .ref (q 7), .ref (q 8), .ref (q 9), .ref (q 10), .ref (q 11)])), (q 8, .inl (z.1, 66, .inl (aI fsz))), (q 9, .inl (z.1, 1584, .inl (aI frt))), (q 10, .inl (z.1, 1584, .inl (aI fnt))), (q 11, .inl (z.1, 1584, .inl (aI fco)))] := hD
          refine rv_if_eq (tgt := 106) hx hb d_Y_goOnFrom_57 (by decide) (by constructor <;> omega) (fun c_3 => ?_) (fun c_3 => ?_)
          · skip
            have hnu : ¬ usb fsz frt fnt r k := fun q => by
              rcases fbh with ⟨w, -⟩ | ⟨-, w⟩
              · omega
              · exact w q.2.2.2
            clear fbh
            refine lv_iinc (v := iI (k + 1)) (lv' := [(2, .int (iI (k + 1))), (4, .int (iI (frt (r * 24 + k)))), (3, .int (iI (r * 24 + k))), (0, .ref (q 3)), (1, .int (iI r))]) hx hb d_Y_goOnFrom_106 hl (k := 4) rfl (iI_add _ _) (by decide) rfl (fun ls hl => ?_)
            refine lv_goto (tgt := 2) hx hb d_Y_goOnFrom_109 (by decide) ?_
            exact ih2 _ _ (k + 1) (by (try have := rsz r); omega) (by first | exact rgsu2 | exact rgsu) (by first | exact rgsr2 | exact rgsr) (by (try have := rsz r); omega) (by first | exact GO_edge hr hsr0.1 (usb_c hAK hr.1 hr.2 hu) hu (usb_t hAK hu) hbg (by rw [hsame.1] at fR; exact fR) hG | exact GO_skip hnu hG) H _ (hP.sub [0, 1, 2, 3, 4, 5, 6, 7] rfl) (hD.sub [0, 1, 2, 3, 4, 5, 6, 7] (by decide) rfl) hS ls (lv_sub hl [3, 4, 0] rfl)
          · skip
            have hu : usb fsz frt fnt r k := by
              rcases fbh with ⟨-, w⟩ | ⟨w, -⟩
              · exact ⟨hk.1, by omega, by omega, w⟩
              · omega
            have hsame := hG.2.2.2.2 r hr.1 hr.2 (by omega) (Int.le_refl _)
            clear fbh
            refine lv_iload_n hx hb d_Y_goOnFrom_60 rfl (lv_at hl 3 rfl) ?_
            refine lv_aload_n hx hb d_Y_goOnFrom_61 rfl (lv_at hl 2 rfl) ?_
            refine va_get (D := G) (ci := 2) (v := .int (iI self)) (C := R_Y) (T := T_Y) (N := 6) hx hb hg iw_Y hown hE.1 hP 0 rfl rfl 1 (by decide) (hg _ fl_Y_26) (fun _ h9 => h9) rfl d_Y_goOnFrom_62 ?_
            refine rv_icmp_ne (tgt := 74) hx hb d_Y_goOnFrom_65 (by decide) (by constructor <;> omega) (by constructor <;> omega) (fun c_4 => ?_) (fun c_4 => ?_)
            · skip
              have hbg : ∀ b : Int, 0 ≤ b → b < 24 → (tb (gsr r) b ↔ bgn fsr self r k b) := fun b b0 b1 => by
                rw [hsame.2]
                exact ⟨fun q => Or.inr ⟨c_4, q⟩, fun q => by rcases q with q | q; exact absurd q.1 c_4; exact q.2⟩
              refine lv_aload_n hx hb d_Y_goOnFrom_74 rfl (lv_at hl 2 rfl) ?_
              refine va_get (D := G) (ci := 2) (v := .ref (q 13)) (C := R_Y) (T := T_Y) (N := 6) hx hb hg iw_Y hown hE.1 hP 0 rfl rfl 3 (by decide) (hg _ fl_Y_15) (fun _ h9 => h9) rfl d_Y_goOnFrom_75 ?_
              refine lv_iload_n hx hb d_Y_goOnFrom_78 rfl (lv_at hl 3 rfl) ?_
              refine rv_iald hx hb hE hP 2 rfl (i := r) (by omega) (by omega) (by decide) d_Y_goOnFrom_79 ?_
              refine lv_istore (lv' := [(5, .int (iI (gsr r))), (4, .int (iI (frt (r * 24 + k)))), (3, .int (iI (r * 24 + k))), (0, .ref (q 3)), (1, .int (iI r)), (2, .int (iI k))]) hx hb d_Y_goOnFrom_80 hl (by decide) rfl (fun ls hl => ?_)
              refine lv_aload_n hx hb d_Y_goOnFrom_82 rfl (lv_at hl 3 rfl) ?_
              refine lv_iload hx hb d_Y_goOnFrom_83 (lv_at hl 1 rfl) ?_
              refine lv_aload_n hx hb d_Y_goOnFrom_85 rfl (lv_at hl 3 rfl) ?_
              refine va_get (D := G) (ci := 2) (v := .ref (q 12)) (C := R_Y) (T := T_Y) (N := 6) hx hb hg iw_Y hown hE.1 hP 0 rfl rfl 2 (by decide) (hg _ fl_Y_9) (fun _ h9 => h9) rfl d_Y_goOnFrom_86 ?_
              refine lv_iload_n hx hb d_Y_goOnFrom_89 rfl (lv_at hl 4 rfl) ?_
              refine rv_iald hx hb hE hP 1 rfl (i := r) (by omega) (by omega) (by decide) d_Y_goOnFrom_90 ?_
              refine lv_aload_n hx hb d_Y_goOnFrom_91 rfl (lv_at hl 3 rfl) ?_
              refine va_get (D := G) (ci := 2) (v := .ref (q 2)) (C := R_Y) (T := T_Y) (N := 6) hx hb hg iw_Y hown hE.1 hP 0 rfl rfl 0 (by decide) (hg _ fl_Y_22) (fun _ h9 => h9) rfl d_Y_goOnFrom_92 ?_
              refine va_getN (D := G) (ci := 0) (v := .ref (q 11)) (C := R_A) (T := T_A) (N := 6) hx hb hg iw_A hown hE.1 hP 3 rfl rfl 5 (by decide) (hE.nest nf_Y_64) (fun _ h9 => h9) rfl d_Y_goOnFrom_95 ?_
              refine lv_iload_n hx hb d_Y_goOnFrom_98 rfl (lv_at hl 2 rfl) ?_
              refine rv_iald hx hb hE hP 7 rfl (i := r * 24 + k) (by (try have := rsz r); omega) (by (try have := rsz r); omega) (by decide) d_Y_goOnFrom_99 ?_
              refine rv_iadd hx hb d_Y_goOnFrom_100 ?_
              refine lv_iload hx hb d_Y_goOnFrom_101 (lv_at hl 0 rfl) ?_
              refine qV_v (As := [.int (iI (frt (r * 24 + k))), .int (iI ((gsu r) + (fco (r * 24 + k)))), .int (iI (gsr r))]) (rest := []) (wr := [(q 2, .inr (0, [.ref (q 6), .ref (q 7), .ref (q 8), .ref (q 9), .ref (q 10), .ref (q 11)])), (q 8, .inl (z.1, 66, .inl (aI fsz))), (q 9, .inl (z.1, 1584, .inl (aI frt))), (q 10, .inl (z.1, 1584, .inl (aI fnt))), (q 11, .inl (z.1, 1584, .inl (aI fco)))]) hx hb hml hown hg hE hA hS hP hD (k_Y_reach l G z q self fresh gsu gsr (frt (r * 24 + k)) ((gsu r) + (fco (r * 24 + k))) (gsr r) (by assumption) (by assumption) (by (try have := rsz r); (try have := rrt (r * 24 + k)); (try have := rco (r * 24 + k)); (try have := hG.2.2.2.2 r hr.1 hr.2 (by omega) (Int.le_refl _)); (try have := bI_b (k := k) (by omega) (by omega)); (try have := rgsr r); (try have := rrt (r * 24 + k)); omega) (by (try have := rsz r); (try have := rrt (r * 24 + k)); (try have := rco (r * 24 + k)); (try have := hG.2.2.2.2 r hr.1 hr.2 (by omega) (Int.le_refl _)); (try have := bI_b (k := k) (by omega) (by omega)); (try have := rgsr r); (try have := rco (r * 24 + k)); (try have := rgsu r); omega) (by (try have := rsz r); (try have := rrt (r * 24 + k)); (try have := rco (r * 24 + k)); (try have := hG.2.2.2.2 r hr.1 hr.2 (by omega) (Int.le_refl _)); (try have := bI_b (k := k) (by omega) (by omega)); (try have := rgsr r); (try have := rgsr r); omega)) [0, 1, 2] [3, 4, 5, 6, 7] rfl rfl (by decide) (by decide) (by decide) (q0 := 0) rfl rfl ml_Y_67 im_Y_reach se_Y_reach in_Y co_Y_reach ok_Y_reach ⟨Nat.le_of_ble_eq_true rfl, Nat.le_of_ble_eq_true rfl⟩ hl.1 rfl (Nat.le_of_ble_eq_true rfl) d_Y_goOnFrom_103 ⟨Nat.le_of_ble_eq_true rfl, Nat.le_of_ble_eq_true rfl⟩ (fun u9 H locs hw hP hD hS => ?_)
              obtain ⟨gsu2, gsr2, rfl, rgsu2, rgsr2, fR⟩ := hw
              have hP : va_P G cls0 [(q 2, .inr (0, [.ref (q 6), .ref (q 7), .ref (q 8), .ref (q 9), .ref (q 10), .ref (q 11)])), (q 8, .inl (z.1, 66, .inl (aI fsz))), (q 9, .inl (z.1, 1584, .inl (aI frt))), (q 10, .inl (z.1, 1584, .inl (aI fnt))), (q 11, .inl (z.1, 1584, .inl (aI fco))), (q 3, .inr (2, [.ref (q 2), .int (iI self), .ref (q 12), .ref (q 13), .ref (q 14), .int (iI fresh)])), (q 12, .inl (z.1, 64, .inl (aI gsu2))), (q 13, .inl (z.1, 64, .inl (aI gsr2)))] H := hP
              have hD : va_D A [(q 2, .inr (0, [.ref (q 6), .ref (q 7), .ref (q 8), .ref (q 9), .ref (q 10), .ref (q 11)])), (q 8, .inl (z.1, 66, .inl (aI fsz))), (q 9, .inl (z.1, 1584, .inl (aI frt))), (q 10, .inl (z.1, 1584, .inl (aI fnt))), (q 11, .inl (z.1, 1584, .inl (aI fco))), (q 3, .inr (2, [.ref (q 2), .int (iI self), .ref (q 12), .ref (q 13), .ref (q 14), .int (iI fresh)])), (q 12, .inl (z.1, 64, .inl (aI gsu2))), (q 13, .inl (z.1, 64, .inl (aI gsr2)))] := hD
              refine lv_iinc (v := iI (k + 1)) (lv' := [(2, .int (iI (k + 1))), (5, .int (iI (gsr r))), (4, .int (iI (frt (r * 24 + k)))), (3, .int (iI (r * 24 + k))), (0, .ref (q 3)), (1, .int (iI r))]) hx hb d_Y_goOnFrom_106 hl (k := 5) rfl (iI_add _ _) (by decide) rfl (fun ls hl => ?_)
              refine lv_goto (tgt := 2) hx hb d_Y_goOnFrom_109 (by decide) ?_
              exact ih2 _ _ (k + 1) (by (try have := rsz r); omega) (by first | exact rgsu2 | exact rgsu) (by first | exact rgsr2 | exact rgsr) (by (try have := rsz r); omega) (by first | exact GO_edge hr hsr0.1 (usb_c hAK hr.1 hr.2 hu) hu (usb_t hAK hu) hbg (by rw [hsame.1] at fR; exact fR) hG | exact GO_skip hnu hG) H _ (hP.sub [5, 6, 7, 0, 1, 2, 3, 4] rfl) (hD.sub [5, 6, 7, 0, 1, 2, 3, 4] (by decide) rfl) hS ls (lv_sub hl [4, 5, 0] rfl)
            · skip
              have hbg : ∀ b : Int, 0 ≤ b → b < 24 → (tb (bI k) b ↔ bgn fsr self r k b) := fun b b0 b1 => by
                rw [tb_bI hk.1 b0]
                exact ⟨fun q => Or.inl ⟨c_4, q⟩, fun q => by rcases q with q | q; exact q.2; exact absurd c_4 q.1⟩
              refine lv_iconst (v := iI 1) hx hb d_Y_goOnFrom_68 rfl ?_
              refine lv_iload_n hx hb d_Y_goOnFrom_69 rfl (lv_at hl 4 rfl) ?_
              refine rv_ishl1 hx hb d_Y_goOnFrom_70 (by (try have := rsz r); omega) (by (try have := rsz r); omega) ?_
              refine lv_goto (tgt := 80) hx hb d_Y_goOnFrom_71 (by decide) ?_
              refine lv_istore (lv' := [(5, .int (iI (bI k))), (4, .int (iI (frt (r * 24 + k)))), (3, .int (iI (r * 24 + k))), (0, .ref (q 3)), (1, .int (iI r)), (2, .int (iI k))]) hx hb d_Y_goOnFrom_80 hl (by decide) rfl (fun ls hl => ?_)
              refine lv_aload_n hx hb d_Y_goOnFrom_82 rfl (lv_at hl 3 rfl) ?_
              refine lv_iload hx hb d_Y_goOnFrom_83 (lv_at hl 1 rfl) ?_
              refine lv_aload_n hx hb d_Y_goOnFrom_85 rfl (lv_at hl 3 rfl) ?_
              refine va_get (D := G) (ci := 2) (v := .ref (q 12)) (C := R_Y) (T := T_Y) (N := 6) hx hb hg iw_Y hown hE.1 hP 0 rfl rfl 2 (by decide) (hg _ fl_Y_9) (fun _ h9 => h9) rfl d_Y_goOnFrom_86 ?_
              refine lv_iload_n hx hb d_Y_goOnFrom_89 rfl (lv_at hl 4 rfl) ?_
              refine rv_iald hx hb hE hP 1 rfl (i := r) (by omega) (by omega) (by decide) d_Y_goOnFrom_90 ?_
              refine lv_aload_n hx hb d_Y_goOnFrom_91 rfl (lv_at hl 3 rfl) ?_
              refine va_get (D := G) (ci := 2) (v := .ref (q 2)) (C := R_Y) (T := T_Y) (N := 6) hx hb hg iw_Y hown hE.1 hP 0 rfl rfl 0 (by decide) (hg _ fl_Y_22) (fun _ h9 => h9) rfl d_Y_goOnFrom_92 ?_
              refine va_getN (D := G) (ci := 0) (v := .ref (q 11)) (C := R_A) (T := T_A) (N := 6) hx hb hg iw_A hown hE.1 hP 3 rfl rfl 5 (by decide) (hE.nest nf_Y_64) (fun _ h9 => h9) rfl d_Y_goOnFrom_95 ?_
              refine lv_iload_n hx hb d_Y_goOnFrom_98 rfl (lv_at hl 2 rfl) ?_
              refine rv_iald hx hb hE hP 7 rfl (i := r * 24 + k) (by (try have := rsz r); omega) (by (try have := rsz r); omega) (by decide) d_Y_goOnFrom_99 ?_
              refine rv_iadd hx hb d_Y_goOnFrom_100 ?_
              refine lv_iload hx hb d_Y_goOnFrom_101 (lv_at hl 0 rfl) ?_
              refine qV_v (As := [.int (iI (frt (r * 24 + k))), .int (iI ((gsu r) + (fco (r * 24 + k)))), .int (iI (bI k))]) (rest := []) (wr := [(q 2, .inr (0, [.ref (q 6), .ref (q 7), .ref (q 8), .ref (q 9), .ref (q 10), .ref (q 11)])), (q 8, .inl (z.1, 66, .inl (aI fsz))), (q 9, .inl (z.1, 1584, .inl (aI frt))), (q 10, .inl (z.1, 1584, .inl (aI fnt))), (q 11, .inl (z.1, 1584, .inl (aI fco)))]) hx hb hml hown hg hE hA hS hP hD (k_Y_reach l G z q self fresh gsu gsr (frt (r * 24 + k)) ((gsu r) + (fco (r * 24 + k))) (bI k) (by assumption) (by assumption) (by (try have := rsz r); (try have := rrt (r * 24 + k)); (try have := rco (r * 24 + k)); (try have := hG.2.2.2.2 r hr.1 hr.2 (by omega) (Int.le_refl _)); (try have := bI_b (k := k) (by omega) (by omega)); (try have := rgsr r); (try have := rrt (r * 24 + k)); omega) (by (try have := rsz r); (try have := rrt (r * 24 + k)); (try have := rco (r * 24 + k)); (try have := hG.2.2.2.2 r hr.1 hr.2 (by omega) (Int.le_refl _)); (try have := bI_b (k := k) (by omega) (by omega)); (try have := rgsr r); (try have := rco (r * 24 + k)); (try have := rgsu r); omega) (by (try have := rsz r); (try have := rrt (r * 24 + k)); (try have := rco (r * 24 + k)); (try have := hG.2.2.2.2 r hr.1 hr.2 (by omega) (Int.le_refl _)); (try have := bI_b (k := k) (by omega) (by omega)); (try have := rgsr r); omega)) [0, 1, 2] [3, 4, 5, 6, 7] rfl rfl (by decide) (by decide) (by decide) (q0 := 0) rfl rfl ml_Y_67 im_Y_reach se_Y_reach in_Y co_Y_reach ok_Y_reach ⟨Nat.le_of_ble_eq_true rfl, Nat.le_of_ble_eq_true rfl⟩ hl.1 rfl (Nat.le_of_ble_eq_true rfl) d_Y_goOnFrom_103 ⟨Nat.le_of_ble_eq_true rfl, Nat.le_of_ble_eq_true rfl⟩ (fun u9 H locs hw hP hD hS => ?_)
              obtain ⟨gsu2, gsr2, rfl, rgsu2, rgsr2, fR⟩ := hw
              have hP : va_P G cls0 [(q 2, .inr (0, [.ref (q 6), .ref (q 7), .ref (q 8), .ref (q 9), .ref (q 10), .ref (q 11)])), (q 8, .inl (z.1, 66, .inl (aI fsz))), (q 9, .inl (z.1, 1584, .inl (aI frt))), (q 10, .inl (z.1, 1584, .inl (aI fnt))), (q 11, .inl (z.1, 1584, .inl (aI fco))), (q 3, .inr (2, [.ref (q 2), .int (iI self), .ref (q 12), .ref (q 13), .ref (q 14), .int (iI fresh)])), (q 12, .inl (z.1, 64, .inl (aI gsu2))), (q 13, .inl (z.1, 64, .inl (aI gsr2)))] H := hP
              have hD : va_D A [(q 2, .inr (0, [.ref (q 6), .ref (q 7), .ref (q 8), .ref (q 9), .ref (q 10), .ref (q 11)])), (q 8, .inl (z.1, 66, .inl (aI fsz))), (q 9, .inl (z.1, 1584, .inl (aI frt))), (q 10, .inl (z.1, 1584, .inl (aI fnt))), (q 11, .inl (z.1, 1584, .inl (aI fco))), (q 3, .inr (2, [.ref (q 2), .int (iI self), .ref (q 12), .ref (q 13), .ref (q 14), .int (iI fresh)])), (q 12, .inl (z.1, 64, .inl (aI gsu2))), (q 13, .inl (z.1, 64, .inl (aI gsr2)))] := hD
              refine lv_iinc (v := iI (k + 1)) (lv' := [(2, .int (iI (k + 1))), (5, .int (iI (bI k))), (4, .int (iI (frt (r * 24 + k)))), (3, .int (iI (r * 24 + k))), (0, .ref (q 3)), (1, .int (iI r))]) hx hb d_Y_goOnFrom_106 hl (k := 5) rfl (iI_add _ _) (by decide) rfl (fun ls hl => ?_)
              refine lv_goto (tgt := 2) hx hb d_Y_goOnFrom_109 (by decide) ?_
              exact ih2 _ _ (k + 1) (by (try have := rsz r); omega) (by first | exact rgsu2 | exact rgsu) (by first | exact rgsr2 | exact rgsr) (by (try have := rsz r); omega) (by first | exact GO_edge hr hsr0.1 (usb_c hAK hr.1 hr.2 hu) hu (usb_t hAK hu) hbg (by rw [hsame.1] at fR; exact fR) hG | exact GO_skip hnu hG) H _ (hP.sub [5, 6, 7, 0, 1, 2, 3, 4] rfl) (hD.sub [5, 6, 7, 0, 1, 2, 3, 4] (by decide) rfl) hS ls (lv_sub hl [4, 5, 0] rfl)
  exact L2 ((fsz r - 0 : Int).toNat + 1) fsu fsr 0 (Nat.lt_succ_self _) rsu rsr (by (try have := rsz r); (try have := rsz r); omega) GO_0 H _ (hP.sub [0, 1, 2, 3, 4, 5, 6, 7] rfl) (hD.sub [0, 1, 2, 3, 4, 5, 6, 7] (by decide) rfl) hS ls (lv_sub hl [1, 2, 0] rfl)
set_option maxHeartbeats 4000000 in
set_option maxRecDepth 100000 in
theorem k_Y_refresh (l : Launch) (G : va_G) (z : tz3) (q : Nat → Nat) (self : Int) (fresh : Int) (fsu : Int → Int) (fsr : Int → Int) (fse : Int → Int) (fsz : Int → Int) (frt : Int → Int) (fnt : Int → Int) (fco : Int → Int) (rsu : ∀ i : Int, -1 ≤ fsu i ∧ fsu i ≤ 64000) (rsr : ∀ i : Int, 0 ≤ fsr i ∧ fsr i ≤ 16777215) (rse : ∀ i : Int, 0 ≤ fse i ∧ fse i ≤ 1) (rsz : ∀ i : Int, 0 ≤ fsz i ∧ fsz i ≤ 24) (rrt : ∀ i : Int, -1 ≤ frt i ∧ frt i ≤ 63) (rnt : ∀ i : Int, 0 ≤ fnt i ∧ fnt i ≤ 63) (rco : ∀ i : Int, 0 ≤ fco i ∧ fco i ≤ 1000) (hAK : AOK fsz frt fco) (hself : 0 ≤ self ∧ self < 64) (hfr : fresh = 0 ∨ fresh = 1) (hw : fresh = 1 → WAYS fsz frt fnt fco self fsu fsr) : Kv l y_Y_refresh c_Y_refresh 3 (rmD 4) G z [.ref (q 3)] [(q 3, .inr (2, [.ref (q 2), .int (iI self), .ref (q 12), .ref (q 13), .ref (q 14), .int (iI fresh)])), (q 12, .inl (z.1, 64, .inl (aI fsu))), (q 13, .inl (z.1, 64, .inl (aI fsr))), (q 14, .inl (z.2.1, 64, .inl (aI fse))), (q 2, .inr (0, [.ref (q 6), .ref (q 7), .ref (q 8), .ref (q 9), .ref (q 10), .ref (q 11)])), (q 8, .inl (z.1, 66, .inl (aI fsz))), (q 9, .inl (z.1, 1584, .inl (aI frt))), (q 10, .inl (z.1, 1584, .inl (aI fnt))), (q 11, .inl (z.1, 1584, .inl (aI fco)))] (fun u9 => ∃ (gsu : Int → Int) (gsr : Int → Int) (gse : Int → Int), u9 = [(q 3, .inr (2, [.ref (q 2), .int (iI self), .ref (q 12), .ref (q 13), .ref (q 14), .int (iI 1)])), (q 12, .inl (z.1, 64, .inl (aI gsu))), (q 13, .inl (z.1, 64, .inl (aI gsr))), (q 14, .inl (z.2.1, 64, .inl (aI gse))), (q 2, .inr (0, [.ref (q 6), .ref (q 7), .ref (q 8), .ref (q 9), .ref (q 10), .ref (q 11)])), (q 8, .inl (z.1, 66, .inl (aI fsz))), (q 9, .inl (z.1, 1584, .inl (aI frt))), (q 10, .inl (z.1, 1584, .inl (aI fnt))), (q 11, .inl (z.1, 1584, .inl (aI fco)))] ∧ (∀ i : Int, -1 ≤ gsu i ∧ gsu i ≤ 64000) ∧ (∀ i : Int, 0 ≤ gsr i ∧ gsr i ≤ 16777215) ∧ (∀ i : Int, 0 ≤ gse i ∧ gse i ≤ 1) ∧ (WAYS fsz frt fnt fco self gsu gsr)) := by
  refine Kv.of (by decide) (Nat.le_of_ble_eq_true rfl) ?_
  intro p e s m below meth c A hB hP hD ls hl
  obtain ⟨hx, hb, hRt, hml, hown, hlocks, hg, hE, hA, hin⟩ := hB
  have hown : s.vm.findClass R_Y = some m.cls := hown
  have hl : lv_has ls 3 [(0, .ref (q 3))] := hl
  obtain ⟨H, hH⟩ : ∃ H, H = s.heap := ⟨_, rfl⟩
  have hS : va_S A s.heap H [] := by rw [hH]; exact va_S.rf
  rw [← hH] at hP
  rw [← hH]
  have hP : va_P G cls0 [(q 3, .inr (2, [.ref (q 2), .int (iI self), .ref (q 12), .ref (q 13), .ref (q 14), .int (iI fresh)])), (q 12, .inl (z.1, 64, .inl (aI fsu))), (q 13, .inl (z.1, 64, .inl (aI fsr))), (q 14, .inl (z.2.1, 64, .inl (aI fse))), (q 2, .inr (0, [.ref (q 6), .ref (q 7), .ref (q 8), .ref (q 9), .ref (q 10), .ref (q 11)])), (q 8, .inl (z.1, 66, .inl (aI fsz))), (q 9, .inl (z.1, 1584, .inl (aI frt))), (q 10, .inl (z.1, 1584, .inl (aI fnt))), (q 11, .inl (z.1, 1584, .inl (aI fco)))] H := hP
  have hD : va_D A [(q 3, .inr (2, [.ref (q 2), .int (iI self), .ref (q 12), .ref (q 13), .ref (q 14), .int (iI fresh)])), (q 12, .inl (z.1, 64, .inl (aI fsu))), (q 13, .inl (z.1, 64, .inl (aI fsr))), (q 14, .inl (z.2.1, 64, .inl (aI fse))), (q 2, .inr (0, [.ref (q 6), .ref (q 7), .ref (q 8), .ref (q 9), .ref (q 10), .ref (q 11)])), (q 8, .inl (z.1, 66, .inl (aI fsz))), (q 9, .inl (z.1, 1584, .inl (aI frt))), (q 10, .inl (z.1, 1584, .inl (aI fnt))), (q 11, .inl (z.1, 1584, .inl (aI fco)))] := hD
  refine lv_aload_n hx hb d_Y_refresh_0 rfl (lv_at hl 0 rfl) ?_
  refine va_get (D := G) (ci := 2) (v := .int (iI fresh)) (C := R_Y) (T := T_Y) (N := 6) hx hb hg iw_Y hown hE.1 hP 0 rfl rfl 5 (by decide) (hg _ fl_Y_30) (fun _ h9 => h9) rfl d_Y_refresh_1 ?_
  refine rv_if_eq (tgt := 8) hx hb d_Y_refresh_4 (by decide) (by constructor <;> omega) (fun c_1 => ?_) (fun c_1 => ?_)
  · skip
    refine lv_aload_n hx hb d_Y_refresh_8 rfl (lv_at hl 0 rfl) ?_
    refine lv_iconst (v := iI 1) hx hb d_Y_refresh_9 rfl ?_
    refine va_put (D := G) (ci := 2) (v := .int (iI 1)) (ty := .boolean) (C := R_Y) (T := T_Y) (N := 6) hx hb hg iw_Y ty_Y ty_Y_ok nm_Y hown hE.1 hP hD hS 0 rfl rfl 5 (by decide) (hg _ fl_Y_30) (fun _ h9 => h9) rfl (by decide +kernel) nar_b1 (by decide +kernel) (Nat.le_of_ble_eq_true rfl) d_Y_refresh_10 (fun H locs hP hD hS => ?_)
    have hP : va_P G cls0 [(q 3, .inr (2, [.ref (q 2), .int (iI self), .ref (q 12), .ref (q 13), .ref (q 14), .int (iI 1)])), (q 12, .inl (z.1, 64, .inl (aI fsu))), (q 13, .inl (z.1, 64, .inl (aI fsr))), (q 14, .inl (z.2.1, 64, .inl (aI fse))), (q 2, .inr (0, [.ref (q 6), .ref (q 7), .ref (q 8), .ref (q 9), .ref (q 10), .ref (q 11)])), (q 8, .inl (z.1, 66, .inl (aI fsz))), (q 9, .inl (z.1, 1584, .inl (aI frt))), (q 10, .inl (z.1, 1584, .inl (aI fnt))), (q 11, .inl (z.1, 1584, .inl (aI fco)))] H := hP
    have hD : va_D A [(q 3, .inr (2, [.ref (q 2), .int (iI self), .ref (q 12), .ref (q 13), .ref (q 14), .int (iI 1)])), (q 12, .inl (z.1, 64, .inl (aI fsu))), (q 13, .inl (z.1, 64, .inl (aI fsr))), (q 14, .inl (z.2.1, 64, .inl (aI fse))), (q 2, .inr (0, [.ref (q 6), .ref (q 7), .ref (q 8), .ref (q 9), .ref (q 10), .ref (q 11)])), (q 8, .inl (z.1, 66, .inl (aI fsz))), (q 9, .inl (z.1, 1584, .inl (aI frt))), (q 10, .inl (z.1, 1584, .inl (aI fnt))), (q 11, .inl (z.1, 1584, .inl (aI fco)))] := hD
    refine lv_aload_n hx hb d_Y_refresh_13 rfl (lv_at hl 0 rfl) ?_
    refine qV_v (As := []) (rest := []) (wr := [(q 2, .inr (0, [.ref (q 6), .ref (q 7), .ref (q 8), .ref (q 9), .ref (q 10), .ref (q 11)])), (q 8, .inl (z.1, 66, .inl (aI fsz))), (q 9, .inl (z.1, 1584, .inl (aI frt))), (q 10, .inl (z.1, 1584, .inl (aI fnt))), (q 11, .inl (z.1, 1584, .inl (aI fco)))]) hx hb hml hown hg hE hA hS hP hD (k_Y_beginAnew l G z q self 1 fsu fsr fse (by assumption) (by assumption) (by assumption) (by omega)) [0, 1, 2, 3] [4, 5, 6, 7, 8] rfl rfl (by decide) (by decide) (by decide) (q0 := 0) rfl rfl ml_Y_34 im_Y_beginAnew se_Y_beginAnew in_Y co_Y_beginAnew ok_Y_beginAnew ⟨Nat.le_of_ble_eq_true rfl, Nat.le_of_ble_eq_true rfl⟩ hl.1 rfl (Nat.le_of_ble_eq_true rfl) d_Y_refresh_14 ⟨Nat.le_of_ble_eq_true rfl, Nat.le_of_ble_eq_true rfl⟩ (fun u9 H locs hw hP hD hS => ?_)
    obtain ⟨bsu, bsr, bse, rfl, rbsu, rbsr, rbse, b1, b2, b3, b4⟩ := hw
    have hP : va_P G cls0 [(q 2, .inr (0, [.ref (q 6), .ref (q 7), .ref (q 8), .ref (q 9), .ref (q 10), .ref (q 11)])), (q 8, .inl (z.1, 66, .inl (aI fsz))), (q 9, .inl (z.1, 1584, .inl (aI frt))), (q 10, .inl (z.1, 1584, .inl (aI fnt))), (q 11, .inl (z.1, 1584, .inl (aI fco))), (q 3, .inr (2, [.ref (q 2), .int (iI self), .ref (q 12), .ref (q 13), .ref (q 14), .int (iI 1)])), (q 12, .inl (z.1, 64, .inl (aI bsu))), (q 13, .inl (z.1, 64, .inl (aI bsr))), (q 14, .inl (z.2.1, 64, .inl (aI bse)))] H := hP
    have hD : va_D A [(q 2, .inr (0, [.ref (q 6), .ref (q 7), .ref (q 8), .ref (q 9), .ref (q 10), .ref (q 11)])), (q 8, .inl (z.1, 66, .inl (aI fsz))), (q 9, .inl (z.1, 1584, .inl (aI frt))), (q 10, .inl (z.1, 1584, .inl (aI fnt))), (q 11, .inl (z.1, 1584, .inl (aI fco))), (q 3, .inr (2, [.ref (q 2), .int (iI self), .ref (q 12), .ref (q 13), .ref (q 14), .int (iI 1)])), (q 12, .inl (z.1, 64, .inl (aI bsu))), (q 13, .inl (z.1, 64, .inl (aI bsr))), (q 14, .inl (z.2.1, 64, .inl (aI bse)))] := hD
    refine lv_iconst (v := iI 0) hx hb d_Y_refresh_17 rfl ?_
    refine lv_istore_n (lv' := [(1, .int (iI 0)), (0, .ref (q 3))]) hx hb d_Y_refresh_18 rfl hl (by decide) rfl (fun ls hl => ?_)
    have L19 : ∀ n9 : Nat, ∀ (gsu : Int → Int) (gsr : Int → Int) (gse : Int → Int) (rd : Int), (64 - rd : Int).toNat < n9 → (∀ i : Int, -1 ≤ gsu i ∧ gsu i ≤ 64000) → (∀ i : Int, 0 ≤ gsr i ∧ gsr i ≤ 16777215) → (∀ i : Int, 0 ≤ gse i ∧ gse i ≤ 1) → (0 ≤ rd ∧ rd ≤ 64) → (DJ fsz frt fnt fco self gsu gsr gse rd) → ∀ (H : Heap) (locs : List Loc), va_P G cls0 [(q 2, .inr (0, [.ref (q 6), .ref (q 7), .ref (q 8), .ref (q 9), .ref (q 10), .ref (q 11)])), (q 8, .inl (z.1, 66, .inl (aI fsz))), (q 9, .inl (z.1, 1584, .inl (aI frt))), (q 10, .inl (z.1, 1584, .inl (aI fnt))), (q 11, .inl (z.1, 1584, .inl (aI fco))), (q 3, .inr (2, [.ref (q 2), .int (iI self), .ref (q 12), .ref (q 13), .ref (q 14), .int (iI 1)])), (q 12, .inl (z.1, 64, .inl (aI gsu))), (q 13, .inl (z.1, 64, .inl (aI gsr))), (q 14, .inl (z.2.1, 64, .inl (aI gse)))] H → va_D A [(q 2, .inr (0, [.ref (q 6), .ref (q 7), .ref (q 8), .ref (q 9), .ref (q 10), .ref (q 11)])), (q 8, .inl (z.1, 66, .inl (aI fsz))), (q 9, .inl (z.1, 1584, .inl (aI frt))), (q 10, .inl (z.1, 1584, .inl (aI fnt))), (q 11, .inl (z.1, 1584, .inl (aI fco))), (q 3, .inr (2, [.ref (q 2), .int (iI self), .ref (q 12), .ref (q 13), .ref (q 14), .int (iI 1)])), (q 12, .inl (z.1, 64, .inl (aI gsu))), (q 13, .inl (z.1, 64, .inl (aI gsr))), (q 14, .inl (z.2.1, 64, .inl (aI gse)))] → va_S A s.heap H locs → ∀ ls : Array Slot, lv_has ls 3 [(0, .ref (q 3)), (1, .int (iI rd))] → W p l e (rmD 4) s m [.ref (q 3)].toArray below meth c H locs 0 0 (Zv below [.ref (q 3)].toArray s (rmD 4) G A (fun u9 => ∃ (gsu : Int → Int) (gsr : Int → Int) (gse : Int → Int), u9 = [(q 3, .inr (2, [.ref (q 2), .int (iI self), .ref (q 12), .ref (q 13), .ref (q 14), .int (iI 1)])), (q 12, .inl (z.1, 64, .inl (aI gsu))), (q 13, .inl (z.1, 64, .inl (aI gsr))), (q 14, .inl (z.2.1, 64, .inl (aI gse))), (q 2, .inr (0, [.ref (q 6), .ref (q 7), .ref (q 8), .ref (q 9), .ref (q 10), .ref (q 11)])), (q 8, .inl (z.1, 66, .inl (aI fsz))), (q 9, .inl (z.1, 1584, .inl (aI frt))), (q 10, .inl (z.1, 1584, .inl (aI fnt))), (q 11, .inl (z.1, 1584, .inl (aI fco)))] ∧ (∀ i : Int, -1 ≤ gsu i ∧ gsu i ≤ 64000) ∧ (∀ i : Int, 0 ≤ gsr i ∧ gsr i ≤ 16777215) ∧ (∀ i : Int, 0 ≤ gse i ∧ gse i ≤ 1) ∧ (WAYS fsz frt fnt fco self gsu gsr))) (F0 m 19 ls []) := by
      intro n9
      induction n9 with
      | zero => intro gsu gsr gse rd hmu; exact absurd hmu (Nat.not_lt_zero _)
      | succ n9 ih19 =>
        intro gsu gsr gse rd hmu rgsu rgsr rgse hrd hDJ H locs hP hD hS ls hl
        refine lv_iload_n hx hb d_Y_refresh_19 rfl (lv_at hl 1 rfl) ?_
        refine lv_bipush (v := iI 64) hx hb d_Y_refresh_20 (by decide +kernel) ?_
        refine rv_icmp_ge (tgt := 54) hx hb d_Y_refresh_22 (by decide) (by constructor <;> omega) ⟨by decide, by decide⟩ (fun c_2 => ?_) (fun c_2 => ?_)
        · skip
          have hP9 : va_P G cls0 [(q 3, .inr (2, [.ref (q 2), .int (iI self), .ref (q 12), .ref (q 13), .ref (q 14), .int (iI 1)])), (q 12, .inl (z.1, 64, .inl (aI gsu))), (q 13, .inl (z.1, 64, .inl (aI gsr))), (q 14, .inl (z.2.1, 64, .inl (aI gse))), (q 2, .inr (0, [.ref (q 6), .ref (q 7), .ref (q 8), .ref (q 9), .ref (q 10), .ref (q 11)])), (q 8, .inl (z.1, 66, .inl (aI fsz))), (q 9, .inl (z.1, 1584, .inl (aI frt))), (q 10, .inl (z.1, 1584, .inl (aI fnt))), (q 11, .inl (z.1, 1584, .inl (aI fco)))] H := hP.sub [5, 6, 7, 8, 0, 1, 2, 3, 4] rfl
          have hD9 : va_D A [(q 3, .inr (2, [.ref (q 2), .int (iI self), .ref (q 12), .ref (q 13), .ref (q 14), .int (iI 1)])), (q 12, .inl (z.1, 64, .inl (aI gsu))), (q 13, .inl (z.1, 64, .inl (aI gsr))), (q 14, .inl (z.2.1, 64, .inl (aI gse))), (q 2, .inr (0, [.ref (q 6), .ref (q 7), .ref (q 8), .ref (q 9), .ref (q 10), .ref (q 11)])), (q 8, .inl (z.1, 66, .inl (aI fsz))), (q 9, .inl (z.1, 1584, .inl (aI frt))), (q 10, .inl (z.1, 1584, .inl (aI fnt))), (q 11, .inl (z.1, 1584, .inl (aI fco)))] := hD.sub [5, 6, 7, 8, 0, 1, 2, 3, 4] (by decide) rfl
          refine rv_vret hx hb hRt hlocks (Nat.le_of_ble_eq_true rfl) (Nat.le_of_ble_eq_true rfl) hP9 hD9 hS d_Y_refresh_54 ?_
          exact ⟨gsu, gsr, gse, rfl, rgsu, rgsr, rgse, (DJ_end hAK hself (fun t t0 t1 tn => by have := cI_full (f := gse) (k := 64) (by omega) (by rw [hDJ.2.2.2.2.2.2.2]; omega) t t0 t1; have := rgse t; omega) hDJ)⟩
        · skip
          refine lv_aload_n hx hb d_Y_refresh_25 rfl (lv_at hl 0 rfl) ?_
          refine qV_i (As := []) (rest := []) (wr := [(q 2, .inr (0, [.ref (q 6), .ref (q 7), .ref (q 8), .ref (q 9), .ref (q 10), .ref (q 11)])), (q 8, .inl (z.1, 66, .inl (aI fsz))), (q 9, .inl (z.1, 1584, .inl (aI frt))), (q 10, .inl (z.1, 1584, .inl (aI fnt))), (q 11, .inl (z.1, 1584, .inl (aI fco))), (q 13, .inl (z.1, 64, .inl (aI gsr)))]) hx hb hml hown hg hE hA hS hP hD (k_Y_nearestUnsettled l G z q self 1 gsu gse (by assumption) (by assumption)) [5, 6, 8] [0, 1, 2, 3, 4, 7] rfl rfl (by decide) (by decide) (by decide) (q0 := 0) rfl rfl ml_Y_37 im_Y_nearestUnsettled se_Y_nearestUnsettled in_Y co_Y_nearestUnsettled ok_Y_nearestUnsettled ⟨Nat.le_of_ble_eq_true rfl, Nat.le_of_ble_eq_true rfl⟩ hl.1 rfl (Nat.le_of_ble_eq_true rfl) d_Y_refresh_26 ⟨Nat.le_of_ble_eq_true rfl, Nat.le_of_ble_eq_true rfl⟩ (fun r9 u9 H locs hw hP hD hS => ?_)
          obtain ⟨nr, rfl, rfl, fN⟩ := hw
          have hP : va_P G cls0 [(q 2, .inr (0, [.ref (q 6), .ref (q 7), .ref (q 8), .ref (q 9), .ref (q 10), .ref (q 11)])), (q 8, .inl (z.1, 66, .inl (aI fsz))), (q 9, .inl (z.1, 1584, .inl (aI frt))), (q 10, .inl (z.1, 1584, .inl (aI fnt))), (q 11, .inl (z.1, 1584, .inl (aI fco))), (q 13, .inl (z.1, 64, .inl (aI gsr))), (q 3, .inr (2, [.ref (q 2), .int (iI self), .ref (q 12), .ref (q 13), .ref (q 14), .int (iI 1)])), (q 12, .inl (z.1, 64, .inl (aI gsu))), (q 14, .inl (z.2.1, 64, .inl (aI gse)))] H := hP
          have hD : va_D A [(q 2, .inr (0, [.ref (q 6), .ref (q 7), .ref (q 8), .ref (q 9), .ref (q 10), .ref (q 11)])), (q 8, .inl (z.1, 66, .inl (aI fsz))), (q 9, .inl (z.1, 1584, .inl (aI frt))), (q 10, .inl (z.1, 1584, .inl (aI fnt))), (q 11, .inl (z.1, 1584, .inl (aI fco))), (q 13, .inl (z.1, 64, .inl (aI gsr))), (q 3, .inr (2, [.ref (q 2), .int (iI self), .ref (q 12), .ref (q 13), .ref (q 14), .int (iI 1)])), (q 12, .inl (z.1, 64, .inl (aI gsu))), (q 14, .inl (z.2.1, 64, .inl (aI gse)))] := hD
          refine lv_istore_n (lv' := [(2, .int (iI nr)), (0, .ref (q 3)), (1, .int (iI rd))]) hx hb d_Y_refresh_29 rfl hl (by decide) rfl (fun ls hl => ?_)
          refine lv_iload_n hx hb d_Y_refresh_30 rfl (lv_at hl 0 rfl) ?_
          refine lv_iconst (v := iI (-1)) hx hb d_Y_refresh_31 rfl ?_
          refine rv_icmp_ne (tgt := 36) hx hb d_Y_refresh_32 (by decide) (by have hq : -1 ≤ nr ∧ nr < 64 := (by rcases fN with ⟨q, -⟩ | ⟨q1, q2, -⟩ <;> omega); constructor <;> omega) ⟨by decide, by decide⟩ (fun c_3 => ?_) (fun c_3 => ?_)
          · skip
            have hnr : (0 ≤ nr ∧ nr < 64) ∧ gse nr = 0 ∧ gsu nr ≠ -1 ∧ ∀ t : Int, 0 ≤ t → t < 64 → gse t = 0 → gsu t ≠ -1 → gsu nr ≤ gsu t := by
              rcases fN with ⟨q, -⟩ | ⟨q1, q2, q3, q4, q5⟩
              · omega
              · exact ⟨⟨q1, q2⟩, q3, q4, q5⟩
            refine lv_aload_n hx hb d_Y_refresh_36 rfl (lv_at hl 1 rfl) ?_
            refine va_get (D := G) (ci := 2) (v := .ref (q 14)) (C := R_Y) (T := T_Y) (N := 6) hx hb hg iw_Y hown hE.1 hP 6 rfl rfl 4 (by decide) (hg _ fl_Y_18) (fun _ h9 => h9) rfl d_Y_refresh_37 ?_
            refine lv_iload_n hx hb d_Y_refresh_40 rfl (lv_at hl 0 rfl) ?_
            refine lv_iconst (v := iI 1) hx hb d_Y_refresh_41 rfl ?_
            refine rv_zast hx hb hE hP hD hS 8 rfl (i := nr) (x := 1) (by (try have := hnr.1); omega) (by (try have := hnr.1); omega) (by decide) (Or.inr rfl) d_Y_refresh_42 (fun H locs hP hD hS => ?_)
            have hP : va_P G cls0 [(q 2, .inr (0, [.ref (q 6), .ref (q 7), .ref (q 8), .ref (q 9), .ref (q 10), .ref (q 11)])), (q 8, .inl (z.1, 66, .inl (aI fsz))), (q 9, .inl (z.1, 1584, .inl (aI frt))), (q 10, .inl (z.1, 1584, .inl (aI fnt))), (q 11, .inl (z.1, 1584, .inl (aI fco))), (q 13, .inl (z.1, 64, .inl (aI gsr))), (q 3, .inr (2, [.ref (q 2), .int (iI self), .ref (q 12), .ref (q 13), .ref (q 14), .int (iI 1)])), (q 12, .inl (z.1, 64, .inl (aI gsu))), (q 14, .inl (z.2.1, 64, .inl (aI (uZ gse nr 1))))] H := hP
            have hD : va_D A [(q 2, .inr (0, [.ref (q 6), .ref (q 7), .ref (q 8), .ref (q 9), .ref (q 10), .ref (q 11)])), (q 8, .inl (z.1, 66, .inl (aI fsz))), (q 9, .inl (z.1, 1584, .inl (aI frt))), (q 10, .inl (z.1, 1584, .inl (aI fnt))), (q 11, .inl (z.1, 1584, .inl (aI fco))), (q 13, .inl (z.1, 64, .inl (aI gsr))), (q 3, .inr (2, [.ref (q 2), .int (iI self), .ref (q 12), .ref (q 13), .ref (q 14), .int (iI 1)])), (q 12, .inl (z.1, 64, .inl (aI gsu))), (q 14, .inl (z.2.1, 64, .inl (aI (uZ gse nr 1))))] := hD
            refine lv_aload_n hx hb d_Y_refresh_43 rfl (lv_at hl 1 rfl) ?_
            refine lv_iload_n hx hb d_Y_refresh_44 rfl (lv_at hl 0 rfl) ?_
            refine qV_v (As := [.int (iI nr)]) (rest := []) (wr := [(q 14, .inl (z.2.1, 64, .inl (aI (uZ gse nr 1))))]) hx hb hml hown hg hE hA hS hP hD (k_Y_goOnFrom l G z q self 1 gsu gsr fsz frt fnt fco nr (by assumption) (by assumption) (by assumption) (by assumption) (by assumption) (by assumption) (by assumption) (by (try have := hnr.1); (try have := hDJ.2.1 nr hnr.1.1 hnr.1.2); (try have := hnr.2.2.1); omega) (by (try have := hnr.1); (try have := hDJ.2.1 nr hnr.1.1 hnr.1.2); (try have := hnr.2.2.1); omega) (by (try have := hnr.1); (try have := hDJ.2.1 nr hnr.1.1 hnr.1.2); (try have := hnr.2.2.1); (try have := rgsu nr); omega)) [6, 7, 5, 0, 1, 2, 3, 4] [8] rfl rfl (by decide) (by decide) (by decide) (q0 := 0) rfl rfl ml_Y_41 im_Y_goOnFrom se_Y_goOnFrom in_Y co_Y_goOnFrom ok_Y_goOnFrom ⟨Nat.le_of_ble_eq_true rfl, Nat.le_of_ble_eq_true rfl⟩ hl.1 rfl (Nat.le_of_ble_eq_true rfl) d_Y_refresh_45 ⟨Nat.le_of_ble_eq_true rfl, Nat.le_of_ble_eq_true rfl⟩ (fun u9 H locs hw hP hD hS => ?_)
            obtain ⟨gsu2, gsr2, rfl, rgsu2, rgsr2, fG⟩ := hw
            have hP : va_P G cls0 [(q 14, .inl (z.2.1, 64, .inl (aI (uZ gse nr 1)))), (q 3, .inr (2, [.ref (q 2), .int (iI self), .ref (q 12), .ref (q 13), .ref (q 14), .int (iI 1)])), (q 12, .inl (z.1, 64, .inl (aI gsu2))), (q 13, .inl (z.1, 64, .inl (aI gsr2))), (q 2, .inr (0, [.ref (q 6), .ref (q 7), .ref (q 8), .ref (q 9), .ref (q 10), .ref (q 11)])), (q 8, .inl (z.1, 66, .inl (aI fsz))), (q 9, .inl (z.1, 1584, .inl (aI frt))), (q 10, .inl (z.1, 1584, .inl (aI fnt))), (q 11, .inl (z.1, 1584, .inl (aI fco)))] H := hP
            have hD : va_D A [(q 14, .inl (z.2.1, 64, .inl (aI (uZ gse nr 1)))), (q 3, .inr (2, [.ref (q 2), .int (iI self), .ref (q 12), .ref (q 13), .ref (q 14), .int (iI 1)])), (q 12, .inl (z.1, 64, .inl (aI gsu2))), (q 13, .inl (z.1, 64, .inl (aI gsr2))), (q 2, .inr (0, [.ref (q 6), .ref (q 7), .ref (q 8), .ref (q 9), .ref (q 10), .ref (q 11)])), (q 8, .inl (z.1, 66, .inl (aI fsz))), (q 9, .inl (z.1, 1584, .inl (aI frt))), (q 10, .inl (z.1, 1584, .inl (aI fnt))), (q 11, .inl (z.1, 1584, .inl (aI fco)))] := hD
            refine lv_iinc (v := iI (rd + 1)) (lv' := [(1, .int (iI (rd + 1))), (2, .int (iI nr)), (0, .ref (q 3))]) hx hb d_Y_refresh_48 hl (k := 2) rfl (iI_add _ _) (by decide) rfl (fun ls hl => ?_)
            refine lv_goto (tgt := 19) hx hb d_Y_refresh_51 (by decide) ?_
            exact ih19 gsu2 gsr2 (uZ gse nr 1) (rd + 1) (by omega) rgsu2 rgsr2 (uZ_rng rgse (by omega)) (by omega) (DJ_step hAK hself hnr.1 (fun t => by have := rgse t; omega) hnr.2.1 hnr.2.2.1 hnr.2.2.2 hDJ fG) H _ (hP.sub [4, 5, 6, 7, 8, 1, 2, 3, 0] rfl) (hD.sub [4, 5, 6, 7, 8, 1, 2, 3, 0] (by decide) rfl) hS ls (lv_sub hl [2, 0] rfl)
          · skip
            have hP9 : va_P G cls0 [(q 3, .inr (2, [.ref (q 2), .int (iI self), .ref (q 12), .ref (q 13), .ref (q 14), .int (iI 1)])), (q 12, .inl (z.1, 64, .inl (aI gsu))), (q 13, .inl (z.1, 64, .inl (aI gsr))), (q 14, .inl (z.2.1, 64, .inl (aI gse))), (q 2, .inr (0, [.ref (q 6), .ref (q 7), .ref (q 8), .ref (q 9), .ref (q 10), .ref (q 11)])), (q 8, .inl (z.1, 66, .inl (aI fsz))), (q 9, .inl (z.1, 1584, .inl (aI frt))), (q 10, .inl (z.1, 1584, .inl (aI fnt))), (q 11, .inl (z.1, 1584, .inl (aI fco)))] H := hP.sub [6, 7, 5, 8, 0, 1, 2, 3, 4] rfl
            have hD9 : va_D A [(q 3, .inr (2, [.ref (q 2), .int (iI self), .ref (q 12), .ref (q 13), .ref (q 14), .int (iI 1)])), (q 12, .inl (z.1, 64, .inl (aI gsu))), (q 13, .inl (z.1, 64, .inl (aI gsr))), (q 14, .inl (z.2.1, 64, .inl (aI gse))), (q 2, .inr (0, [.ref (q 6), .ref (q 7), .ref (q 8), .ref (q 9), .ref (q 10), .ref (q 11)])), (q 8, .inl (z.1, 66, .inl (aI fsz))), (q 9, .inl (z.1, 1584, .inl (aI frt))), (q 10, .inl (z.1, 1584, .inl (aI fnt))), (q 11, .inl (z.1, 1584, .inl (aI fco)))] := hD.sub [6, 7, 5, 8, 0, 1, 2, 3, 4] (by decide) rfl
            refine rv_vret hx hb hRt hlocks (Nat.le_of_ble_eq_true rfl) (Nat.le_of_ble_eq_true rfl) hP9 hD9 hS d_Y_refresh_35 ?_
            exact ⟨gsu, gsr, gse, rfl, rgsu, rgsr, rgse, (DJ_end hAK hself (fun t t0 t1 tn => (by rcases fN with ⟨-, q⟩ | ⟨q1, -⟩; exact (by have := q t t0 t1; have := rgse t; omega); omega)) hDJ)⟩
    exact L19 ((64 - 0 : Int).toNat + 1) bsu bsr bse 0 (Nat.lt_succ_self _) rbsu rbsr rbse (by omega) (DJ_0 hself b1 b2 b3 b4) H _ (hP.sub [0, 1, 2, 3, 4, 5, 6, 7, 8] rfl) (hD.sub [0, 1, 2, 3, 4, 5, 6, 7, 8] (by decide) rfl) hS ls (lv_sub hl [1, 0] rfl)
  · skip
    have hf1 : fresh = 1 := by omega
    have hP9 : va_P G cls0 [(q 3, .inr (2, [.ref (q 2), .int (iI self), .ref (q 12), .ref (q 13), .ref (q 14), .int (iI fresh)])), (q 12, .inl (z.1, 64, .inl (aI fsu))), (q 13, .inl (z.1, 64, .inl (aI fsr))), (q 14, .inl (z.2.1, 64, .inl (aI fse))), (q 2, .inr (0, [.ref (q 6), .ref (q 7), .ref (q 8), .ref (q 9), .ref (q 10), .ref (q 11)])), (q 8, .inl (z.1, 66, .inl (aI fsz))), (q 9, .inl (z.1, 1584, .inl (aI frt))), (q 10, .inl (z.1, 1584, .inl (aI fnt))), (q 11, .inl (z.1, 1584, .inl (aI fco)))] H := hP.sub [0, 1, 2, 3, 4, 5, 6, 7, 8] rfl
    have hD9 : va_D A [(q 3, .inr (2, [.ref (q 2), .int (iI self), .ref (q 12), .ref (q 13), .ref (q 14), .int (iI fresh)])), (q 12, .inl (z.1, 64, .inl (aI fsu))), (q 13, .inl (z.1, 64, .inl (aI fsr))), (q 14, .inl (z.2.1, 64, .inl (aI fse))), (q 2, .inr (0, [.ref (q 6), .ref (q 7), .ref (q 8), .ref (q 9), .ref (q 10), .ref (q 11)])), (q 8, .inl (z.1, 66, .inl (aI fsz))), (q 9, .inl (z.1, 1584, .inl (aI frt))), (q 10, .inl (z.1, 1584, .inl (aI fnt))), (q 11, .inl (z.1, 1584, .inl (aI fco)))] := hD.sub [0, 1, 2, 3, 4, 5, 6, 7, 8] (by decide) rfl
    refine rv_vret hx hb hRt hlocks (Nat.le_of_ble_eq_true rfl) (Nat.le_of_ble_eq_true rfl) hP9 hD9 hS d_Y_refresh_7 ?_
    exact ⟨fsu, fsr, fse, (by rw [hf1]), rsu, rsr, rse, (hw hf1)⟩
set_option maxHeartbeats 4000000 in
set_option maxRecDepth 100000 in
theorem k_Y_sumOver (l : Launch) (G : va_G) (z : tz3) (q : Nat → Nat) (self : Int) (fresh : Int) (fsu : Int → Int) (fsz : Int → Int) (frt : Int → Int) (fnt : Int → Int) (fco : Int → Int) (r : Int) (net : Int) (rsu : ∀ i : Int, -1 ≤ fsu i ∧ fsu i ≤ 64000) (rsz : ∀ i : Int, 0 ≤ fsz i ∧ fsz i ≤ 24) (rrt : ∀ i : Int, -1 ≤ frt i ∧ frt i ≤ 63) (rnt : ∀ i : Int, 0 ≤ fnt i ∧ fnt i ≤ 63) (rco : ∀ i : Int, 0 ≤ fco i ∧ fco i ≤ 1000) (hAK : AOK fsz frt fco) (hr : 0 ≤ r ∧ r < 64) (hnet : 0 ≤ net ∧ net < 64) : Ki l y_Y_sumOver c_Y_sumOver 4 (some .int) (rmD 2) G z [.ref (q 3), .int (iI r), .int (iI net)] [(q 3, .inr (2, [.ref (q 2), .int (iI self), .ref (q 12), .ref (q 13), .ref (q 14), .int (iI fresh)])), (q 12, .inl (z.1, 64, .inl (aI fsu))), (q 2, .inr (0, [.ref (q 6), .ref (q 7), .ref (q 8), .ref (q 9), .ref (q 10), .ref (q 11)])), (q 8, .inl (z.1, 66, .inl (aI fsz))), (q 9, .inl (z.1, 1584, .inl (aI frt))), (q 10, .inl (z.1, 1584, .inl (aI fnt))), (q 11, .inl (z.1, 1584, .inl (aI fco)))] (fun r9 u9 => ∃ (rv : Int), u9 = [(q 3, .inr (2, [.ref (q 2), .int (iI self), .ref (q 12), .ref (q 13), .ref (q 14), .int (iI fresh)])), (q 12, .inl (z.1, 64, .inl (aI fsu))), (q 2, .inr (0, [.ref (q 6), .ref (q 7), .ref (q 8), .ref (q 9), .ref (q 10), .ref (q 11)])), (q 8, .inl (z.1, 66, .inl (aI fsz))), (q 9, .inl (z.1, 1584, .inl (aI frt))), (q 10, .inl (z.1, 1584, .inl (aI fnt))), (q 11, .inl (z.1, 1584, .inl (aI fco)))] ∧ r9 = iI rv ∧ (-1 ≤ rv ∧ rv ≤ 65000) ∧ (PSO fsz frt fnt fco fsu r net rv)) := by
  refine Ki.of (by decide) (Nat.le_of_ble_eq_true rfl) ?_
  intro p e s m below meth c A hB hP hD ls hl
  obtain ⟨hx, hb, hRt, hml, hown, hlocks, hg, hE, hA, hin⟩ := hB
  have hown : s.vm.findClass R_Y = some m.cls := hown
  have hl : lv_has ls 4 [(0, .ref (q 3)), (1, .int (iI r)), (2, .int (iI net))] := hl
  obtain ⟨H, hH⟩ : ∃ H, H = s.heap := ⟨_, rfl⟩
  have hS : va_S A s.heap H [] := by rw [hH]; exact va_S.rf
  rw [← hH] at hP
  rw [← hH]
  have hP : va_P G cls0 [(q 3, .inr (2, [.ref (q 2), .int (iI self), .ref (q 12), .ref (q 13), .ref (q 14), .int (iI fresh)])), (q 12, .inl (z.1, 64, .inl (aI fsu))), (q 2, .inr (0, [.ref (q 6), .ref (q 7), .ref (q 8), .ref (q 9), .ref (q 10), .ref (q 11)])), (q 8, .inl (z.1, 66, .inl (aI fsz))), (q 9, .inl (z.1, 1584, .inl (aI frt))), (q 10, .inl (z.1, 1584, .inl (aI fnt))), (q 11, .inl (z.1, 1584, .inl (aI fco)))] H := hP
  have hD : va_D A [(q 3, .inr (2, [.ref (q 2), .int (iI self), .ref (q 12), .ref (q 13), .ref (q 14), .int (iI fresh)])), (q 12, .inl (z.1, 64, .inl (aI fsu))), (q 2, .inr (0, [.ref (q 6), .ref (q 7), .ref (q 8), .ref (q 9), .ref (q 10), .ref (q 11)])), (q 8, .inl (z.1, 66, .inl (aI fsz))), (q 9, .inl (z.1, 1584, .inl (aI frt))), (q 10, .inl (z.1, 1584, .inl (aI fnt))), (q 11, .inl (z.1, 1584, .inl (aI fco)))] := hD
  refine lv_aload_n hx hb d_Y_sumOver_0 rfl (lv_at hl 0 rfl) ?_
  refine va_get (D := G) (ci := 2) (v := .ref (q 2)) (C := R_Y) (T := T_Y) (N := 6) hx hb hg iw_Y hown hE.1 hP 0 rfl rfl 0 (by decide) (hg _ fl_Y_22) (fun _ h9 => h9) rfl d_Y_sumOver_1 ?_
  refine lv_iload_n hx hb d_Y_sumOver_4 rfl (lv_at hl 1 rfl) ?_
  refine lv_iconst (v := iI (-1)) hx hb d_Y_sumOver_5 rfl ?_
  refine lv_iload_n hx hb d_Y_sumOver_6 rfl (lv_at hl 2 rfl) ?_
  refine qV_i (As := [.int (iI r), .int (iI ((-1))), .int (iI net)]) (rest := []) (wr := [(q 3, .inr (2, [.ref (q 2), .int (iI self), .ref (q 12), .ref (q 13), .ref (q 14), .int (iI fresh)])), (q 12, .inl (z.1, 64, .inl (aI fsu)))]) hx hb hml hown hg hE hA hS hP hD (k_A_costOf l G z q fsz frt fnt fco r ((-1)) net (by omega) (by assumption) (by assumption) (by assumption) (by assumption) (by omega) (by omega)) [2, 3, 4, 5, 6] [0, 1] rfl rfl (by decide) (by decide) (by decide) (q0 := 0) rfl rfl ml_Y_78 im_A_costOf se_A_costOf in_A co_A_costOf ok_A_costOf ⟨Nat.le_of_ble_eq_true rfl, Nat.le_of_ble_eq_true rfl⟩ hl.1 rfl (Nat.le_of_ble_eq_true rfl) d_Y_sumOver_7 ⟨Nat.le_of_ble_eq_true rfl, Nat.le_of_ble_eq_true rfl⟩ (fun r9 u9 H locs hw hP hD hS => ?_)
  obtain ⟨pc, rfl, rfl, fbc⟩ := hw
  have hP : va_P G cls0 [(q 3, .inr (2, [.ref (q 2), .int (iI self), .ref (q 12), .ref (q 13), .ref (q 14), .int (iI fresh)])), (q 12, .inl (z.1, 64, .inl (aI fsu))), (q 2, .inr (0, [.ref (q 6), .ref (q 7), .ref (q 8), .ref (q 9), .ref (q 10), .ref (q 11)])), (q 8, .inl (z.1, 66, .inl (aI fsz))), (q 9, .inl (z.1, 1584, .inl (aI frt))), (q 10, .inl (z.1, 1584, .inl (aI fnt))), (q 11, .inl (z.1, 1584, .inl (aI fco)))] H := hP
  have hD : va_D A [(q 3, .inr (2, [.ref (q 2), .int (iI self), .ref (q 12), .ref (q 13), .ref (q 14), .int (iI fresh)])), (q 12, .inl (z.1, 64, .inl (aI fsu))), (q 2, .inr (0, [.ref (q 6), .ref (q 7), .ref (q 8), .ref (q 9), .ref (q 10), .ref (q 11)])), (q 8, .inl (z.1, 66, .inl (aI fsz))), (q 9, .inl (z.1, 1584, .inl (aI frt))), (q 10, .inl (z.1, 1584, .inl (aI fnt))), (q 11, .inl (z.1, 1584, .inl (aI fco)))] := hD
  have hpc : -1 ≤ pc ∧ pc ≤ 1000 := by
    rcases fbc with ⟨w, -⟩ | ⟨k, -, -, -, -, w⟩
    · omega
    · rw [w]; have := rco (r * 24 + k); omega
  have hno : pc = -1 → ∀ w : Int, ¬ ps fsz frt fnt fco fsu r net w := by
    rintro hp w ⟨-, k, k0, k1, k2, k3, -⟩
    rcases fbc with ⟨-, q⟩ | ⟨j, j0, j1, -, -, q⟩
    · exact q k k0 k1 ⟨k2, k3⟩
    · have := hAK.2.2 r j hr.1 hr.2 j0 j1; omega
  have hyes : pc ≠ -1 → fsu r ≠ -1 → ps fsz frt fnt fco fsu r net (fsu r + pc) := by
    intro hp hs
    rcases fbc with ⟨q, -⟩ | ⟨j, j0, j1, j2, j3, q⟩
    · exact absurd q hp
    · exact ⟨hs, j, j0, j1, j2, j3, by rw [q]⟩
  clear fbc
  refine lv_istore_n (lv' := [(3, .int (iI pc)), (0, .ref (q 3)), (1, .int (iI r)), (2, .int (iI net))]) hx hb d_Y_sumOver_10 rfl hl (by decide) rfl (fun ls hl => ?_)
  refine lv_aload_n hx hb d_Y_sumOver_11 rfl (lv_at hl 1 rfl) ?_
  refine va_get (D := G) (ci := 2) (v := .ref (q 12)) (C := R_Y) (T := T_Y) (N := 6) hx hb hg iw_Y hown hE.1 hP 0 rfl rfl 2 (by decide) (hg _ fl_Y_9) (fun _ h9 => h9) rfl d_Y_sumOver_12 ?_
  refine lv_iload_n hx hb d_Y_sumOver_15 rfl (lv_at hl 2 rfl) ?_
  refine rv_iald hx hb hE hP 1 rfl (i := r) (by omega) (by omega) (by decide) d_Y_sumOver_16 ?_
  refine lv_iconst (v := iI (-1)) hx hb d_Y_sumOver_17 rfl ?_
  refine rv_icmp_eq (tgt := 26) hx hb d_Y_sumOver_18 (by decide) (by (try have := rsu r); constructor <;> omega) ⟨by decide, by decide⟩ (fun c_1 => ?_) (fun c_1 => ?_)
  · skip
    refine lv_iconst (v := iI (-1)) hx hb d_Y_sumOver_26 rfl ?_
    refine lv_goto (tgt := 38) hx hb d_Y_sumOver_27 (by decide) ?_
    have hP9 : va_P G cls0 [(q 3, .inr (2, [.ref (q 2), .int (iI self), .ref (q 12), .ref (q 13), .ref (q 14), .int (iI fresh)])), (q 12, .inl (z.1, 64, .inl (aI fsu))), (q 2, .inr (0, [.ref (q 6), .ref (q 7), .ref (q 8), .ref (q 9), .ref (q 10), .ref (q 11)])), (q 8, .inl (z.1, 66, .inl (aI fsz))), (q 9, .inl (z.1, 1584, .inl (aI frt))), (q 10, .inl (z.1, 1584, .inl (aI fnt))), (q 11, .inl (z.1, 1584, .inl (aI fco)))] H := hP.sub [0, 1, 2, 3, 4, 5, 6] rfl
    have hD9 : va_D A [(q 3, .inr (2, [.ref (q 2), .int (iI self), .ref (q 12), .ref (q 13), .ref (q 14), .int (iI fresh)])), (q 12, .inl (z.1, 64, .inl (aI fsu))), (q 2, .inr (0, [.ref (q 6), .ref (q 7), .ref (q 8), .ref (q 9), .ref (q 10), .ref (q 11)])), (q 8, .inl (z.1, 66, .inl (aI fsz))), (q 9, .inl (z.1, 1584, .inl (aI frt))), (q 10, .inl (z.1, 1584, .inl (aI fnt))), (q 11, .inl (z.1, 1584, .inl (aI fco)))] := hD.sub [0, 1, 2, 3, 4, 5, 6] (by decide) rfl
    refine rv_iret hx hb hRt (nar_int _) hlocks (Nat.le_of_ble_eq_true rfl) (Nat.le_of_ble_eq_true rfl) hP9 hD9 hS d_Y_sumOver_38 ?_
    exact ⟨((-1)), rfl, rfl, (by have := rsu r; omega), (by first | exact Or.inl ⟨rfl, fun w q => q.1 (by omega)⟩ | exact Or.inl ⟨rfl, hno (by omega)⟩ | exact Or.inr (hyes (by omega) (by omega)))⟩
  · skip
    refine lv_iload_n hx hb d_Y_sumOver_21 rfl (lv_at hl 0 rfl) ?_
    refine lv_iconst (v := iI (-1)) hx hb d_Y_sumOver_22 rfl ?_
    refine rv_icmp_ne (tgt := 30) hx hb d_Y_sumOver_23 (by decide) (by constructor <;> omega) ⟨by decide, by decide⟩ (fun c_2 => ?_) (fun c_2 => ?_)
    · skip
      refine lv_aload_n hx hb d_Y_sumOver_30 rfl (lv_at hl 1 rfl) ?_
      refine va_get (D := G) (ci := 2) (v := .ref (q 12)) (C := R_Y) (T := T_Y) (N := 6) hx hb hg iw_Y hown hE.1 hP 0 rfl rfl 2 (by decide) (hg _ fl_Y_9) (fun _ h9 => h9) rfl d_Y_sumOver_31 ?_
      refine lv_iload_n hx hb d_Y_sumOver_34 rfl (lv_at hl 2 rfl) ?_
      refine rv_iald hx hb hE hP 1 rfl (i := r) (by omega) (by omega) (by decide) d_Y_sumOver_35 ?_
      refine lv_iload_n hx hb d_Y_sumOver_36 rfl (lv_at hl 0 rfl) ?_
      refine rv_iadd hx hb d_Y_sumOver_37 ?_
      have hP9 : va_P G cls0 [(q 3, .inr (2, [.ref (q 2), .int (iI self), .ref (q 12), .ref (q 13), .ref (q 14), .int (iI fresh)])), (q 12, .inl (z.1, 64, .inl (aI fsu))), (q 2, .inr (0, [.ref (q 6), .ref (q 7), .ref (q 8), .ref (q 9), .ref (q 10), .ref (q 11)])), (q 8, .inl (z.1, 66, .inl (aI fsz))), (q 9, .inl (z.1, 1584, .inl (aI frt))), (q 10, .inl (z.1, 1584, .inl (aI fnt))), (q 11, .inl (z.1, 1584, .inl (aI fco)))] H := hP.sub [0, 1, 2, 3, 4, 5, 6] rfl
      have hD9 : va_D A [(q 3, .inr (2, [.ref (q 2), .int (iI self), .ref (q 12), .ref (q 13), .ref (q 14), .int (iI fresh)])), (q 12, .inl (z.1, 64, .inl (aI fsu))), (q 2, .inr (0, [.ref (q 6), .ref (q 7), .ref (q 8), .ref (q 9), .ref (q 10), .ref (q 11)])), (q 8, .inl (z.1, 66, .inl (aI fsz))), (q 9, .inl (z.1, 1584, .inl (aI frt))), (q 10, .inl (z.1, 1584, .inl (aI fnt))), (q 11, .inl (z.1, 1584, .inl (aI fco)))] := hD.sub [0, 1, 2, 3, 4, 5, 6] (by decide) rfl
      refine rv_iret hx hb hRt (nar_int _) hlocks (Nat.le_of_ble_eq_true rfl) (Nat.le_of_ble_eq_true rfl) hP9 hD9 hS d_Y_sumOver_38 ?_
      exact ⟨((fsu r) + pc), rfl, rfl, (by have := rsu r; omega), (by first | exact Or.inl ⟨rfl, fun w q => q.1 (by omega)⟩ | exact Or.inl ⟨rfl, hno (by omega)⟩ | exact Or.inr (hyes (by omega) (by omega)))⟩
    · skip
      refine lv_iconst (v := iI (-1)) hx hb d_Y_sumOver_26 rfl ?_
      refine lv_goto (tgt := 38) hx hb d_Y_sumOver_27 (by decide) ?_
      have hP9 : va_P G cls0 [(q 3, .inr (2, [.ref (q 2), .int (iI self), .ref (q 12), .ref (q 13), .ref (q 14), .int (iI fresh)])), (q 12, .inl (z.1, 64, .inl (aI fsu))), (q 2, .inr (0, [.ref (q 6), .ref (q 7), .ref (q 8), .ref (q 9), .ref (q 10), .ref (q 11)])), (q 8, .inl (z.1, 66, .inl (aI fsz))), (q 9, .inl (z.1, 1584, .inl (aI frt))), (q 10, .inl (z.1, 1584, .inl (aI fnt))), (q 11, .inl (z.1, 1584, .inl (aI fco)))] H := hP.sub [0, 1, 2, 3, 4, 5, 6] rfl
      have hD9 : va_D A [(q 3, .inr (2, [.ref (q 2), .int (iI self), .ref (q 12), .ref (q 13), .ref (q 14), .int (iI fresh)])), (q 12, .inl (z.1, 64, .inl (aI fsu))), (q 2, .inr (0, [.ref (q 6), .ref (q 7), .ref (q 8), .ref (q 9), .ref (q 10), .ref (q 11)])), (q 8, .inl (z.1, 66, .inl (aI fsz))), (q 9, .inl (z.1, 1584, .inl (aI frt))), (q 10, .inl (z.1, 1584, .inl (aI fnt))), (q 11, .inl (z.1, 1584, .inl (aI fco)))] := hD.sub [0, 1, 2, 3, 4, 5, 6] (by decide) rfl
      refine rv_iret hx hb hRt (nar_int _) hlocks (Nat.le_of_ble_eq_true rfl) (Nat.le_of_ble_eq_true rfl) hP9 hD9 hS d_Y_sumOver_38 ?_
      exact ⟨((-1)), rfl, rfl, (by have := rsu r; omega), (by first | exact Or.inl ⟨rfl, fun w q => q.1 (by omega)⟩ | exact Or.inl ⟨rfl, hno (by omega)⟩ | exact Or.inr (hyes (by omega) (by omega)))⟩
set_option maxHeartbeats 4000000 in
set_option maxRecDepth 100000 in
theorem k_Y_leastTo (l : Launch) (G : va_G) (z : tz3) (q : Nat → Nat) (self : Int) (fresh : Int) (fsu : Int → Int) (fsz : Int → Int) (frt : Int → Int) (fnt : Int → Int) (fco : Int → Int) (net : Int) (rsu : ∀ i : Int, -1 ≤ fsu i ∧ fsu i ≤ 64000) (rsz : ∀ i : Int, 0 ≤ fsz i ∧ fsz i ≤ 24) (rrt : ∀ i : Int, -1 ≤ frt i ∧ frt i ≤ 63) (rnt : ∀ i : Int, 0 ≤ fnt i ∧ fnt i ≤ 63) (rco : ∀ i : Int, 0 ≤ fco i ∧ fco i ≤ 1000) (hAK : AOK fsz frt fco) (hUQ : UNQ fsz frt fnt) (hnet : 0 ≤ net ∧ net < 64) : Ki l y_Y_leastTo c_Y_leastTo 5 (some .int) (rmD 3) G z [.ref (q 3), .int (iI net)] [(q 3, .inr (2, [.ref (q 2), .int (iI self), .ref (q 12), .ref (q 13), .ref (q 14), .int (iI fresh)])), (q 12, .inl (z.1, 64, .inl (aI fsu))), (q 2, .inr (0, [.ref (q 6), .ref (q 7), .ref (q 8), .ref (q 9), .ref (q 10), .ref (q 11)])), (q 8, .inl (z.1, 66, .inl (aI fsz))), (q 9, .inl (z.1, 1584, .inl (aI frt))), (q 10, .inl (z.1, 1584, .inl (aI fnt))), (q 11, .inl (z.1, 1584, .inl (aI fco)))] (fun r9 u9 => ∃ (rv : Int), u9 = [(q 3, .inr (2, [.ref (q 2), .int (iI self), .ref (q 12), .ref (q 13), .ref (q 14), .int (iI fresh)])), (q 12, .inl (z.1, 64, .inl (aI fsu))), (q 2, .inr (0, [.ref (q 6), .ref (q 7), .ref (q 8), .ref (q 9), .ref (q 10), .ref (q 11)])), (q 8, .inl (z.1, 66, .inl (aI fsz))), (q 9, .inl (z.1, 1584, .inl (aI frt))), (q 10, .inl (z.1, 1584, .inl (aI fnt))), (q 11, .inl (z.1, 1584, .inl (aI fco)))] ∧ r9 = iI rv ∧ (-1 ≤ rv ∧ rv ≤ 65000) ∧ (LST fsz frt fnt fco fsu net 64 rv)) := by
  refine Ki.of (by decide) (Nat.le_of_ble_eq_true rfl) ?_
  intro p e s m below meth c A hB hP hD ls hl
  obtain ⟨hx, hb, hRt, hml, hown, hlocks, hg, hE, hA, hin⟩ := hB
  have hown : s.vm.findClass R_Y = some m.cls := hown
  have hl : lv_has ls 5 [(0, .ref (q 3)), (1, .int (iI net))] := hl
  obtain ⟨H, hH⟩ : ∃ H, H = s.heap := ⟨_, rfl⟩
  have hS : va_S A s.heap H [] := by rw [hH]; exact va_S.rf
  rw [← hH] at hP
  rw [← hH]
  have hP : va_P G cls0 [(q 3, .inr (2, [.ref (q 2), .int (iI self), .ref (q 12), .ref (q 13), .ref (q 14), .int (iI fresh)])), (q 12, .inl (z.1, 64, .inl (aI fsu))), (q 2, .inr (0, [.ref (q 6), .ref (q 7), .ref (q 8), .ref (q 9), .ref (q 10), .ref (q 11)])), (q 8, .inl (z.1, 66, .inl (aI fsz))), (q 9, .inl (z.1, 1584, .inl (aI frt))), (q 10, .inl (z.1, 1584, .inl (aI fnt))), (q 11, .inl (z.1, 1584, .inl (aI fco)))] H := hP
  have hD : va_D A [(q 3, .inr (2, [.ref (q 2), .int (iI self), .ref (q 12), .ref (q 13), .ref (q 14), .int (iI fresh)])), (q 12, .inl (z.1, 64, .inl (aI fsu))), (q 2, .inr (0, [.ref (q 6), .ref (q 7), .ref (q 8), .ref (q 9), .ref (q 10), .ref (q 11)])), (q 8, .inl (z.1, 66, .inl (aI fsz))), (q 9, .inl (z.1, 1584, .inl (aI frt))), (q 10, .inl (z.1, 1584, .inl (aI fnt))), (q 11, .inl (z.1, 1584, .inl (aI fco)))] := hD
  refine lv_iconst (v := iI (-1)) hx hb d_Y_leastTo_0 rfl ?_
  refine lv_istore_n (lv' := [(2, .int (iI ((-1)))), (0, .ref (q 3)), (1, .int (iI net))]) hx hb d_Y_leastTo_1 rfl hl (by decide) rfl (fun ls hl => ?_)
  refine lv_iconst (v := iI 0) hx hb d_Y_leastTo_2 rfl ?_
  refine lv_istore_n (lv' := [(3, .int (iI 0)), (2, .int (iI ((-1)))), (0, .ref (q 3)), (1, .int (iI net))]) hx hb d_Y_leastTo_3 rfl hl (by decide) rfl (fun ls hl => ?_)
  have L4 : ∀ n9 : Nat, ∀ (L : Int) (i : Int), (64 - i : Int).toNat < n9 → (0 ≤ i ∧ i ≤ 64 ∧ -1 ≤ L ∧ L ≤ 65000) → (LST fsz frt fnt fco fsu net i L) → ∀ (H : Heap) (locs : List Loc), va_P G cls0 [(q 3, .inr (2, [.ref (q 2), .int (iI self), .ref (q 12), .ref (q 13), .ref (q 14), .int (iI fresh)])), (q 12, .inl (z.1, 64, .inl (aI fsu))), (q 2, .inr (0, [.ref (q 6), .ref (q 7), .ref (q 8), .ref (q 9), .ref (q 10), .ref (q 11)])), (q 8, .inl (z.1, 66, .inl (aI fsz))), (q 9, .inl (z.1, 1584, .inl (aI frt))), (q 10, .inl (z.1, 1584, .inl (aI fnt))), (q 11, .inl (z.1, 1584, .inl (aI fco)))] H → va_D A [(q 3, .inr (2, [.ref (q 2), .int (iI self), .ref (q 12), .ref (q 13), .ref (q 14), .int (iI fresh)])), (q 12, .inl (z.1, 64, .inl (aI fsu))), (q 2, .inr (0, [.ref (q 6), .ref (q 7), .ref (q 8), .ref (q 9), .ref (q 10), .ref (q 11)])), (q 8, .inl (z.1, 66, .inl (aI fsz))), (q 9, .inl (z.1, 1584, .inl (aI frt))), (q 10, .inl (z.1, 1584, .inl (aI fnt))), (q 11, .inl (z.1, 1584, .inl (aI fco)))] → va_S A s.heap H locs → ∀ ls : Array Slot, lv_has ls 5 [(0, .ref (q 3)), (1, .int (iI net)), (2, .int (iI L)), (3, .int (iI i))] → W p l e (rmD 3) s m [.ref (q 3), .int (iI net)].toArray below meth c H locs 0 0 (Zi below [.ref (q 3), .int (iI net)].toArray s (rmD 3) G A (fun r9 u9 => ∃ (rv : Int), u9 = [(q 3, .inr (2, [.ref (q 2), .int (iI self), .ref (q 12), .ref (q 13), .ref (q 14), .int (iI fresh)])), (q 12, .inl (z.1, 64, .inl (aI fsu))), (q 2, .inr (0, [.ref (q 6), .ref (q 7), .ref (q 8), .ref (q 9), .ref (q 10), .ref (q 11)])), (q 8, .inl (z.1, 66, .inl (aI fsz))), (q 9, .inl (z.1, 1584, .inl (aI frt))), (q 10, .inl (z.1, 1584, .inl (aI fnt))), (q 11, .inl (z.1, 1584, .inl (aI fco)))] ∧ r9 = iI rv ∧ (-1 ≤ rv ∧ rv ≤ 65000) ∧ (LST fsz frt fnt fco fsu net 64 rv))) (F0 m 4 ls []) := by
    intro n9
    induction n9 with
    | zero => intro L i hmu; exact absurd hmu (Nat.not_lt_zero _)
    | succ n9 ih4 =>
      intro L i hmu hi hL H locs hP hD hS ls hl
      refine lv_iload_n hx hb d_Y_leastTo_4 rfl (lv_at hl 3 rfl) ?_
      refine lv_bipush (v := iI 64) hx hb d_Y_leastTo_5 (by decide +kernel) ?_
      refine rv_icmp_ge (tgt := 44) hx hb d_Y_leastTo_7 (by decide) (by constructor <;> omega) ⟨by decide, by decide⟩ (fun c_1 => ?_) (fun c_1 => ?_)
      · skip
        refine lv_iload_n hx hb d_Y_leastTo_44 rfl (lv_at hl 2 rfl) ?_
        have hP9 : va_P G cls0 [(q 3, .inr (2, [.ref (q 2), .int (iI self), .ref (q 12), .ref (q 13), .ref (q 14), .int (iI fresh)])), (q 12, .inl (z.1, 64, .inl (aI fsu))), (q 2, .inr (0, [.ref (q 6), .ref (q 7), .ref (q 8), .ref (q 9), .ref (q 10), .ref (q 11)])), (q 8, .inl (z.1, 66, .inl (aI fsz))), (q 9, .inl (z.1, 1584, .inl (aI frt))), (q 10, .inl (z.1, 1584, .inl (aI fnt))), (q 11, .inl (z.1, 1584, .inl (aI fco)))] H := hP.sub [0, 1, 2, 3, 4, 5, 6] rfl
        have hD9 : va_D A [(q 3, .inr (2, [.ref (q 2), .int (iI self), .ref (q 12), .ref (q 13), .ref (q 14), .int (iI fresh)])), (q 12, .inl (z.1, 64, .inl (aI fsu))), (q 2, .inr (0, [.ref (q 6), .ref (q 7), .ref (q 8), .ref (q 9), .ref (q 10), .ref (q 11)])), (q 8, .inl (z.1, 66, .inl (aI fsz))), (q 9, .inl (z.1, 1584, .inl (aI frt))), (q 10, .inl (z.1, 1584, .inl (aI fnt))), (q 11, .inl (z.1, 1584, .inl (aI fco)))] := hD.sub [0, 1, 2, 3, 4, 5, 6] (by decide) rfl
        refine rv_iret hx hb hRt (nar_int _) hlocks (Nat.le_of_ble_eq_true rfl) (Nat.le_of_ble_eq_true rfl) hP9 hD9 hS d_Y_leastTo_45 ?_
        exact ⟨L, rfl, rfl, (by omega), (by rw [show (64 : Int) = i by omega]; exact hL)⟩
      · skip
        refine lv_aload_n hx hb d_Y_leastTo_10 rfl (lv_at hl 0 rfl) ?_
        refine lv_iload_n hx hb d_Y_leastTo_11 rfl (lv_at hl 3 rfl) ?_
        refine lv_iload_n hx hb d_Y_leastTo_12 rfl (lv_at hl 1 rfl) ?_
        refine qV_i (As := [.int (iI i), .int (iI net)]) (rest := []) (wr := []) hx hb hml hown hg hE hA hS hP hD (k_Y_sumOver l G z q self fresh fsu fsz frt fnt fco i net (by assumption) (by assumption) (by assumption) (by assumption) (by assumption) (by assumption) (by omega) (by omega)) [0, 1, 2, 3, 4, 5, 6] [] rfl rfl (by decide) (by decide) (by decide) (q0 := 0) rfl rfl ml_Y_71 im_Y_sumOver se_Y_sumOver in_Y co_Y_sumOver ok_Y_sumOver ⟨Nat.le_of_ble_eq_true rfl, Nat.le_of_ble_eq_true rfl⟩ hl.1 rfl (Nat.le_of_ble_eq_true rfl) d_Y_leastTo_13 ⟨Nat.le_of_ble_eq_true rfl, Nat.le_of_ble_eq_true rfl⟩ (fun r9 u9 H locs hw hP hD hS => ?_)
        obtain ⟨v, rfl, rfl, fv, fP⟩ := hw
        have hP : va_P G cls0 [(q 3, .inr (2, [.ref (q 2), .int (iI self), .ref (q 12), .ref (q 13), .ref (q 14), .int (iI fresh)])), (q 12, .inl (z.1, 64, .inl (aI fsu))), (q 2, .inr (0, [.ref (q 6), .ref (q 7), .ref (q 8), .ref (q 9), .ref (q 10), .ref (q 11)])), (q 8, .inl (z.1, 66, .inl (aI fsz))), (q 9, .inl (z.1, 1584, .inl (aI frt))), (q 10, .inl (z.1, 1584, .inl (aI fnt))), (q 11, .inl (z.1, 1584, .inl (aI fco)))] H := hP
        have hD : va_D A [(q 3, .inr (2, [.ref (q 2), .int (iI self), .ref (q 12), .ref (q 13), .ref (q 14), .int (iI fresh)])), (q 12, .inl (z.1, 64, .inl (aI fsu))), (q 2, .inr (0, [.ref (q 6), .ref (q 7), .ref (q 8), .ref (q 9), .ref (q 10), .ref (q 11)])), (q 8, .inl (z.1, 66, .inl (aI fsz))), (q 9, .inl (z.1, 1584, .inl (aI frt))), (q 10, .inl (z.1, 1584, .inl (aI fnt))), (q 11, .inl (z.1, 1584, .inl (aI fco)))] := hD
        have hi64 : 0 ≤ i ∧ i < 64 := by omega
        have hnm : ¬ ps fsz frt fnt fco fsu i net (-1) := fun q => by have := ps_pos hAK rsu hi64.1 hi64.2 q; omega
        have hps : v ≠ -1 → ps fsz frt fnt fco fsu i net v := fun q => by rcases fP with ⟨w, -⟩ | w; exact absurd w q; exact w
        refine lv_istore (lv' := [(4, .int (iI v)), (0, .ref (q 3)), (1, .int (iI net)), (2, .int (iI L)), (3, .int (iI i))]) hx hb d_Y_leastTo_16 hl (by decide) rfl (fun ls hl => ?_)
        refine lv_iload hx hb d_Y_leastTo_18 (lv_at hl 0 rfl) ?_
        refine lv_iconst (v := iI (-1)) hx hb d_Y_leastTo_20 rfl ?_
        refine rv_icmp_eq (tgt := 38) hx hb d_Y_leastTo_21 (by decide) (by constructor <;> omega) ⟨by decide, by decide⟩ (fun c_2 => ?_) (fun c_2 => ?_)
        · skip
          have hstep : LST fsz frt fnt fco fsu net (i + 1) L := LST_none hL fP c_2 hnm
          refine lv_iinc (v := iI (i + 1)) (lv' := [(3, .int (iI (i + 1))), (4, .int (iI v)), (0, .ref (q 3)), (1, .int (iI net)), (2, .int (iI L))]) hx hb d_Y_leastTo_38 hl (k := 4) rfl (iI_add _ _) (by decide) rfl (fun ls hl => ?_)
          refine lv_goto (tgt := 4) hx hb d_Y_leastTo_41 (by decide) ?_
          exact ih4 _ (i + 1) (by omega) (by omega) hstep H _ (hP.sub [0, 1, 2, 3, 4, 5, 6] rfl) (hD.sub [0, 1, 2, 3, 4, 5, 6] (by decide) rfl) hS ls (lv_sub hl [2, 3, 4, 0] rfl)
        · skip
          refine lv_iload_n hx hb d_Y_leastTo_24 rfl (lv_at hl 3 rfl) ?_
          refine lv_iconst (v := iI (-1)) hx hb d_Y_leastTo_25 rfl ?_
          refine rv_icmp_eq (tgt := 35) hx hb d_Y_leastTo_26 (by decide) (by constructor <;> omega) ⟨by decide, by decide⟩ (fun c_3 => ?_) (fun c_3 => ?_)
          · skip
            have hstep : LST fsz frt fnt fco fsu net (i + 1) v := LST_take hUQ hi64 hL (hps (by omega)) (by omega) (Or.inl c_3)
            refine lv_iload hx hb d_Y_leastTo_35 (lv_at hl 0 rfl) ?_
            refine lv_istore_n (lv' := [(2, .int (iI v)), (4, .int (iI v)), (0, .ref (q 3)), (1, .int (iI net)), (3, .int (iI i))]) hx hb d_Y_leastTo_37 rfl hl (by decide) rfl (fun ls hl => ?_)
            refine lv_iinc (v := iI (i + 1)) (lv' := [(3, .int (iI (i + 1))), (2, .int (iI v)), (4, .int (iI v)), (0, .ref (q 3)), (1, .int (iI net))]) hx hb d_Y_leastTo_38 hl (k := 4) rfl (iI_add _ _) (by decide) rfl (fun ls hl => ?_)
            refine lv_goto (tgt := 4) hx hb d_Y_leastTo_41 (by decide) ?_
            exact ih4 _ (i + 1) (by omega) (by omega) hstep H _ (hP.sub [0, 1, 2, 3, 4, 5, 6] rfl) (hD.sub [0, 1, 2, 3, 4, 5, 6] (by decide) rfl) hS ls (lv_sub hl [3, 4, 1, 0] rfl)
          · skip
            refine lv_iload hx hb d_Y_leastTo_29 (lv_at hl 0 rfl) ?_
            refine lv_iload_n hx hb d_Y_leastTo_31 rfl (lv_at hl 3 rfl) ?_
            refine rv_icmp_ge (tgt := 38) hx hb d_Y_leastTo_32 (by decide) (by constructor <;> omega) (by constructor <;> omega) (fun c_4 => ?_) (fun c_4 => ?_)
            · skip
              have hstep : LST fsz frt fnt fco fsu net (i + 1) L := LST_keep hUQ hi64 hL (hps (by omega)) (by omega) (by omega)
              refine lv_iinc (v := iI (i + 1)) (lv' := [(3, .int (iI (i + 1))), (4, .int (iI v)), (0, .ref (q 3)), (1, .int (iI net)), (2, .int (iI L))]) hx hb d_Y_leastTo_38 hl (k := 4) rfl (iI_add _ _) (by decide) rfl (fun ls hl => ?_)
              refine lv_goto (tgt := 4) hx hb d_Y_leastTo_41 (by decide) ?_
              exact ih4 _ (i + 1) (by omega) (by omega) hstep H _ (hP.sub [0, 1, 2, 3, 4, 5, 6] rfl) (hD.sub [0, 1, 2, 3, 4, 5, 6] (by decide) rfl) hS ls (lv_sub hl [2, 3, 4, 0] rfl)
            · skip
              have hstep : LST fsz frt fnt fco fsu net (i + 1) v := LST_take hUQ hi64 hL (hps (by omega)) (by omega) (Or.inr (by omega))
              refine lv_iload hx hb d_Y_leastTo_35 (lv_at hl 0 rfl) ?_
              refine lv_istore_n (lv' := [(2, .int (iI v)), (4, .int (iI v)), (0, .ref (q 3)), (1, .int (iI net)), (3, .int (iI i))]) hx hb d_Y_leastTo_37 rfl hl (by decide) rfl (fun ls hl => ?_)
              refine lv_iinc (v := iI (i + 1)) (lv' := [(3, .int (iI (i + 1))), (2, .int (iI v)), (4, .int (iI v)), (0, .ref (q 3)), (1, .int (iI net))]) hx hb d_Y_leastTo_38 hl (k := 4) rfl (iI_add _ _) (by decide) rfl (fun ls hl => ?_)
              refine lv_goto (tgt := 4) hx hb d_Y_leastTo_41 (by decide) ?_
              exact ih4 _ (i + 1) (by omega) (by omega) hstep H _ (hP.sub [0, 1, 2, 3, 4, 5, 6] rfl) (hD.sub [0, 1, 2, 3, 4, 5, 6] (by decide) rfl) hS ls (lv_sub hl [3, 4, 1, 0] rfl)
  exact L4 ((64 - 0 : Int).toNat + 1) (-1) 0 (Nat.lt_succ_self _) (by omega) LST_0 H _ (hP.sub [0, 1, 2, 3, 4, 5, 6] rfl) (hD.sub [0, 1, 2, 3, 4, 5, 6] (by decide) rfl) hS ls (lv_sub hl [2, 3, 1, 0] rfl)
set_option maxHeartbeats 4000000 in
set_option maxRecDepth 100000 in
theorem k_Y_startsTo (l : Launch) (G : va_G) (z : tz3) (q : Nat → Nat) (self : Int) (fresh : Int) (fsu : Int → Int) (fsr : Int → Int) (fsz : Int → Int) (frt : Int → Int) (fnt : Int → Int) (fco : Int → Int) (net : Int) (rsu : ∀ i : Int, -1 ≤ fsu i ∧ fsu i ≤ 64000) (rsr : ∀ i : Int, 0 ≤ fsr i ∧ fsr i ≤ 16777215) (rsz : ∀ i : Int, 0 ≤ fsz i ∧ fsz i ≤ 24) (rrt : ∀ i : Int, -1 ≤ frt i ∧ frt i ≤ 63) (rnt : ∀ i : Int, 0 ≤ fnt i ∧ fnt i ≤ 63) (rco : ∀ i : Int, 0 ≤ fco i ∧ fco i ≤ 1000) (hAK : AOK fsz frt fco) (hUQ : UNQ fsz frt fnt) (hself : 0 ≤ self ∧ self < 64) (hnet : 0 ≤ net ∧ net < 64) : Ki l y_Y_startsTo c_Y_startsTo 5 (some .int) (rmD 4) G z [.ref (q 3), .int (iI net)] [(q 3, .inr (2, [.ref (q 2), .int (iI self), .ref (q 12), .ref (q 13), .ref (q 14), .int (iI fresh)])), (q 12, .inl (z.1, 64, .inl (aI fsu))), (q 13, .inl (z.1, 64, .inl (aI fsr))), (q 2, .inr (0, [.ref (q 6), .ref (q 7), .ref (q 8), .ref (q 9), .ref (q 10), .ref (q 11)])), (q 8, .inl (z.1, 66, .inl (aI fsz))), (q 9, .inl (z.1, 1584, .inl (aI frt))), (q 10, .inl (z.1, 1584, .inl (aI fnt))), (q 11, .inl (z.1, 1584, .inl (aI fco)))] (fun r9 u9 => ∃ (rv : Int), u9 = [(q 3, .inr (2, [.ref (q 2), .int (iI self), .ref (q 12), .ref (q 13), .ref (q 14), .int (iI fresh)])), (q 12, .inl (z.1, 64, .inl (aI fsu))), (q 13, .inl (z.1, 64, .inl (aI fsr))), (q 2, .inr (0, [.ref (q 6), .ref (q 7), .ref (q 8), .ref (q 9), .ref (q 10), .ref (q 11)])), (q 8, .inl (z.1, 66, .inl (aI fsz))), (q 9, .inl (z.1, 1584, .inl (aI frt))), (q 10, .inl (z.1, 1584, .inl (aI fnt))), (q 11, .inl (z.1, 1584, .inl (aI fco)))] ∧ r9 = iI rv ∧ (0 ≤ rv ∧ rv ≤ 16777215) ∧ (∃ L : Int, LST fsz frt fnt fco fsu net 64 L ∧ (((L = -1 ∨ ps fsz frt fnt fco fsu self net L) ∧ rv = 0) ∨ (¬ (L = -1 ∨ ps fsz frt fnt fco fsu self net L) ∧ MSK fsz frt fnt fco fsu fsr net L 64 rv)))) := by
  refine Ki.of (by decide) (Nat.le_of_ble_eq_true rfl) ?_
  intro p e s m below meth c A hB hP hD ls hl
  obtain ⟨hx, hb, hRt, hml, hown, hlocks, hg, hE, hA, hin⟩ := hB
  have hown : s.vm.findClass R_Y = some m.cls := hown
  have hl : lv_has ls 5 [(0, .ref (q 3)), (1, .int (iI net))] := hl
  obtain ⟨H, hH⟩ : ∃ H, H = s.heap := ⟨_, rfl⟩
  have hS : va_S A s.heap H [] := by rw [hH]; exact va_S.rf
  rw [← hH] at hP
  rw [← hH]
  have hP : va_P G cls0 [(q 3, .inr (2, [.ref (q 2), .int (iI self), .ref (q 12), .ref (q 13), .ref (q 14), .int (iI fresh)])), (q 12, .inl (z.1, 64, .inl (aI fsu))), (q 13, .inl (z.1, 64, .inl (aI fsr))), (q 2, .inr (0, [.ref (q 6), .ref (q 7), .ref (q 8), .ref (q 9), .ref (q 10), .ref (q 11)])), (q 8, .inl (z.1, 66, .inl (aI fsz))), (q 9, .inl (z.1, 1584, .inl (aI frt))), (q 10, .inl (z.1, 1584, .inl (aI fnt))), (q 11, .inl (z.1, 1584, .inl (aI fco)))] H := hP
  have hD : va_D A [(q 3, .inr (2, [.ref (q 2), .int (iI self), .ref (q 12), .ref (q 13), .ref (q 14), .int (iI fresh)])), (q 12, .inl (z.1, 64, .inl (aI fsu))), (q 13, .inl (z.1, 64, .inl (aI fsr))), (q 2, .inr (0, [.ref (q 6), .ref (q 7), .ref (q 8), .ref (q 9), .ref (q 10), .ref (q 11)])), (q 8, .inl (z.1, 66, .inl (aI fsz))), (q 9, .inl (z.1, 1584, .inl (aI frt))), (q 10, .inl (z.1, 1584, .inl (aI fnt))), (q 11, .inl (z.1, 1584, .inl (aI fco)))] := hD
  refine lv_aload_n hx hb d_Y_startsTo_0 rfl (lv_at hl 0 rfl) ?_
  refine lv_iload_n hx hb d_Y_startsTo_1 rfl (lv_at hl 1 rfl) ?_
  refine qV_i (As := [.int (iI net)]) (rest := []) (wr := [(q 13, .inl (z.1, 64, .inl (aI fsr)))]) hx hb hml hown hg hE hA hS hP hD (k_Y_leastTo l G z q self fresh fsu fsz frt fnt fco net (by assumption) (by assumption) (by assumption) (by assumption) (by assumption) (by assumption) (by assumption) (by omega)) [0, 1, 3, 4, 5, 6, 7] [2] rfl rfl (by decide) (by decide) (by decide) (q0 := 0) rfl rfl ml_Y_74 im_Y_leastTo se_Y_leastTo in_Y co_Y_leastTo ok_Y_leastTo ⟨Nat.le_of_ble_eq_true rfl, Nat.le_of_ble_eq_true rfl⟩ hl.1 rfl (Nat.le_of_ble_eq_true rfl) d_Y_startsTo_2 ⟨Nat.le_of_ble_eq_true rfl, Nat.le_of_ble_eq_true rfl⟩ (fun r9 u9 H locs hw hP hD hS => ?_)
  obtain ⟨L, rfl, rfl, fvL, fL⟩ := hw
  have hP : va_P G cls0 [(q 13, .inl (z.1, 64, .inl (aI fsr))), (q 3, .inr (2, [.ref (q 2), .int (iI self), .ref (q 12), .ref (q 13), .ref (q 14), .int (iI fresh)])), (q 12, .inl (z.1, 64, .inl (aI fsu))), (q 2, .inr (0, [.ref (q 6), .ref (q 7), .ref (q 8), .ref (q 9), .ref (q 10), .ref (q 11)])), (q 8, .inl (z.1, 66, .inl (aI fsz))), (q 9, .inl (z.1, 1584, .inl (aI frt))), (q 10, .inl (z.1, 1584, .inl (aI fnt))), (q 11, .inl (z.1, 1584, .inl (aI fco)))] H := hP
  have hD : va_D A [(q 13, .inl (z.1, 64, .inl (aI fsr))), (q 3, .inr (2, [.ref (q 2), .int (iI self), .ref (q 12), .ref (q 13), .ref (q 14), .int (iI fresh)])), (q 12, .inl (z.1, 64, .inl (aI fsu))), (q 2, .inr (0, [.ref (q 6), .ref (q 7), .ref (q 8), .ref (q 9), .ref (q 10), .ref (q 11)])), (q 8, .inl (z.1, 66, .inl (aI fsz))), (q 9, .inl (z.1, 1584, .inl (aI frt))), (q 10, .inl (z.1, 1584, .inl (aI fnt))), (q 11, .inl (z.1, 1584, .inl (aI fco)))] := hD
  refine lv_istore_n (lv' := [(2, .int (iI L)), (0, .ref (q 3)), (1, .int (iI net))]) hx hb d_Y_startsTo_5 rfl hl (by decide) rfl (fun ls hl => ?_)
  refine lv_iload_n hx hb d_Y_startsTo_6 rfl (lv_at hl 0 rfl) ?_
  refine lv_iconst (v := iI (-1)) hx hb d_Y_startsTo_7 rfl ?_
  refine rv_icmp_eq (tgt := 24) hx hb d_Y_startsTo_8 (by decide) (by constructor <;> omega) ⟨by decide, by decide⟩ (fun c_1 => ?_) (fun c_1 => ?_)
  · skip
    have hz : L = -1 ∨ ps fsz frt fnt fco fsu self net L := Or.inl c_1
    refine lv_iconst (v := iI 0) hx hb d_Y_startsTo_24 rfl ?_
    have hP9 : va_P G cls0 [(q 3, .inr (2, [.ref (q 2), .int (iI self), .ref (q 12), .ref (q 13), .ref (q 14), .int (iI fresh)])), (q 12, .inl (z.1, 64, .inl (aI fsu))), (q 13, .inl (z.1, 64, .inl (aI fsr))), (q 2, .inr (0, [.ref (q 6), .ref (q 7), .ref (q 8), .ref (q 9), .ref (q 10), .ref (q 11)])), (q 8, .inl (z.1, 66, .inl (aI fsz))), (q 9, .inl (z.1, 1584, .inl (aI frt))), (q 10, .inl (z.1, 1584, .inl (aI fnt))), (q 11, .inl (z.1, 1584, .inl (aI fco)))] H := hP.sub [1, 2, 0, 3, 4, 5, 6, 7] rfl
    have hD9 : va_D A [(q 3, .inr (2, [.ref (q 2), .int (iI self), .ref (q 12), .ref (q 13), .ref (q 14), .int (iI fresh)])), (q 12, .inl (z.1, 64, .inl (aI fsu))), (q 13, .inl (z.1, 64, .inl (aI fsr))), (q 2, .inr (0, [.ref (q 6), .ref (q 7), .ref (q 8), .ref (q 9), .ref (q 10), .ref (q 11)])), (q 8, .inl (z.1, 66, .inl (aI fsz))), (q 9, .inl (z.1, 1584, .inl (aI frt))), (q 10, .inl (z.1, 1584, .inl (aI fnt))), (q 11, .inl (z.1, 1584, .inl (aI fco)))] := hD.sub [1, 2, 0, 3, 4, 5, 6, 7] (by decide) rfl
    refine rv_iret hx hb hRt (nar_int _) hlocks (Nat.le_of_ble_eq_true rfl) (Nat.le_of_ble_eq_true rfl) hP9 hD9 hS d_Y_startsTo_25 ?_
    exact ⟨0, rfl, rfl, (by omega), ⟨L, fL, Or.inl ⟨hz, rfl⟩⟩⟩
  · skip
    refine lv_aload_n hx hb d_Y_startsTo_11 rfl (lv_at hl 1 rfl) ?_
    refine lv_aload_n hx hb d_Y_startsTo_12 rfl (lv_at hl 1 rfl) ?_
    refine va_get (D := G) (ci := 2) (v := .int (iI self)) (C := R_Y) (T := T_Y) (N := 6) hx hb hg iw_Y hown hE.1 hP 1 rfl rfl 1 (by decide) (hg _ fl_Y_26) (fun _ h9 => h9) rfl d_Y_startsTo_13 ?_
    refine lv_iload_n hx hb d_Y_startsTo_16 rfl (lv_at hl 2 rfl) ?_
    refine qV_i (As := [.int (iI self), .int (iI net)]) (rest := []) (wr := [(q 13, .inl (z.1, 64, .inl (aI fsr)))]) hx hb hml hown hg hE hA hS hP hD (k_Y_sumOver l G z q self fresh fsu fsz frt fnt fco self net (by assumption) (by assumption) (by assumption) (by assumption) (by assumption) (by assumption) (by omega) (by omega)) [1, 2, 3, 4, 5, 6, 7] [0] rfl rfl (by decide) (by decide) (by decide) (q0 := 0) rfl rfl ml_Y_71 im_Y_sumOver se_Y_sumOver in_Y co_Y_sumOver ok_Y_sumOver ⟨Nat.le_of_ble_eq_true rfl, Nat.le_of_ble_eq_true rfl⟩ hl.1 rfl (Nat.le_of_ble_eq_true rfl) d_Y_startsTo_17 ⟨Nat.le_of_ble_eq_true rfl, Nat.le_of_ble_eq_true rfl⟩ (fun r9 u9 H locs hw hP hD hS => ?_)
    obtain ⟨v0, rfl, rfl, fv0, fP0⟩ := hw
    have hP : va_P G cls0 [(q 13, .inl (z.1, 64, .inl (aI fsr))), (q 3, .inr (2, [.ref (q 2), .int (iI self), .ref (q 12), .ref (q 13), .ref (q 14), .int (iI fresh)])), (q 12, .inl (z.1, 64, .inl (aI fsu))), (q 2, .inr (0, [.ref (q 6), .ref (q 7), .ref (q 8), .ref (q 9), .ref (q 10), .ref (q 11)])), (q 8, .inl (z.1, 66, .inl (aI fsz))), (q 9, .inl (z.1, 1584, .inl (aI frt))), (q 10, .inl (z.1, 1584, .inl (aI fnt))), (q 11, .inl (z.1, 1584, .inl (aI fco)))] H := hP
    have hD : va_D A [(q 13, .inl (z.1, 64, .inl (aI fsr))), (q 3, .inr (2, [.ref (q 2), .int (iI self), .ref (q 12), .ref (q 13), .ref (q 14), .int (iI fresh)])), (q 12, .inl (z.1, 64, .inl (aI fsu))), (q 2, .inr (0, [.ref (q 6), .ref (q 7), .ref (q 8), .ref (q 9), .ref (q 10), .ref (q 11)])), (q 8, .inl (z.1, 66, .inl (aI fsz))), (q 9, .inl (z.1, 1584, .inl (aI frt))), (q 10, .inl (z.1, 1584, .inl (aI fnt))), (q 11, .inl (z.1, 1584, .inl (aI fco)))] := hD
    refine lv_iload_n hx hb d_Y_startsTo_20 rfl (lv_at hl 0 rfl) ?_
    refine rv_icmp_ne (tgt := 26) hx hb d_Y_startsTo_21 (by decide) (by constructor <;> omega) (by constructor <;> omega) (fun c_2 => ?_) (fun c_2 => ?_)
    · skip
      have hnz : ¬ (L = -1 ∨ ps fsz frt fnt fco fsu self net L) := by
        rintro (w | w)
        · omega
        · rcases fP0 with ⟨-, q⟩ | q
          · exact q L w
          · exact c_2 (ps_uniq hUQ hself.1 hself.2 q w)
      refine lv_iconst (v := iI 0) hx hb d_Y_startsTo_26 rfl ?_
      refine lv_istore_n (lv' := [(3, .int (iI 0)), (2, .int (iI L)), (0, .ref (q 3)), (1, .int (iI net))]) hx hb d_Y_startsTo_27 rfl hl (by decide) rfl (fun ls hl => ?_)
      refine lv_iconst (v := iI 0) hx hb d_Y_startsTo_28 rfl ?_
      refine lv_istore (lv' := [(4, .int (iI 0)), (3, .int (iI 0)), (2, .int (iI L)), (0, .ref (q 3)), (1, .int (iI net))]) hx hb d_Y_startsTo_29 hl (by decide) rfl (fun ls hl => ?_)
      have L31 : ∀ n9 : Nat, ∀ (mk : Int) (i : Int), (64 - i : Int).toNat < n9 → (0 ≤ i ∧ i ≤ 64 ∧ 0 ≤ mk ∧ mk ≤ 16777215) → (MSK fsz frt fnt fco fsu fsr net L i mk) → ∀ (H : Heap) (locs : List Loc), va_P G cls0 [(q 13, .inl (z.1, 64, .inl (aI fsr))), (q 3, .inr (2, [.ref (q 2), .int (iI self), .ref (q 12), .ref (q 13), .ref (q 14), .int (iI fresh)])), (q 12, .inl (z.1, 64, .inl (aI fsu))), (q 2, .inr (0, [.ref (q 6), .ref (q 7), .ref (q 8), .ref (q 9), .ref (q 10), .ref (q 11)])), (q 8, .inl (z.1, 66, .inl (aI fsz))), (q 9, .inl (z.1, 1584, .inl (aI frt))), (q 10, .inl (z.1, 1584, .inl (aI fnt))), (q 11, .inl (z.1, 1584, .inl (aI fco)))] H → va_D A [(q 13, .inl (z.1, 64, .inl (aI fsr))), (q 3, .inr (2, [.ref (q 2), .int (iI self), .ref (q 12), .ref (q 13), .ref (q 14), .int (iI fresh)])), (q 12, .inl (z.1, 64, .inl (aI fsu))), (q 2, .inr (0, [.ref (q 6), .ref (q 7), .ref (q 8), .ref (q 9), .ref (q 10), .ref (q 11)])), (q 8, .inl (z.1, 66, .inl (aI fsz))), (q 9, .inl (z.1, 1584, .inl (aI frt))), (q 10, .inl (z.1, 1584, .inl (aI fnt))), (q 11, .inl (z.1, 1584, .inl (aI fco)))] → va_S A s.heap H locs → ∀ ls : Array Slot, lv_has ls 5 [(0, .ref (q 3)), (1, .int (iI net)), (2, .int (iI L)), (3, .int (iI mk)), (4, .int (iI i))] → W p l e (rmD 4) s m [.ref (q 3), .int (iI net)].toArray below meth c H locs 0 0 (Zi below [.ref (q 3), .int (iI net)].toArray s (rmD 4) G A (fun r9 u9 => ∃ (rv : Int), u9 = [(q 3, .inr (2, [.ref (q 2), .int (iI self), .ref (q 12), .ref (q 13), .ref (q 14), .int (iI fresh)])), (q 12, .inl (z.1, 64, .inl (aI fsu))), (q 13, .inl (z.1, 64, .inl (aI fsr))), (q 2, .inr (0, [.ref (q 6), .ref (q 7), .ref (q 8), .ref (q 9), .ref (q 10), .ref (q 11)])), (q 8, .inl (z.1, 66, .inl (aI fsz))), (q 9, .inl (z.1, 1584, .inl (aI frt))), (q 10, .inl (z.1, 1584, .inl (aI fnt))), (q 11, .inl (z.1, 1584, .inl (aI fco)))] ∧ r9 = iI rv ∧ (0 ≤ rv ∧ rv ≤ 16777215) ∧ (∃ L : Int, LST fsz frt fnt fco fsu net 64 L ∧ (((L = -1 ∨ ps fsz frt fnt fco fsu self net L) ∧ rv = 0) ∨ (¬ (L = -1 ∨ ps fsz frt fnt fco fsu self net L) ∧ MSK fsz frt fnt fco fsu fsr net L 64 rv))))) (F0 m 31 ls []) := by
        intro n9
        induction n9 with
        | zero => intro mk i hmu; exact absurd hmu (Nat.not_lt_zero _)
        | succ n9 ih31 =>
          intro mk i hmu hi hM H locs hP hD hS ls hl
          refine lv_iload hx hb d_Y_startsTo_31 (lv_at hl 4 rfl) ?_
          refine lv_bipush (v := iI 64) hx hb d_Y_startsTo_33 (by decide +kernel) ?_
          refine rv_icmp_ge (tgt := 65) hx hb d_Y_startsTo_35 (by decide) (by constructor <;> omega) ⟨by decide, by decide⟩ (fun c_3 => ?_) (fun c_3 => ?_)
          · skip
            refine lv_iload_n hx hb d_Y_startsTo_65 rfl (lv_at hl 3 rfl) ?_
            have hP9 : va_P G cls0 [(q 3, .inr (2, [.ref (q 2), .int (iI self), .ref (q 12), .ref (q 13), .ref (q 14), .int (iI fresh)])), (q 12, .inl (z.1, 64, .inl (aI fsu))), (q 13, .inl (z.1, 64, .inl (aI fsr))), (q 2, .inr (0, [.ref (q 6), .ref (q 7), .ref (q 8), .ref (q 9), .ref (q 10), .ref (q 11)])), (q 8, .inl (z.1, 66, .inl (aI fsz))), (q 9, .inl (z.1, 1584, .inl (aI frt))), (q 10, .inl (z.1, 1584, .inl (aI fnt))), (q 11, .inl (z.1, 1584, .inl (aI fco)))] H := hP.sub [1, 2, 0, 3, 4, 5, 6, 7] rfl
            have hD9 : va_D A [(q 3, .inr (2, [.ref (q 2), .int (iI self), .ref (q 12), .ref (q 13), .ref (q 14), .int (iI fresh)])), (q 12, .inl (z.1, 64, .inl (aI fsu))), (q 13, .inl (z.1, 64, .inl (aI fsr))), (q 2, .inr (0, [.ref (q 6), .ref (q 7), .ref (q 8), .ref (q 9), .ref (q 10), .ref (q 11)])), (q 8, .inl (z.1, 66, .inl (aI fsz))), (q 9, .inl (z.1, 1584, .inl (aI frt))), (q 10, .inl (z.1, 1584, .inl (aI fnt))), (q 11, .inl (z.1, 1584, .inl (aI fco)))] := hD.sub [1, 2, 0, 3, 4, 5, 6, 7] (by decide) rfl
            refine rv_iret hx hb hRt (nar_int _) hlocks (Nat.le_of_ble_eq_true rfl) (Nat.le_of_ble_eq_true rfl) hP9 hD9 hS d_Y_startsTo_66 ?_
            exact ⟨mk, rfl, rfl, (by omega), ⟨L, fL, Or.inr ⟨hnz, by rw [show (64 : Int) = i by omega]; exact hM⟩⟩⟩
          · skip
            refine lv_aload_n hx hb d_Y_startsTo_38 rfl (lv_at hl 0 rfl) ?_
            refine lv_iload hx hb d_Y_startsTo_39 (lv_at hl 4 rfl) ?_
            refine lv_iload_n hx hb d_Y_startsTo_41 rfl (lv_at hl 1 rfl) ?_
            refine qV_i (As := [.int (iI i), .int (iI net)]) (rest := []) (wr := [(q 13, .inl (z.1, 64, .inl (aI fsr)))]) hx hb hml hown hg hE hA hS hP hD (k_Y_sumOver l G z q self fresh fsu fsz frt fnt fco i net (by assumption) (by assumption) (by assumption) (by assumption) (by assumption) (by assumption) (by omega) (by omega)) [1, 2, 3, 4, 5, 6, 7] [0] rfl rfl (by decide) (by decide) (by decide) (q0 := 0) rfl rfl ml_Y_71 im_Y_sumOver se_Y_sumOver in_Y co_Y_sumOver ok_Y_sumOver ⟨Nat.le_of_ble_eq_true rfl, Nat.le_of_ble_eq_true rfl⟩ hl.1 rfl (Nat.le_of_ble_eq_true rfl) d_Y_startsTo_42 ⟨Nat.le_of_ble_eq_true rfl, Nat.le_of_ble_eq_true rfl⟩ (fun r9 u9 H locs hw hP hD hS => ?_)
            obtain ⟨v, rfl, rfl, fv, fP⟩ := hw
            have hP : va_P G cls0 [(q 13, .inl (z.1, 64, .inl (aI fsr))), (q 3, .inr (2, [.ref (q 2), .int (iI self), .ref (q 12), .ref (q 13), .ref (q 14), .int (iI fresh)])), (q 12, .inl (z.1, 64, .inl (aI fsu))), (q 2, .inr (0, [.ref (q 6), .ref (q 7), .ref (q 8), .ref (q 9), .ref (q 10), .ref (q 11)])), (q 8, .inl (z.1, 66, .inl (aI fsz))), (q 9, .inl (z.1, 1584, .inl (aI frt))), (q 10, .inl (z.1, 1584, .inl (aI fnt))), (q 11, .inl (z.1, 1584, .inl (aI fco)))] H := hP
            have hD : va_D A [(q 13, .inl (z.1, 64, .inl (aI fsr))), (q 3, .inr (2, [.ref (q 2), .int (iI self), .ref (q 12), .ref (q 13), .ref (q 14), .int (iI fresh)])), (q 12, .inl (z.1, 64, .inl (aI fsu))), (q 2, .inr (0, [.ref (q 6), .ref (q 7), .ref (q 8), .ref (q 9), .ref (q 10), .ref (q 11)])), (q 8, .inl (z.1, 66, .inl (aI fsz))), (q 9, .inl (z.1, 1584, .inl (aI frt))), (q 10, .inl (z.1, 1584, .inl (aI fnt))), (q 11, .inl (z.1, 1584, .inl (aI fco)))] := hD
            refine lv_iload_n hx hb d_Y_startsTo_45 rfl (lv_at hl 2 rfl) ?_
            refine rv_icmp_ne (tgt := 59) hx hb d_Y_startsTo_46 (by decide) (by constructor <;> omega) (by constructor <;> omega) (fun c_4 => ?_) (fun c_4 => ?_)
            · skip
              have hnp : ¬ ps fsz frt fnt fco fsu i net L := fun w => by rcases fP with ⟨-, q⟩ | q; exact q L w; exact c_4 (ps_uniq hUQ (by omega) (by omega) q w)
              skip
              refine lv_iinc (v := iI (i + 1)) (lv' := [(4, .int (iI (i + 1))), (0, .ref (q 3)), (1, .int (iI net)), (2, .int (iI L)), (3, .int (iI mk))]) hx hb d_Y_startsTo_59 hl (k := 4) rfl (iI_add _ _) (by decide) rfl (fun ls hl => ?_)
              refine lv_goto (tgt := 31) hx hb d_Y_startsTo_62 (by decide) ?_
              have hlr := lorI_b (x := mk) (y := fsr i) ⟨by omega, by omega⟩ ⟨(rsr i).1, by have := rsr i; omega⟩
              exact ih31 _ (i + 1) (by omega) (by omega) (by first | exact MSK_or hi.1 (rsr i) hM hp | exact MSK_skip hM hnp) H _ (hP.sub [0, 1, 2, 3, 4, 5, 6, 7] rfl) (hD.sub [0, 1, 2, 3, 4, 5, 6, 7] (by decide) rfl) hS ls (lv_sub hl [1, 2, 3, 4, 0] rfl)
            · skip
              have hp : ps fsz frt fnt fco fsu i net L := by rcases fP with ⟨w, -⟩ | w; exact absurd (by omega) (show L ≠ -1 from fun q => hnz (Or.inl q)); rw [← show v = L from c_4]; exact w
              refine lv_iload_n hx hb d_Y_startsTo_49 rfl (lv_at hl 3 rfl) ?_
              refine lv_aload_n hx hb d_Y_startsTo_50 rfl (lv_at hl 0 rfl) ?_
              refine va_get (D := G) (ci := 2) (v := .ref (q 13)) (C := R_Y) (T := T_Y) (N := 6) hx hb hg iw_Y hown hE.1 hP 1 rfl rfl 3 (by decide) (hg _ fl_Y_15) (fun _ h9 => h9) rfl d_Y_startsTo_51 ?_
              refine lv_iload hx hb d_Y_startsTo_54 (lv_at hl 4 rfl) ?_
              refine rv_iald hx hb hE hP 0 rfl (i := i) (by omega) (by omega) (by decide) d_Y_startsTo_56 ?_
              refine rv_ior hx hb d_Y_startsTo_57 (by omega) (by (try have := rsr i); omega) ?_
              refine lv_istore_n (lv' := [(3, .int (iI (lorI mk (fsr i)))), (0, .ref (q 3)), (1, .int (iI net)), (2, .int (iI L)), (4, .int (iI i))]) hx hb d_Y_startsTo_58 rfl hl (by decide) rfl (fun ls hl => ?_)
              skip
              refine lv_iinc (v := iI (i + 1)) (lv' := [(4, .int (iI (i + 1))), (3, .int (iI (lorI mk (fsr i)))), (0, .ref (q 3)), (1, .int (iI net)), (2, .int (iI L))]) hx hb d_Y_startsTo_59 hl (k := 4) rfl (iI_add _ _) (by decide) rfl (fun ls hl => ?_)
              refine lv_goto (tgt := 31) hx hb d_Y_startsTo_62 (by decide) ?_
              have hlr := lorI_b (x := mk) (y := fsr i) ⟨by omega, by omega⟩ ⟨(rsr i).1, by have := rsr i; omega⟩
              exact ih31 _ (i + 1) (by omega) (by omega) (by first | exact MSK_or hi.1 (rsr i) hM hp | exact MSK_skip hM hnp) H _ (hP.sub [0, 1, 2, 3, 4, 5, 6, 7] rfl) (hD.sub [0, 1, 2, 3, 4, 5, 6, 7] (by decide) rfl) hS ls (lv_sub hl [2, 3, 4, 1, 0] rfl)
      exact L31 ((64 - 0 : Int).toNat + 1) 0 0 (Nat.lt_succ_self _) (by omega) MSK_0 H _ (hP.sub [0, 1, 2, 3, 4, 5, 6, 7] rfl) (hD.sub [0, 1, 2, 3, 4, 5, 6, 7] (by decide) rfl) hS ls (lv_sub hl [3, 4, 2, 1, 0] rfl)
    · skip
      have hz : L = -1 ∨ ps fsz frt fnt fco fsu self net L := Or.inr (by rcases fP0 with ⟨w, -⟩ | w; exact absurd (by omega) (show L ≠ -1 by omega); rw [← show v0 = L from c_2]; exact w)
      refine lv_iconst (v := iI 0) hx hb d_Y_startsTo_24 rfl ?_
      have hP9 : va_P G cls0 [(q 3, .inr (2, [.ref (q 2), .int (iI self), .ref (q 12), .ref (q 13), .ref (q 14), .int (iI fresh)])), (q 12, .inl (z.1, 64, .inl (aI fsu))), (q 13, .inl (z.1, 64, .inl (aI fsr))), (q 2, .inr (0, [.ref (q 6), .ref (q 7), .ref (q 8), .ref (q 9), .ref (q 10), .ref (q 11)])), (q 8, .inl (z.1, 66, .inl (aI fsz))), (q 9, .inl (z.1, 1584, .inl (aI frt))), (q 10, .inl (z.1, 1584, .inl (aI fnt))), (q 11, .inl (z.1, 1584, .inl (aI fco)))] H := hP.sub [1, 2, 0, 3, 4, 5, 6, 7] rfl
      have hD9 : va_D A [(q 3, .inr (2, [.ref (q 2), .int (iI self), .ref (q 12), .ref (q 13), .ref (q 14), .int (iI fresh)])), (q 12, .inl (z.1, 64, .inl (aI fsu))), (q 13, .inl (z.1, 64, .inl (aI fsr))), (q 2, .inr (0, [.ref (q 6), .ref (q 7), .ref (q 8), .ref (q 9), .ref (q 10), .ref (q 11)])), (q 8, .inl (z.1, 66, .inl (aI fsz))), (q 9, .inl (z.1, 1584, .inl (aI frt))), (q 10, .inl (z.1, 1584, .inl (aI fnt))), (q 11, .inl (z.1, 1584, .inl (aI fco)))] := hD.sub [1, 2, 0, 3, 4, 5, 6, 7] (by decide) rfl
      refine rv_iret hx hb hRt (nar_int _) hlocks (Nat.le_of_ble_eq_true rfl) (Nat.le_of_ble_eq_true rfl) hP9 hD9 hS d_Y_startsTo_25 ?_
      exact ⟨0, rfl, rfl, (by omega), ⟨L, fL, Or.inl ⟨hz, rfl⟩⟩⟩
