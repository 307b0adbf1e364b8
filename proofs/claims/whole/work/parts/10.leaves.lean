set_option maxHeartbeats 4000000 in
set_option maxRecDepth 100000 in
theorem k_B_isRouter (l : Launch) (G : va_G) (z : tz3) (a : Int) (ha : inR a) : Ki l y_B_isRouter c_B_isRouter 1 (some .boolean) (rmD 0) G z [.int (iI a)] [] (fun r9 u9 => ∃ (rb : Int), u9 = [] ∧ r9 = iI rb ∧ ((rb = 1 ∧ (0 ≤ a ∧ a < 64)) ∨ (rb = 0 ∧ ¬ (0 ≤ a ∧ a < 64)))) := by
  refine Ki.of (by decide) (Nat.le_of_ble_eq_true rfl) ?_
  intro p e s m below meth c A hB hP hD ls hl
  obtain ⟨hx, hb, hRt, hml, hown, hlocks, hg, hE, hA, hin⟩ := hB
  have hown : s.vm.findClass R_B = some m.cls := hown
  have hl : lv_has ls 1 [(0, .int (iI a))] := hl
  obtain ⟨H, hH⟩ : ∃ H, H = s.heap := ⟨_, rfl⟩
  have hS : va_S A s.heap H [] := by rw [hH]; exact va_S.rf
  rw [← hH] at hP
  rw [← hH]
  have hP : va_P G cls0 [] H := hP
  have hD : va_D A [] := hD
  refine lv_iload_n hx hb d_B_isRouter_0 rfl (lv_at hl 0 rfl) ?_
  refine rv_if_lt (tgt := 14) hx hb d_B_isRouter_1 (by decide) (by constructor <;> omega) (fun c_1 => ?_) (fun c_1 => ?_)
  · skip
    refine lv_iconst (v := iI 0) hx hb d_B_isRouter_14 rfl ?_
    have hP9 : va_P G cls0 [] H := hP.sub [] rfl
    have hD9 : va_D A [] := hD.sub [] (by decide) rfl
    refine rv_iret hx hb hRt nar_b0 hlocks (Nat.le_of_ble_eq_true rfl) (Nat.le_of_ble_eq_true rfl) hP9 hD9 hS d_B_isRouter_15 ?_
    exact ⟨0, rfl, rfl, (by omega)⟩
  · skip
    refine lv_iload_n hx hb d_B_isRouter_4 rfl (lv_at hl 0 rfl) ?_
    refine lv_bipush (v := iI 64) hx hb d_B_isRouter_5 (by decide +kernel) ?_
    refine rv_icmp_ge (tgt := 14) hx hb d_B_isRouter_7 (by decide) (by constructor <;> omega) ⟨by decide, by decide⟩ (fun c_2 => ?_) (fun c_2 => ?_)
    · skip
      refine lv_iconst (v := iI 0) hx hb d_B_isRouter_14 rfl ?_
      have hP9 : va_P G cls0 [] H := hP.sub [] rfl
      have hD9 : va_D A [] := hD.sub [] (by decide) rfl
      refine rv_iret hx hb hRt nar_b0 hlocks (Nat.le_of_ble_eq_true rfl) (Nat.le_of_ble_eq_true rfl) hP9 hD9 hS d_B_isRouter_15 ?_
      exact ⟨0, rfl, rfl, (by omega)⟩
    · skip
      refine lv_iconst (v := iI 1) hx hb d_B_isRouter_10 rfl ?_
      refine lv_goto (tgt := 15) hx hb d_B_isRouter_11 (by decide) ?_
      have hP9 : va_P G cls0 [] H := hP.sub [] rfl
      have hD9 : va_D A [] := hD.sub [] (by decide) rfl
      refine rv_iret hx hb hRt nar_b1 hlocks (Nat.le_of_ble_eq_true rfl) (Nat.le_of_ble_eq_true rfl) hP9 hD9 hS d_B_isRouter_15 ?_
      exact ⟨1, rfl, rfl, (by omega)⟩
set_option maxHeartbeats 4000000 in
set_option maxRecDepth 100000 in
theorem k_B_isNet (l : Launch) (G : va_G) (z : tz3) (a : Int) (ha : inR a) : Ki l y_B_isNet c_B_isNet 1 (some .boolean) (rmD 0) G z [.int (iI a)] [] (fun r9 u9 => ∃ (rb : Int), u9 = [] ∧ r9 = iI rb ∧ ((rb = 1 ∧ (0 ≤ a ∧ a < 64)) ∨ (rb = 0 ∧ ¬ (0 ≤ a ∧ a < 64)))) := by
  refine Ki.of (by decide) (Nat.le_of_ble_eq_true rfl) ?_
  intro p e s m below meth c A hB hP hD ls hl
  obtain ⟨hx, hb, hRt, hml, hown, hlocks, hg, hE, hA, hin⟩ := hB
  have hown : s.vm.findClass R_B = some m.cls := hown
  have hl : lv_has ls 1 [(0, .int (iI a))] := hl
  obtain ⟨H, hH⟩ : ∃ H, H = s.heap := ⟨_, rfl⟩
  have hS : va_S A s.heap H [] := by rw [hH]; exact va_S.rf
  rw [← hH] at hP
  rw [← hH]
  have hP : va_P G cls0 [] H := hP
  have hD : va_D A [] := hD
  refine lv_iload_n hx hb d_B_isNet_0 rfl (lv_at hl 0 rfl) ?_
  refine rv_if_lt (tgt := 14) hx hb d_B_isNet_1 (by decide) (by constructor <;> omega) (fun c_1 => ?_) (fun c_1 => ?_)
  · skip
    refine lv_iconst (v := iI 0) hx hb d_B_isNet_14 rfl ?_
    have hP9 : va_P G cls0 [] H := hP.sub [] rfl
    have hD9 : va_D A [] := hD.sub [] (by decide) rfl
    refine rv_iret hx hb hRt nar_b0 hlocks (Nat.le_of_ble_eq_true rfl) (Nat.le_of_ble_eq_true rfl) hP9 hD9 hS d_B_isNet_15 ?_
    exact ⟨0, rfl, rfl, (by omega)⟩
  · skip
    refine lv_iload_n hx hb d_B_isNet_4 rfl (lv_at hl 0 rfl) ?_
    refine lv_bipush (v := iI 64) hx hb d_B_isNet_5 (by decide +kernel) ?_
    refine rv_icmp_ge (tgt := 14) hx hb d_B_isNet_7 (by decide) (by constructor <;> omega) ⟨by decide, by decide⟩ (fun c_2 => ?_) (fun c_2 => ?_)
    · skip
      refine lv_iconst (v := iI 0) hx hb d_B_isNet_14 rfl ?_
      have hP9 : va_P G cls0 [] H := hP.sub [] rfl
      have hD9 : va_D A [] := hD.sub [] (by decide) rfl
      refine rv_iret hx hb hRt nar_b0 hlocks (Nat.le_of_ble_eq_true rfl) (Nat.le_of_ble_eq_true rfl) hP9 hD9 hS d_B_isNet_15 ?_
      exact ⟨0, rfl, rfl, (by omega)⟩
    · skip
      refine lv_iconst (v := iI 1) hx hb d_B_isNet_10 rfl ?_
      refine lv_goto (tgt := 15) hx hb d_B_isNet_11 (by decide) ?_
      have hP9 : va_P G cls0 [] H := hP.sub [] rfl
      have hD9 : va_D A [] := hD.sub [] (by decide) rfl
      refine rv_iret hx hb hRt nar_b1 hlocks (Nat.le_of_ble_eq_true rfl) (Nat.le_of_ble_eq_true rfl) hP9 hD9 hS d_B_isNet_15 ?_
      exact ⟨1, rfl, rfl, (by omega)⟩
set_option maxHeartbeats 4000000 in
set_option maxRecDepth 100000 in
theorem k_B_isCost (l : Launch) (G : va_G) (z : tz3) (a : Int) (ha : inR a) : Ki l y_B_isCost c_B_isCost 1 (some .boolean) (rmD 0) G z [.int (iI a)] [] (fun r9 u9 => ∃ (rb : Int), u9 = [] ∧ r9 = iI rb ∧ ((rb = 1 ∧ (1 ≤ a ∧ a ≤ 1000)) ∨ (rb = 0 ∧ ¬ (1 ≤ a ∧ a ≤ 1000)))) := by
  refine Ki.of (by decide) (Nat.le_of_ble_eq_true rfl) ?_
  intro p e s m below meth c A hB hP hD ls hl
  obtain ⟨hx, hb, hRt, hml, hown, hlocks, hg, hE, hA, hin⟩ := hB
  have hown : s.vm.findClass R_B = some m.cls := hown
  have hl : lv_has ls 1 [(0, .int (iI a))] := hl
  obtain ⟨H, hH⟩ : ∃ H, H = s.heap := ⟨_, rfl⟩
  have hS : va_S A s.heap H [] := by rw [hH]; exact va_S.rf
  rw [← hH] at hP
  rw [← hH]
  have hP : va_P G cls0 [] H := hP
  have hD : va_D A [] := hD
  refine lv_iload_n hx hb d_B_isCost_0 rfl (lv_at hl 0 rfl) ?_
  refine lv_iconst (v := iI 1) hx hb d_B_isCost_1 rfl ?_
  refine rv_icmp_lt (tgt := 16) hx hb d_B_isCost_2 (by decide) (by constructor <;> omega) ⟨by decide, by decide⟩ (fun c_1 => ?_) (fun c_1 => ?_)
  · skip
    refine lv_iconst (v := iI 0) hx hb d_B_isCost_16 rfl ?_
    have hP9 : va_P G cls0 [] H := hP.sub [] rfl
    have hD9 : va_D A [] := hD.sub [] (by decide) rfl
    refine rv_iret hx hb hRt nar_b0 hlocks (Nat.le_of_ble_eq_true rfl) (Nat.le_of_ble_eq_true rfl) hP9 hD9 hS d_B_isCost_17 ?_
    exact ⟨0, rfl, rfl, (by omega)⟩
  · skip
    refine lv_iload_n hx hb d_B_isCost_5 rfl (lv_at hl 0 rfl) ?_
    refine lv_sipush (v := iI 1000) hx hb d_B_isCost_6 (by decide +kernel) ?_
    refine rv_icmp_gt (tgt := 16) hx hb d_B_isCost_9 (by decide) (by constructor <;> omega) ⟨by decide, by decide⟩ (fun c_2 => ?_) (fun c_2 => ?_)
    · skip
      refine lv_iconst (v := iI 0) hx hb d_B_isCost_16 rfl ?_
      have hP9 : va_P G cls0 [] H := hP.sub [] rfl
      have hD9 : va_D A [] := hD.sub [] (by decide) rfl
      refine rv_iret hx hb hRt nar_b0 hlocks (Nat.le_of_ble_eq_true rfl) (Nat.le_of_ble_eq_true rfl) hP9 hD9 hS d_B_isCost_17 ?_
      exact ⟨0, rfl, rfl, (by omega)⟩
    · skip
      refine lv_iconst (v := iI 1) hx hb d_B_isCost_12 rfl ?_
      refine lv_goto (tgt := 17) hx hb d_B_isCost_13 (by decide) ?_
      have hP9 : va_P G cls0 [] H := hP.sub [] rfl
      have hD9 : va_D A [] := hD.sub [] (by decide) rfl
      refine rv_iret hx hb hRt nar_b1 hlocks (Nat.le_of_ble_eq_true rfl) (Nat.le_of_ble_eq_true rfl) hP9 hD9 hS d_B_isCost_17 ?_
      exact ⟨1, rfl, rfl, (by omega)⟩
set_option maxHeartbeats 4000000 in
set_option maxRecDepth 100000 in
theorem k_B_stepOf (l : Launch) (G : va_G) (z : tz3) (a : Int) (b : Int)  : Ki l y_B_stepOf c_B_stepOf 2 (some .int) (rmD 0) G z [.int (iI a), .int (iI b)] [] (fun r9 u9 => u9 = [] ∧ r9 = iI (64 * a + b)) := by
  refine Ki.of (by decide) (Nat.le_of_ble_eq_true rfl) ?_
  intro p e s m below meth c A hB hP hD ls hl
  obtain ⟨hx, hb, hRt, hml, hown, hlocks, hg, hE, hA, hin⟩ := hB
  have hown : s.vm.findClass R_B = some m.cls := hown
  have hl : lv_has ls 2 [(0, .int (iI a)), (1, .int (iI b))] := hl
  obtain ⟨H, hH⟩ : ∃ H, H = s.heap := ⟨_, rfl⟩
  have hS : va_S A s.heap H [] := by rw [hH]; exact va_S.rf
  rw [← hH] at hP
  rw [← hH]
  have hP : va_P G cls0 [] H := hP
  have hD : va_D A [] := hD
  refine lv_bipush (v := iI 64) hx hb d_B_stepOf_0 (by decide +kernel) ?_
  refine lv_iload_n hx hb d_B_stepOf_2 rfl (lv_at hl 0 rfl) ?_
  refine rv_imul hx hb d_B_stepOf_3 ?_
  refine lv_iload_n hx hb d_B_stepOf_4 rfl (lv_at hl 1 rfl) ?_
  refine rv_iadd hx hb d_B_stepOf_5 ?_
  have hP9 : va_P G cls0 [] H := hP.sub [] rfl
  have hD9 : va_D A [] := hD.sub [] (by decide) rfl
  refine rv_iret hx hb hRt (nar_int _) hlocks (Nat.le_of_ble_eq_true rfl) (Nat.le_of_ble_eq_true rfl) hP9 hD9 hS d_B_stepOf_6 ?_
  exact ⟨rfl, congrArg iI (by omega)⟩
set_option maxHeartbeats 4000000 in
set_option maxRecDepth 100000 in
theorem k_A_indexOf (l : Launch) (G : va_G) (z : tz3) (a : Int) (b : Int)  : Ki l y_A_indexOf c_A_indexOf 2 (some .int) (rmD 0) G z [.int (iI a), .int (iI b)] [] (fun r9 u9 => u9 = [] ∧ r9 = iI (a * 24 + b)) := by
  refine Ki.of (by decide) (Nat.le_of_ble_eq_true rfl) ?_
  intro p e s m below meth c A hB hP hD ls hl
  obtain ⟨hx, hb, hRt, hml, hown, hlocks, hg, hE, hA, hin⟩ := hB
  have hown : s.vm.findClass R_A = some m.cls := hown
  have hl : lv_has ls 2 [(0, .int (iI a)), (1, .int (iI b))] := hl
  obtain ⟨H, hH⟩ : ∃ H, H = s.heap := ⟨_, rfl⟩
  have hS : va_S A s.heap H [] := by rw [hH]; exact va_S.rf
  rw [← hH] at hP
  rw [← hH]
  have hP : va_P G cls0 [] H := hP
  have hD : va_D A [] := hD
  refine lv_iload_n hx hb d_A_indexOf_0 rfl (lv_at hl 0 rfl) ?_
  refine lv_bipush (v := iI 24) hx hb d_A_indexOf_1 (by decide +kernel) ?_
  refine rv_imul hx hb d_A_indexOf_3 ?_
  refine lv_iload_n hx hb d_A_indexOf_4 rfl (lv_at hl 1 rfl) ?_
  refine rv_iadd hx hb d_A_indexOf_5 ?_
  have hP9 : va_P G cls0 [] H := hP.sub [] rfl
  have hD9 : va_D A [] := hD.sub [] (by decide) rfl
  refine rv_iret hx hb hRt (nar_int _) hlocks (Nat.le_of_ble_eq_true rfl) (Nat.le_of_ble_eq_true rfl) hP9 hD9 hS d_A_indexOf_6 ?_
  exact ⟨rfl, congrArg iI (by omega)⟩
set_option maxHeartbeats 4000000 in
set_option maxRecDepth 100000 in
theorem k_A_isThere (l : Launch) (G : va_G) (z : tz3) (q : Nat → Nat) (fnu : Int → Int) (place : Int) (hpl : 0 ≤ place ∧ place < 66) (rnu : ∀ i : Int, inR (fnu i)) : Ki l y_A_isThere c_A_isThere 2 (some .boolean) (rmD 0) G z [.ref (q 2), .int (iI place)] [(q 2, .inr (0, [.ref (q 6), .ref (q 7), .ref (q 8), .ref (q 9), .ref (q 10), .ref (q 11)])), (q 6, .inl (z.1, 66, .inl (aI fnu)))] (fun r9 u9 => ∃ (rb : Int), u9 = [(q 2, .inr (0, [.ref (q 6), .ref (q 7), .ref (q 8), .ref (q 9), .ref (q 10), .ref (q 11)])), (q 6, .inl (z.1, 66, .inl (aI fnu)))] ∧ r9 = iI rb ∧ ((rb = 1 ∧ (fnu place ≠ -1)) ∨ (rb = 0 ∧ ¬ (fnu place ≠ -1)))) := by
  refine Ki.of (by decide) (Nat.le_of_ble_eq_true rfl) ?_
  intro p e s m below meth c A hB hP hD ls hl
  obtain ⟨hx, hb, hRt, hml, hown, hlocks, hg, hE, hA, hin⟩ := hB
  have hown : s.vm.findClass R_A = some m.cls := hown
  have hl : lv_has ls 2 [(0, .ref (q 2)), (1, .int (iI place))] := hl
  obtain ⟨H, hH⟩ : ∃ H, H = s.heap := ⟨_, rfl⟩
  have hS : va_S A s.heap H [] := by rw [hH]; exact va_S.rf
  rw [← hH] at hP
  rw [← hH]
  have hP : va_P G cls0 [(q 2, .inr (0, [.ref (q 6), .ref (q 7), .ref (q 8), .ref (q 9), .ref (q 10), .ref (q 11)])), (q 6, .inl (z.1, 66, .inl (aI fnu)))] H := hP
  have hD : va_D A [(q 2, .inr (0, [.ref (q 6), .ref (q 7), .ref (q 8), .ref (q 9), .ref (q 10), .ref (q 11)])), (q 6, .inl (z.1, 66, .inl (aI fnu)))] := hD
  refine lv_aload_n hx hb d_A_isThere_0 rfl (lv_at hl 0 rfl) ?_
  refine va_get (D := G) (ci := 0) (v := .ref (q 6)) (C := R_A) (T := T_A) (N := 6) hx hb hg iw_A hown hE.1 hP 0 rfl rfl 0 (by decide) (hg _ fl_A_9) (fun _ h9 => h9) rfl d_A_isThere_1 ?_
  refine lv_iload_n hx hb d_A_isThere_4 rfl (lv_at hl 1 rfl) ?_
  refine rv_iald hx hb hE hP 1 rfl (i := place) (by omega) (by omega) (by decide) d_A_isThere_5 ?_
  refine lv_iconst (v := iI (-1)) hx hb d_A_isThere_6 rfl ?_
  refine rv_icmp_eq (tgt := 14) hx hb d_A_isThere_7 (by decide) (by (try have := rnu place); constructor <;> omega) ⟨by decide, by decide⟩ (fun c_1 => ?_) (fun c_1 => ?_)
  · skip
    refine lv_iconst (v := iI 0) hx hb d_A_isThere_14 rfl ?_
    have hP9 : va_P G cls0 [(q 2, .inr (0, [.ref (q 6), .ref (q 7), .ref (q 8), .ref (q 9), .ref (q 10), .ref (q 11)])), (q 6, .inl (z.1, 66, .inl (aI fnu)))] H := hP.sub [0, 1] rfl
    have hD9 : va_D A [(q 2, .inr (0, [.ref (q 6), .ref (q 7), .ref (q 8), .ref (q 9), .ref (q 10), .ref (q 11)])), (q 6, .inl (z.1, 66, .inl (aI fnu)))] := hD.sub [0, 1] (by decide) rfl
    refine rv_iret hx hb hRt nar_b0 hlocks (Nat.le_of_ble_eq_true rfl) (Nat.le_of_ble_eq_true rfl) hP9 hD9 hS d_A_isThere_15 ?_
    exact ⟨0, rfl, rfl, (by omega)⟩
  · skip
    refine lv_iconst (v := iI 1) hx hb d_A_isThere_10 rfl ?_
    refine lv_goto (tgt := 15) hx hb d_A_isThere_11 (by decide) ?_
    have hP9 : va_P G cls0 [(q 2, .inr (0, [.ref (q 6), .ref (q 7), .ref (q 8), .ref (q 9), .ref (q 10), .ref (q 11)])), (q 6, .inl (z.1, 66, .inl (aI fnu)))] H := hP.sub [0, 1] rfl
    have hD9 : va_D A [(q 2, .inr (0, [.ref (q 6), .ref (q 7), .ref (q 8), .ref (q 9), .ref (q 10), .ref (q 11)])), (q 6, .inl (z.1, 66, .inl (aI fnu)))] := hD.sub [0, 1] (by decide) rfl
    refine rv_iret hx hb hRt nar_b1 hlocks (Nat.le_of_ble_eq_true rfl) (Nat.le_of_ble_eq_true rfl) hP9 hD9 hS d_A_isThere_15 ?_
    exact ⟨1, rfl, rfl, (by omega)⟩
set_option maxHeartbeats 4000000 in
set_option maxRecDepth 100000 in
theorem k_A_hasRoom (l : Launch) (G : va_G) (z : tz3) (q : Nat → Nat) (fsz : Int → Int) (place : Int) (hpl : 0 ≤ place ∧ place < 66) (rsz : ∀ i : Int, 0 ≤ fsz i ∧ fsz i ≤ 24) : Ki l y_A_hasRoom c_A_hasRoom 2 (some .boolean) (rmD 0) G z [.ref (q 2), .int (iI place)] [(q 2, .inr (0, [.ref (q 6), .ref (q 7), .ref (q 8), .ref (q 9), .ref (q 10), .ref (q 11)])), (q 8, .inl (z.1, 66, .inl (aI fsz)))] (fun r9 u9 => ∃ (rb : Int), u9 = [(q 2, .inr (0, [.ref (q 6), .ref (q 7), .ref (q 8), .ref (q 9), .ref (q 10), .ref (q 11)])), (q 8, .inl (z.1, 66, .inl (aI fsz)))] ∧ r9 = iI rb ∧ ((rb = 1 ∧ (fsz place < 24)) ∨ (rb = 0 ∧ ¬ (fsz place < 24)))) := by
  refine Ki.of (by decide) (Nat.le_of_ble_eq_true rfl) ?_
  intro p e s m below meth c A hB hP hD ls hl
  obtain ⟨hx, hb, hRt, hml, hown, hlocks, hg, hE, hA, hin⟩ := hB
  have hown : s.vm.findClass R_A = some m.cls := hown
  have hl : lv_has ls 2 [(0, .ref (q 2)), (1, .int (iI place))] := hl
  obtain ⟨H, hH⟩ : ∃ H, H = s.heap := ⟨_, rfl⟩
  have hS : va_S A s.heap H [] := by rw [hH]; exact va_S.rf
  rw [← hH] at hP
  rw [← hH]
  have hP : va_P G cls0 [(q 2, .inr (0, [.ref (q 6), .ref (q 7), .ref (q 8), .ref (q 9), .ref (q 10), .ref (q 11)])), (q 8, .inl (z.1, 66, .inl (aI fsz)))] H := hP
  have hD : va_D A [(q 2, .inr (0, [.ref (q 6), .ref (q 7), .ref (q 8), .ref (q 9), .ref (q 10), .ref (q 11)])), (q 8, .inl (z.1, 66, .inl (aI fsz)))] := hD
  refine lv_aload_n hx hb d_A_hasRoom_0 rfl (lv_at hl 0 rfl) ?_
  refine va_get (D := G) (ci := 0) (v := .ref (q 8)) (C := R_A) (T := T_A) (N := 6) hx hb hg iw_A hown hE.1 hP 0 rfl rfl 2 (by decide) (hg _ fl_A_18) (fun _ h9 => h9) rfl d_A_hasRoom_1 ?_
  refine lv_iload_n hx hb d_A_hasRoom_4 rfl (lv_at hl 1 rfl) ?_
  refine rv_iald hx hb hE hP 1 rfl (i := place) (by omega) (by omega) (by decide) d_A_hasRoom_5 ?_
  refine lv_bipush (v := iI 24) hx hb d_A_hasRoom_6 (by decide +kernel) ?_
  refine rv_icmp_ge (tgt := 15) hx hb d_A_hasRoom_8 (by decide) (by (try have := rsz place); constructor <;> omega) ⟨by decide, by decide⟩ (fun c_1 => ?_) (fun c_1 => ?_)
  · skip
    refine lv_iconst (v := iI 0) hx hb d_A_hasRoom_15 rfl ?_
    have hP9 : va_P G cls0 [(q 2, .inr (0, [.ref (q 6), .ref (q 7), .ref (q 8), .ref (q 9), .ref (q 10), .ref (q 11)])), (q 8, .inl (z.1, 66, .inl (aI fsz)))] H := hP.sub [0, 1] rfl
    have hD9 : va_D A [(q 2, .inr (0, [.ref (q 6), .ref (q 7), .ref (q 8), .ref (q 9), .ref (q 10), .ref (q 11)])), (q 8, .inl (z.1, 66, .inl (aI fsz)))] := hD.sub [0, 1] (by decide) rfl
    refine rv_iret hx hb hRt nar_b0 hlocks (Nat.le_of_ble_eq_true rfl) (Nat.le_of_ble_eq_true rfl) hP9 hD9 hS d_A_hasRoom_16 ?_
    exact ⟨0, rfl, rfl, (by omega)⟩
  · skip
    refine lv_iconst (v := iI 1) hx hb d_A_hasRoom_11 rfl ?_
    refine lv_goto (tgt := 16) hx hb d_A_hasRoom_12 (by decide) ?_
    have hP9 : va_P G cls0 [(q 2, .inr (0, [.ref (q 6), .ref (q 7), .ref (q 8), .ref (q 9), .ref (q 10), .ref (q 11)])), (q 8, .inl (z.1, 66, .inl (aI fsz)))] H := hP.sub [0, 1] rfl
    have hD9 : va_D A [(q 2, .inr (0, [.ref (q 6), .ref (q 7), .ref (q 8), .ref (q 9), .ref (q 10), .ref (q 11)])), (q 8, .inl (z.1, 66, .inl (aI fsz)))] := hD.sub [0, 1] (by decide) rfl
    refine rv_iret hx hb hRt nar_b1 hlocks (Nat.le_of_ble_eq_true rfl) (Nat.le_of_ble_eq_true rfl) hP9 hD9 hS d_A_hasRoom_16 ?_
    exact ⟨1, rfl, rfl, (by omega)⟩
set_option maxHeartbeats 4000000 in
set_option maxRecDepth 100000 in
theorem k_A_clear (l : Launch) (G : va_G) (z : tz3) (q : Nat → Nat) (fnu : Int → Int) (fsz : Int → Int) (place : Int) (hpl : 0 ≤ place ∧ place < 66) : Kv l y_A_clear c_A_clear 2 (rmD 0) G z [.ref (q 2), .int (iI place)] [(q 2, .inr (0, [.ref (q 6), .ref (q 7), .ref (q 8), .ref (q 9), .ref (q 10), .ref (q 11)])), (q 6, .inl (z.1, 66, .inl (aI fnu))), (q 8, .inl (z.1, 66, .inl (aI fsz)))] (fun u9 => u9 = [(q 2, .inr (0, [.ref (q 6), .ref (q 7), .ref (q 8), .ref (q 9), .ref (q 10), .ref (q 11)])), (q 6, .inl (z.1, 66, .inl (aI (uZ fnu place (-1))))), (q 8, .inl (z.1, 66, .inl (aI (uZ fsz place 0))))]) := by
  refine Kv.of (by decide) (Nat.le_of_ble_eq_true rfl) ?_
  intro p e s m below meth c A hB hP hD ls hl
  obtain ⟨hx, hb, hRt, hml, hown, hlocks, hg, hE, hA, hin⟩ := hB
  have hown : s.vm.findClass R_A = some m.cls := hown
  have hl : lv_has ls 2 [(0, .ref (q 2)), (1, .int (iI place))] := hl
  obtain ⟨H, hH⟩ : ∃ H, H = s.heap := ⟨_, rfl⟩
  have hS : va_S A s.heap H [] := by rw [hH]; exact va_S.rf
  rw [← hH] at hP
  rw [← hH]
  have hP : va_P G cls0 [(q 2, .inr (0, [.ref (q 6), .ref (q 7), .ref (q 8), .ref (q 9), .ref (q 10), .ref (q 11)])), (q 6, .inl (z.1, 66, .inl (aI fnu))), (q 8, .inl (z.1, 66, .inl (aI fsz)))] H := hP
  have hD : va_D A [(q 2, .inr (0, [.ref (q 6), .ref (q 7), .ref (q 8), .ref (q 9), .ref (q 10), .ref (q 11)])), (q 6, .inl (z.1, 66, .inl (aI fnu))), (q 8, .inl (z.1, 66, .inl (aI fsz)))] := hD
  refine lv_aload_n hx hb d_A_clear_0 rfl (lv_at hl 0 rfl) ?_
  refine va_get (D := G) (ci := 0) (v := .ref (q 6)) (C := R_A) (T := T_A) (N := 6) hx hb hg iw_A hown hE.1 hP 0 rfl rfl 0 (by decide) (hg _ fl_A_9) (fun _ h9 => h9) rfl d_A_clear_1 ?_
  refine lv_iload_n hx hb d_A_clear_4 rfl (lv_at hl 1 rfl) ?_
  refine lv_iconst (v := iI (-1)) hx hb d_A_clear_5 rfl ?_
  refine rv_iast hx hb hE hP hD hS 1 rfl (i := place) (x := (-1)) (by omega) (by omega) (by decide) d_A_clear_6 (fun H locs hP hD hS => ?_)
  have hP : va_P G cls0 [(q 2, .inr (0, [.ref (q 6), .ref (q 7), .ref (q 8), .ref (q 9), .ref (q 10), .ref (q 11)])), (q 6, .inl (z.1, 66, .inl (aI (uZ fnu place ((-1)))))), (q 8, .inl (z.1, 66, .inl (aI fsz)))] H := hP
  have hD : va_D A [(q 2, .inr (0, [.ref (q 6), .ref (q 7), .ref (q 8), .ref (q 9), .ref (q 10), .ref (q 11)])), (q 6, .inl (z.1, 66, .inl (aI (uZ fnu place ((-1)))))), (q 8, .inl (z.1, 66, .inl (aI fsz)))] := hD
  refine lv_aload_n hx hb d_A_clear_7 rfl (lv_at hl 0 rfl) ?_
  refine va_get (D := G) (ci := 0) (v := .ref (q 8)) (C := R_A) (T := T_A) (N := 6) hx hb hg iw_A hown hE.1 hP 0 rfl rfl 2 (by decide) (hg _ fl_A_18) (fun _ h9 => h9) rfl d_A_clear_8 ?_
  refine lv_iload_n hx hb d_A_clear_11 rfl (lv_at hl 1 rfl) ?_
  refine lv_iconst (v := iI 0) hx hb d_A_clear_12 rfl ?_
  refine rv_iast hx hb hE hP hD hS 2 rfl (i := place) (x := 0) (by omega) (by omega) (by decide) d_A_clear_13 (fun H locs hP hD hS => ?_)
  have hP : va_P G cls0 [(q 2, .inr (0, [.ref (q 6), .ref (q 7), .ref (q 8), .ref (q 9), .ref (q 10), .ref (q 11)])), (q 6, .inl (z.1, 66, .inl (aI (uZ fnu place ((-1)))))), (q 8, .inl (z.1, 66, .inl (aI (uZ fsz place 0))))] H := hP
  have hD : va_D A [(q 2, .inr (0, [.ref (q 6), .ref (q 7), .ref (q 8), .ref (q 9), .ref (q 10), .ref (q 11)])), (q 6, .inl (z.1, 66, .inl (aI (uZ fnu place ((-1)))))), (q 8, .inl (z.1, 66, .inl (aI (uZ fsz place 0))))] := hD
  have hP9 : va_P G cls0 [(q 2, .inr (0, [.ref (q 6), .ref (q 7), .ref (q 8), .ref (q 9), .ref (q 10), .ref (q 11)])), (q 6, .inl (z.1, 66, .inl (aI (uZ fnu place ((-1)))))), (q 8, .inl (z.1, 66, .inl (aI (uZ fsz place 0))))] H := hP.sub [0, 1, 2] rfl
  have hD9 : va_D A [(q 2, .inr (0, [.ref (q 6), .ref (q 7), .ref (q 8), .ref (q 9), .ref (q 10), .ref (q 11)])), (q 6, .inl (z.1, 66, .inl (aI (uZ fnu place ((-1)))))), (q 8, .inl (z.1, 66, .inl (aI (uZ fsz place 0))))] := hD.sub [0, 1, 2] (by decide) rfl
  refine rv_vret hx hb hRt hlocks (Nat.le_of_ble_eq_true rfl) (Nat.le_of_ble_eq_true rfl) hP9 hD9 hS d_A_clear_14 ?_
  exact rfl
