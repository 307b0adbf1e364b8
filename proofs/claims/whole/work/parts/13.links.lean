set_option maxHeartbeats 4000000 in
set_option maxRecDepth 100000 in
theorem k_K_hasPort (l : Launch) (G : va_G) (z : tz3) (q : Nat → Nat) (fpo : Int → Int) (pn : Int) (fn : Int) (net : Int) (hnet : 0 ≤ net ∧ net < 64) (rpo : ∀ i : Int, 0 ≤ fpo i ∧ fpo i ≤ 1000) : Ki l y_K_hasPort c_K_hasPort 2 (some .boolean) (rmD 0) G z [.ref (q 1), .int (iI net)] [(q 1, .inr (1, [.ref (q 4), .ref (q 5), .int (iI pn), .int (iI fn)])), (q 4, .inl (z.1, 64, .inl (aI fpo)))] (fun r9 u9 => ∃ (rb : Int), u9 = [(q 1, .inr (1, [.ref (q 4), .ref (q 5), .int (iI pn), .int (iI fn)])), (q 4, .inl (z.1, 64, .inl (aI fpo)))] ∧ r9 = iI rb ∧ ((rb = 1 ∧ (fpo net ≠ 0)) ∨ (rb = 0 ∧ ¬ (fpo net ≠ 0)))) := by
  refine Ki.of (by decide) (Nat.le_of_ble_eq_true rfl) ?_
  intro p e s m below meth c A hB hP hD ls hl
  obtain ⟨hx, hb, hRt, hml, hown, hlocks, hg, hE, hA, hin⟩ := hB
  have hown : s.vm.findClass R_K = some m.cls := hown
  have hl : lv_has ls 2 [(0, .ref (q 1)), (1, .int (iI net))] := hl
  obtain ⟨H, hH⟩ : ∃ H, H = s.heap := ⟨_, rfl⟩
  have hS : va_S A s.heap H [] := by rw [hH]; exact va_S.rf
  rw [← hH] at hP
  rw [← hH]
  have hP : va_P G cls0 [(q 1, .inr (1, [.ref (q 4), .ref (q 5), .int (iI pn), .int (iI fn)])), (q 4, .inl (z.1, 64, .inl (aI fpo)))] H := hP
  have hD : va_D A [(q 1, .inr (1, [.ref (q 4), .ref (q 5), .int (iI pn), .int (iI fn)])), (q 4, .inl (z.1, 64, .inl (aI fpo)))] := hD
  refine lv_aload_n hx hb d_K_hasPort_0 rfl (lv_at hl 0 rfl) ?_
  refine va_get (D := G) (ci := 1) (v := .ref (q 4)) (C := R_K) (T := T_K) (N := 4) hx hb hg iw_K hown hE.1 hP 0 rfl rfl 0 (by decide) (hg _ fl_K_9) (fun _ h9 => h9) rfl d_K_hasPort_1 ?_
  refine lv_iload_n hx hb d_K_hasPort_4 rfl (lv_at hl 1 rfl) ?_
  refine rv_iald hx hb hE hP 1 rfl (i := net) (by omega) (by omega) (by decide) d_K_hasPort_5 ?_
  refine rv_if_eq (tgt := 13) hx hb d_K_hasPort_6 (by decide) (by (try have := rpo net); constructor <;> omega) (fun c_1 => ?_) (fun c_1 => ?_)
  · skip
    refine lv_iconst (v := iI 0) hx hb d_K_hasPort_13 rfl ?_
    have hP9 : va_P G cls0 [(q 1, .inr (1, [.ref (q 4), .ref (q 5), .int (iI pn), .int (iI fn)])), (q 4, .inl (z.1, 64, .inl (aI fpo)))] H := hP.sub [0, 1] rfl
    have hD9 : va_D A [(q 1, .inr (1, [.ref (q 4), .ref (q 5), .int (iI pn), .int (iI fn)])), (q 4, .inl (z.1, 64, .inl (aI fpo)))] := hD.sub [0, 1] (by decide) rfl
    refine rv_iret hx hb hRt nar_b0 hlocks (Nat.le_of_ble_eq_true rfl) (Nat.le_of_ble_eq_true rfl) hP9 hD9 hS d_K_hasPort_14 ?_
    exact ⟨0, rfl, rfl, (by omega)⟩
  · skip
    refine lv_iconst (v := iI 1) hx hb d_K_hasPort_9 rfl ?_
    refine lv_goto (tgt := 14) hx hb d_K_hasPort_10 (by decide) ?_
    have hP9 : va_P G cls0 [(q 1, .inr (1, [.ref (q 4), .ref (q 5), .int (iI pn), .int (iI fn)])), (q 4, .inl (z.1, 64, .inl (aI fpo)))] H := hP.sub [0, 1] rfl
    have hD9 : va_D A [(q 1, .inr (1, [.ref (q 4), .ref (q 5), .int (iI pn), .int (iI fn)])), (q 4, .inl (z.1, 64, .inl (aI fpo)))] := hD.sub [0, 1] (by decide) rfl
    refine rv_iret hx hb hRt nar_b1 hlocks (Nat.le_of_ble_eq_true rfl) (Nat.le_of_ble_eq_true rfl) hP9 hD9 hS d_K_hasPort_14 ?_
    exact ⟨1, rfl, rfl, (by omega)⟩
set_option maxHeartbeats 4000000 in
set_option maxRecDepth 100000 in
theorem k_K_hasRoomForPort (l : Launch) (G : va_G) (z : tz3) (q : Nat → Nat) (fpo : Int → Int) (pn : Int) (fn : Int) (net : Int) (hnet : 0 ≤ net ∧ net < 64) (rpo : ∀ i : Int, 0 ≤ fpo i ∧ fpo i ≤ 1000) (hpn : 0 ≤ pn ∧ pn ≤ 8) : Ki l y_K_hasRoomForPort c_K_hasRoomForPort 2 (some .boolean) (rmD 1) G z [.ref (q 1), .int (iI net)] [(q 1, .inr (1, [.ref (q 4), .ref (q 5), .int (iI pn), .int (iI fn)])), (q 4, .inl (z.1, 64, .inl (aI fpo)))] (fun r9 u9 => ∃ (rb : Int), u9 = [(q 1, .inr (1, [.ref (q 4), .ref (q 5), .int (iI pn), .int (iI fn)])), (q 4, .inl (z.1, 64, .inl (aI fpo)))] ∧ r9 = iI rb ∧ ((rb = 1 ∧ (fpo net ≠ 0 ∨ pn < 8)) ∨ (rb = 0 ∧ ¬ (fpo net ≠ 0 ∨ pn < 8)))) := by
  refine Ki.of (by decide) (Nat.le_of_ble_eq_true rfl) ?_
  intro p e s m below meth c A hB hP hD ls hl
  obtain ⟨hx, hb, hRt, hml, hown, hlocks, hg, hE, hA, hin⟩ := hB
  have hown : s.vm.findClass R_K = some m.cls := hown
  have hl : lv_has ls 2 [(0, .ref (q 1)), (1, .int (iI net))] := hl
  obtain ⟨H, hH⟩ : ∃ H, H = s.heap := ⟨_, rfl⟩
  have hS : va_S A s.heap H [] := by rw [hH]; exact va_S.rf
  rw [← hH] at hP
  rw [← hH]
  have hP : va_P G cls0 [(q 1, .inr (1, [.ref (q 4), .ref (q 5), .int (iI pn), .int (iI fn)])), (q 4, .inl (z.1, 64, .inl (aI fpo)))] H := hP
  have hD : va_D A [(q 1, .inr (1, [.ref (q 4), .ref (q 5), .int (iI pn), .int (iI fn)])), (q 4, .inl (z.1, 64, .inl (aI fpo)))] := hD
  refine lv_aload_n hx hb d_K_hasRoomForPort_0 rfl (lv_at hl 0 rfl) ?_
  refine lv_iload_n hx hb d_K_hasRoomForPort_1 rfl (lv_at hl 1 rfl) ?_
  refine qV_i (As := [.int (iI net)]) (rest := []) (wr := []) hx hb hml hown hg hE hA hS hP hD (k_K_hasPort l G z q fpo pn fn net (by omega) (by assumption)) [0, 1] [] rfl rfl (by decide) (by decide) (by decide) (q0 := 0) rfl rfl ml_K_18 im_K_hasPort se_K_hasPort in_K co_K_hasPort ok_K_hasPort ⟨Nat.le_of_ble_eq_true rfl, Nat.le_of_ble_eq_true rfl⟩ hl.1 rfl (Nat.le_of_ble_eq_true rfl) d_K_hasRoomForPort_2 ⟨Nat.le_of_ble_eq_true rfl, Nat.le_of_ble_eq_true rfl⟩ (fun r9 u9 H locs hw hP hD hS => ?_)
  obtain ⟨rb_1, rfl, rfl, fb_2⟩ := hw
  have hP : va_P G cls0 [(q 1, .inr (1, [.ref (q 4), .ref (q 5), .int (iI pn), .int (iI fn)])), (q 4, .inl (z.1, 64, .inl (aI fpo)))] H := hP
  have hD : va_D A [(q 1, .inr (1, [.ref (q 4), .ref (q 5), .int (iI pn), .int (iI fn)])), (q 4, .inl (z.1, 64, .inl (aI fpo)))] := hD
  refine rv_if_ne (tgt := 17) hx hb d_K_hasRoomForPort_5 (by decide) (by constructor <;> omega) (fun c_3 => ?_) (fun c_3 => ?_)
  · skip
    refine lv_iconst (v := iI 1) hx hb d_K_hasRoomForPort_17 rfl ?_
    refine lv_goto (tgt := 22) hx hb d_K_hasRoomForPort_18 (by decide) ?_
    have hP9 : va_P G cls0 [(q 1, .inr (1, [.ref (q 4), .ref (q 5), .int (iI pn), .int (iI fn)])), (q 4, .inl (z.1, 64, .inl (aI fpo)))] H := hP.sub [0, 1] rfl
    have hD9 : va_D A [(q 1, .inr (1, [.ref (q 4), .ref (q 5), .int (iI pn), .int (iI fn)])), (q 4, .inl (z.1, 64, .inl (aI fpo)))] := hD.sub [0, 1] (by decide) rfl
    refine rv_iret hx hb hRt nar_b1 hlocks (Nat.le_of_ble_eq_true rfl) (Nat.le_of_ble_eq_true rfl) hP9 hD9 hS d_K_hasRoomForPort_22 ?_
    exact ⟨1, rfl, rfl, (by omega)⟩
  · skip
    refine lv_aload_n hx hb d_K_hasRoomForPort_8 rfl (lv_at hl 0 rfl) ?_
    refine va_get (D := G) (ci := 1) (v := .int (iI pn)) (C := R_K) (T := T_K) (N := 4) hx hb hg iw_K hown hE.1 hP 0 rfl rfl 2 (by decide) (hg _ fl_K_22) (fun _ h9 => h9) rfl d_K_hasRoomForPort_9 ?_
    refine lv_bipush (v := iI 8) hx hb d_K_hasRoomForPort_12 (by decide +kernel) ?_
    refine rv_icmp_ge (tgt := 21) hx hb d_K_hasRoomForPort_14 (by decide) (by constructor <;> omega) ⟨by decide, by decide⟩ (fun c_4 => ?_) (fun c_4 => ?_)
    · skip
      refine lv_iconst (v := iI 0) hx hb d_K_hasRoomForPort_21 rfl ?_
      have hP9 : va_P G cls0 [(q 1, .inr (1, [.ref (q 4), .ref (q 5), .int (iI pn), .int (iI fn)])), (q 4, .inl (z.1, 64, .inl (aI fpo)))] H := hP.sub [0, 1] rfl
      have hD9 : va_D A [(q 1, .inr (1, [.ref (q 4), .ref (q 5), .int (iI pn), .int (iI fn)])), (q 4, .inl (z.1, 64, .inl (aI fpo)))] := hD.sub [0, 1] (by decide) rfl
      refine rv_iret hx hb hRt nar_b0 hlocks (Nat.le_of_ble_eq_true rfl) (Nat.le_of_ble_eq_true rfl) hP9 hD9 hS d_K_hasRoomForPort_22 ?_
      exact ⟨0, rfl, rfl, (by omega)⟩
    · skip
      refine lv_iconst (v := iI 1) hx hb d_K_hasRoomForPort_17 rfl ?_
      refine lv_goto (tgt := 22) hx hb d_K_hasRoomForPort_18 (by decide) ?_
      have hP9 : va_P G cls0 [(q 1, .inr (1, [.ref (q 4), .ref (q 5), .int (iI pn), .int (iI fn)])), (q 4, .inl (z.1, 64, .inl (aI fpo)))] H := hP.sub [0, 1] rfl
      have hD9 : va_D A [(q 1, .inr (1, [.ref (q 4), .ref (q 5), .int (iI pn), .int (iI fn)])), (q 4, .inl (z.1, 64, .inl (aI fpo)))] := hD.sub [0, 1] (by decide) rfl
      refine rv_iret hx hb hRt nar_b1 hlocks (Nat.le_of_ble_eq_true rfl) (Nat.le_of_ble_eq_true rfl) hP9 hD9 hS d_K_hasRoomForPort_22 ?_
      exact ⟨1, rfl, rfl, (by omega)⟩
set_option maxHeartbeats 4000000 in
set_option maxRecDepth 100000 in
theorem k_K_hasFriend (l : Launch) (G : va_G) (z : tz3) (q : Nat → Nat) (ffr : Int → Int) (pn : Int) (fn : Int) (step : Int) (rfr : ∀ i : Int, 0 ≤ ffr i ∧ ffr i ≤ 4095) (hfn : 0 ≤ fn ∧ fn ≤ 16) (hst : inR step) : Ki l y_K_hasFriend c_K_hasFriend 3 (some .boolean) (rmD 0) G z [.ref (q 1), .int (iI step)] [(q 1, .inr (1, [.ref (q 4), .ref (q 5), .int (iI pn), .int (iI fn)])), (q 5, .inl (z.1, 16, .inl (aI ffr)))] (fun r9 u9 => ∃ (rb : Int), u9 = [(q 1, .inr (1, [.ref (q 4), .ref (q 5), .int (iI pn), .int (iI fn)])), (q 5, .inl (z.1, 16, .inl (aI ffr)))] ∧ r9 = iI rb ∧ ((rb = 1 ∧ (memF ffr fn step)) ∨ (rb = 0 ∧ ¬ (memF ffr fn step)))) := by
  refine Ki.of (by decide) (Nat.le_of_ble_eq_true rfl) ?_
  intro p e s m below meth c A hB hP hD ls hl
  obtain ⟨hx, hb, hRt, hml, hown, hlocks, hg, hE, hA, hin⟩ := hB
  have hown : s.vm.findClass R_K = some m.cls := hown
  have hl : lv_has ls 3 [(0, .ref (q 1)), (1, .int (iI step))] := hl
  obtain ⟨H, hH⟩ : ∃ H, H = s.heap := ⟨_, rfl⟩
  have hS : va_S A s.heap H [] := by rw [hH]; exact va_S.rf
  rw [← hH] at hP
  rw [← hH]
  have hP : va_P G cls0 [(q 1, .inr (1, [.ref (q 4), .ref (q 5), .int (iI pn), .int (iI fn)])), (q 5, .inl (z.1, 16, .inl (aI ffr)))] H := hP
  have hD : va_D A [(q 1, .inr (1, [.ref (q 4), .ref (q 5), .int (iI pn), .int (iI fn)])), (q 5, .inl (z.1, 16, .inl (aI ffr)))] := hD
  refine lv_iconst (v := iI 0) hx hb d_K_hasFriend_0 rfl ?_
  refine lv_istore_n (lv' := [(2, .int (iI 0)), (0, .ref (q 1)), (1, .int (iI step))]) hx hb d_K_hasFriend_1 rfl hl (by decide) rfl (fun ls hl => ?_)
  have L2 : ∀ n9 : Nat, ∀ (i : Int), (fn - i : Int).toNat < n9 → (0 ≤ i ∧ i ≤ fn) → (¬ memF ffr i step) → ∀ (H : Heap) (locs : List Loc), va_P G cls0 [(q 1, .inr (1, [.ref (q 4), .ref (q 5), .int (iI pn), .int (iI fn)])), (q 5, .inl (z.1, 16, .inl (aI ffr)))] H → va_D A [(q 1, .inr (1, [.ref (q 4), .ref (q 5), .int (iI pn), .int (iI fn)])), (q 5, .inl (z.1, 16, .inl (aI ffr)))] → va_S A s.heap H locs → ∀ ls : Array Slot, lv_has ls 3 [(0, .ref (q 1)), (1, .int (iI step)), (2, .int (iI i))] → W p l e (rmD 0) s m [.ref (q 1), .int (iI step)].toArray below meth c H locs 0 0 (Zi below [.ref (q 1), .int (iI step)].toArray s (rmD 0) G A (fun r9 u9 => ∃ (rb : Int), u9 = [(q 1, .inr (1, [.ref (q 4), .ref (q 5), .int (iI pn), .int (iI fn)])), (q 5, .inl (z.1, 16, .inl (aI ffr)))] ∧ r9 = iI rb ∧ ((rb = 1 ∧ (memF ffr fn step)) ∨ (rb = 0 ∧ ¬ (memF ffr fn step))))) (F0 m 2 ls []) := by
    intro n9
    induction n9 with
    | zero => intro i hmu; exact absurd hmu (Nat.not_lt_zero _)
    | succ n9 ih2 =>
      intro i hmu h1 hno H locs hP hD hS ls hl
      refine lv_iload_n hx hb d_K_hasFriend_2 rfl (lv_at hl 2 rfl) ?_
      refine lv_aload_n hx hb d_K_hasFriend_3 rfl (lv_at hl 0 rfl) ?_
      refine va_get (D := G) (ci := 1) (v := .int (iI fn)) (C := R_K) (T := T_K) (N := 4) hx hb hg iw_K hown hE.1 hP 0 rfl rfl 3 (by decide) (hg _ fl_K_30) (fun _ h9 => h9) rfl d_K_hasFriend_4 ?_
      refine rv_icmp_ge (tgt := 28) hx hb d_K_hasFriend_7 (by decide) (by constructor <;> omega) (by constructor <;> omega) (fun c_1 => ?_) (fun c_1 => ?_)
      · skip
        refine lv_iconst (v := iI 0) hx hb d_K_hasFriend_28 rfl ?_
        have hP9 : va_P G cls0 [(q 1, .inr (1, [.ref (q 4), .ref (q 5), .int (iI pn), .int (iI fn)])), (q 5, .inl (z.1, 16, .inl (aI ffr)))] H := hP.sub [0, 1] rfl
        have hD9 : va_D A [(q 1, .inr (1, [.ref (q 4), .ref (q 5), .int (iI pn), .int (iI fn)])), (q 5, .inl (z.1, 16, .inl (aI ffr)))] := hD.sub [0, 1] (by decide) rfl
        refine rv_iret hx hb hRt nar_b0 hlocks (Nat.le_of_ble_eq_true rfl) (Nat.le_of_ble_eq_true rfl) hP9 hD9 hS d_K_hasFriend_29 ?_
        exact ⟨0, rfl, rfl, (Or.inr ⟨rfl, by rw [show fn = i by omega]; exact hno⟩)⟩
      · skip
        refine lv_aload_n hx hb d_K_hasFriend_10 rfl (lv_at hl 0 rfl) ?_
        refine va_get (D := G) (ci := 1) (v := .ref (q 5)) (C := R_K) (T := T_K) (N := 4) hx hb hg iw_K hown hE.1 hP 0 rfl rfl 1 (by decide) (hg _ fl_K_15) (fun _ h9 => h9) rfl d_K_hasFriend_11 ?_
        refine lv_iload_n hx hb d_K_hasFriend_14 rfl (lv_at hl 2 rfl) ?_
        refine rv_iald hx hb hE hP 1 rfl (i := i) (by omega) (by omega) (by decide) d_K_hasFriend_15 ?_
        refine lv_iload_n hx hb d_K_hasFriend_16 rfl (lv_at hl 1 rfl) ?_
        refine rv_icmp_ne (tgt := 22) hx hb d_K_hasFriend_17 (by decide) (by (try have := rfr i); constructor <;> omega) (by constructor <;> omega) (fun c_2 => ?_) (fun c_2 => ?_)
        · skip
          have hne := c_2
          refine lv_iinc (v := iI (i + 1)) (lv' := [(2, .int (iI (i + 1))), (0, .ref (q 1)), (1, .int (iI step))]) hx hb d_K_hasFriend_22 hl (k := 2) rfl (iI_add _ _) (by decide) rfl (fun ls hl => ?_)
          refine lv_goto (tgt := 2) hx hb d_K_hasFriend_25 (by decide) ?_
          exact ih2 (i + 1) (by omega) (by omega) (fun q => by rcases (memF_succ h1.1).mp q with q | q; exact hno q; exact hne q) H _ (hP.sub [0, 1] rfl) (hD.sub [0, 1] (by decide) rfl) hS ls (lv_sub hl [1, 2, 0] rfl)
        · skip
          have he := c_2
          refine lv_iconst (v := iI 1) hx hb d_K_hasFriend_20 rfl ?_
          have hP9 : va_P G cls0 [(q 1, .inr (1, [.ref (q 4), .ref (q 5), .int (iI pn), .int (iI fn)])), (q 5, .inl (z.1, 16, .inl (aI ffr)))] H := hP.sub [0, 1] rfl
          have hD9 : va_D A [(q 1, .inr (1, [.ref (q 4), .ref (q 5), .int (iI pn), .int (iI fn)])), (q 5, .inl (z.1, 16, .inl (aI ffr)))] := hD.sub [0, 1] (by decide) rfl
          refine rv_iret hx hb hRt nar_b1 hlocks (Nat.le_of_ble_eq_true rfl) (Nat.le_of_ble_eq_true rfl) hP9 hD9 hS d_K_hasFriend_21 ?_
          exact ⟨1, rfl, rfl, (Or.inl ⟨rfl, i, h1.1, by omega, he⟩)⟩
  exact L2 ((fn - 0 : Int).toNat + 1) 0 (Nat.lt_succ_self _) (by omega) memF_0 H _ (hP.sub [0, 1] rfl) (hD.sub [0, 1] (by decide) rfl) hS ls (lv_sub hl [1, 2, 0] rfl)
set_option maxHeartbeats 4000000 in
set_option maxRecDepth 100000 in
theorem k_K_hasRoomForFriend (l : Launch) (G : va_G) (z : tz3) (q : Nat → Nat) (pn : Int) (fn : Int) (hfn : 0 ≤ fn ∧ fn ≤ 16) : Ki l y_K_hasRoomForFriend c_K_hasRoomForFriend 1 (some .boolean) (rmD 0) G z [.ref (q 1)] [(q 1, .inr (1, [.ref (q 4), .ref (q 5), .int (iI pn), .int (iI fn)]))] (fun r9 u9 => ∃ (rb : Int), u9 = [(q 1, .inr (1, [.ref (q 4), .ref (q 5), .int (iI pn), .int (iI fn)]))] ∧ r9 = iI rb ∧ ((rb = 1 ∧ (fn < 16)) ∨ (rb = 0 ∧ ¬ (fn < 16)))) := by
  refine Ki.of (by decide) (Nat.le_of_ble_eq_true rfl) ?_
  intro p e s m below meth c A hB hP hD ls hl
  obtain ⟨hx, hb, hRt, hml, hown, hlocks, hg, hE, hA, hin⟩ := hB
  have hown : s.vm.findClass R_K = some m.cls := hown
  have hl : lv_has ls 1 [(0, .ref (q 1))] := hl
  obtain ⟨H, hH⟩ : ∃ H, H = s.heap := ⟨_, rfl⟩
  have hS : va_S A s.heap H [] := by rw [hH]; exact va_S.rf
  rw [← hH] at hP
  rw [← hH]
  have hP : va_P G cls0 [(q 1, .inr (1, [.ref (q 4), .ref (q 5), .int (iI pn), .int (iI fn)]))] H := hP
  have hD : va_D A [(q 1, .inr (1, [.ref (q 4), .ref (q 5), .int (iI pn), .int (iI fn)]))] := hD
  refine lv_aload_n hx hb d_K_hasRoomForFriend_0 rfl (lv_at hl 0 rfl) ?_
  refine va_get (D := G) (ci := 1) (v := .int (iI fn)) (C := R_K) (T := T_K) (N := 4) hx hb hg iw_K hown hE.1 hP 0 rfl rfl 3 (by decide) (hg _ fl_K_30) (fun _ h9 => h9) rfl d_K_hasRoomForFriend_1 ?_
  refine lv_bipush (v := iI 16) hx hb d_K_hasRoomForFriend_4 (by decide +kernel) ?_
  refine rv_icmp_ge (tgt := 13) hx hb d_K_hasRoomForFriend_6 (by decide) (by constructor <;> omega) ⟨by decide, by decide⟩ (fun c_1 => ?_) (fun c_1 => ?_)
  · skip
    refine lv_iconst (v := iI 0) hx hb d_K_hasRoomForFriend_13 rfl ?_
    have hP9 : va_P G cls0 [(q 1, .inr (1, [.ref (q 4), .ref (q 5), .int (iI pn), .int (iI fn)]))] H := hP.sub [0] rfl
    have hD9 : va_D A [(q 1, .inr (1, [.ref (q 4), .ref (q 5), .int (iI pn), .int (iI fn)]))] := hD.sub [0] (by decide) rfl
    refine rv_iret hx hb hRt nar_b0 hlocks (Nat.le_of_ble_eq_true rfl) (Nat.le_of_ble_eq_true rfl) hP9 hD9 hS d_K_hasRoomForFriend_14 ?_
    exact ⟨0, rfl, rfl, (by omega)⟩
  · skip
    refine lv_iconst (v := iI 1) hx hb d_K_hasRoomForFriend_9 rfl ?_
    refine lv_goto (tgt := 14) hx hb d_K_hasRoomForFriend_10 (by decide) ?_
    have hP9 : va_P G cls0 [(q 1, .inr (1, [.ref (q 4), .ref (q 5), .int (iI pn), .int (iI fn)]))] H := hP.sub [0] rfl
    have hD9 : va_D A [(q 1, .inr (1, [.ref (q 4), .ref (q 5), .int (iI pn), .int (iI fn)]))] := hD.sub [0] (by decide) rfl
    refine rv_iret hx hb hRt nar_b1 hlocks (Nat.le_of_ble_eq_true rfl) (Nat.le_of_ble_eq_true rfl) hP9 hD9 hS d_K_hasRoomForFriend_14 ?_
    exact ⟨1, rfl, rfl, (by omega)⟩
set_option maxHeartbeats 4000000 in
set_option maxRecDepth 100000 in
theorem k_K_addFriend (l : Launch) (G : va_G) (z : tz3) (q : Nat → Nat) (ffr : Int → Int) (pn : Int) (fn : Int) (step : Int) (rfr : ∀ i : Int, 0 ≤ ffr i ∧ ffr i ≤ 4095) (hfn : 0 ≤ fn ∧ fn ≤ 16) (hst : 0 ≤ step ∧ step ≤ 4095) (hroom : fn < 16) (hs : srt ffr fn) (hm : ¬ memF ffr fn step) : Kv l y_K_addFriend c_K_addFriend 3 (rmD 0) G z [.ref (q 1), .int (iI step)] [(q 1, .inr (1, [.ref (q 4), .ref (q 5), .int (iI pn), .int (iI fn)])), (q 5, .inl (z.1, 16, .inl (aI ffr)))] (fun u9 => ∃ (g : Int → Int), u9 = [(q 1, .inr (1, [.ref (q 4), .ref (q 5), .int (iI pn), .int (iI (fn + 1))])), (q 5, .inl (z.1, 16, .inl (aI g)))] ∧ (∀ i : Int, 0 ≤ g i ∧ g i ≤ 4095) ∧ (srt g (fn + 1)) ∧ (∀ s : Int, memF g (fn + 1) s ↔ (memF ffr fn s ∨ s = step))) := by
  refine Kv.of (by decide) (Nat.le_of_ble_eq_true rfl) ?_
  intro p e s m below meth c A hB hP hD ls hl
  obtain ⟨hx, hb, hRt, hml, hown, hlocks, hg, hE, hA, hin⟩ := hB
  have hown : s.vm.findClass R_K = some m.cls := hown
  have hl : lv_has ls 3 [(0, .ref (q 1)), (1, .int (iI step))] := hl
  obtain ⟨H, hH⟩ : ∃ H, H = s.heap := ⟨_, rfl⟩
  have hS : va_S A s.heap H [] := by rw [hH]; exact va_S.rf
  rw [← hH] at hP
  rw [← hH]
  have hP : va_P G cls0 [(q 1, .inr (1, [.ref (q 4), .ref (q 5), .int (iI pn), .int (iI fn)])), (q 5, .inl (z.1, 16, .inl (aI ffr)))] H := hP
  have hD : va_D A [(q 1, .inr (1, [.ref (q 4), .ref (q 5), .int (iI pn), .int (iI fn)])), (q 5, .inl (z.1, 16, .inl (aI ffr)))] := hD
  refine lv_aload_n hx hb d_K_addFriend_0 rfl (lv_at hl 0 rfl) ?_
  refine va_get (D := G) (ci := 1) (v := .int (iI fn)) (C := R_K) (T := T_K) (N := 4) hx hb hg iw_K hown hE.1 hP 0 rfl rfl 3 (by decide) (hg _ fl_K_30) (fun _ h9 => h9) rfl d_K_addFriend_1 ?_
  refine lv_istore_n (lv' := [(2, .int (iI fn)), (0, .ref (q 1)), (1, .int (iI step))]) hx hb d_K_addFriend_4 rfl hl (by decide) rfl (fun ls hl => ?_)
  have L5 : ∀ n9 : Nat, ∀ (g : Int → Int) (t : Int), (t : Int).toNat < n9 → (∀ i : Int, 0 ≤ g i ∧ g i ≤ 4095) → (adI ffr g step fn t) → (0 ≤ t ∧ t ≤ fn) → ∀ (H : Heap) (locs : List Loc), va_P G cls0 [(q 1, .inr (1, [.ref (q 4), .ref (q 5), .int (iI pn), .int (iI fn)])), (q 5, .inl (z.1, 16, .inl (aI g)))] H → va_D A [(q 1, .inr (1, [.ref (q 4), .ref (q 5), .int (iI pn), .int (iI fn)])), (q 5, .inl (z.1, 16, .inl (aI g)))] → va_S A s.heap H locs → ∀ ls : Array Slot, lv_has ls 3 [(0, .ref (q 1)), (1, .int (iI step)), (2, .int (iI t))] → W p l e (rmD 0) s m [.ref (q 1), .int (iI step)].toArray below meth c H locs 0 0 (Zv below [.ref (q 1), .int (iI step)].toArray s (rmD 0) G A (fun u9 => ∃ (g : Int → Int), u9 = [(q 1, .inr (1, [.ref (q 4), .ref (q 5), .int (iI pn), .int (iI (fn + 1))])), (q 5, .inl (z.1, 16, .inl (aI g)))] ∧ (∀ i : Int, 0 ≤ g i ∧ g i ≤ 4095) ∧ (srt g (fn + 1)) ∧ (∀ s : Int, memF g (fn + 1) s ↔ (memF ffr fn s ∨ s = step)))) (F0 m 5 ls []) := by
    intro n9
    induction n9 with
    | zero => intro g t hmu; exact absurd hmu (Nat.not_lt_zero _)
    | succ n9 ih5 =>
      intro g t hmu rg hI ht H locs hP hD hS ls hl
      refine lv_iload_n hx hb d_K_addFriend_5 rfl (lv_at hl 2 rfl) ?_
      refine rv_if_le (tgt := 41) hx hb d_K_addFriend_6 (by decide) (by constructor <;> omega) (fun c_1 => ?_) (fun c_1 => ?_)
      · skip
        have hk : t = 0 ∨ g (t - 1) ≤ step := Or.inl (by omega)
        refine lv_aload_n hx hb d_K_addFriend_41 rfl (lv_at hl 0 rfl) ?_
        refine va_get (D := G) (ci := 1) (v := .ref (q 5)) (C := R_K) (T := T_K) (N := 4) hx hb hg iw_K hown hE.1 hP 0 rfl rfl 1 (by decide) (hg _ fl_K_15) (fun _ h9 => h9) rfl d_K_addFriend_42 ?_
        refine lv_iload_n hx hb d_K_addFriend_45 rfl (lv_at hl 2 rfl) ?_
        refine lv_iload_n hx hb d_K_addFriend_46 rfl (lv_at hl 1 rfl) ?_
        refine rv_iast hx hb hE hP hD hS 1 rfl (i := t) (x := step) (by omega) (by omega) (by decide) d_K_addFriend_47 (fun H locs hP hD hS => ?_)
        have hP : va_P G cls0 [(q 1, .inr (1, [.ref (q 4), .ref (q 5), .int (iI pn), .int (iI fn)])), (q 5, .inl (z.1, 16, .inl (aI (uZ g t step))))] H := hP
        have hD : va_D A [(q 1, .inr (1, [.ref (q 4), .ref (q 5), .int (iI pn), .int (iI fn)])), (q 5, .inl (z.1, 16, .inl (aI (uZ g t step))))] := hD
        refine lv_aload_n hx hb d_K_addFriend_48 rfl (lv_at hl 0 rfl) ?_
        refine lv_dup hx hb d_K_addFriend_49 rfl ?_
        refine va_get (D := G) (ci := 1) (v := .int (iI fn)) (C := R_K) (T := T_K) (N := 4) hx hb hg iw_K hown hE.1 hP 0 rfl rfl 3 (by decide) (hg _ fl_K_30) (fun _ h9 => h9) rfl d_K_addFriend_50 ?_
        refine lv_iconst (v := iI 1) hx hb d_K_addFriend_53 rfl ?_
        refine rv_iadd hx hb d_K_addFriend_54 ?_
        refine va_put (D := G) (ci := 1) (v := .int (iI (fn + 1))) (ty := .int) (C := R_K) (T := T_K) (N := 4) hx hb hg iw_K ty_K ty_K_ok nm_K hown hE.1 hP hD hS 0 rfl rfl 3 (by decide) (hg _ fl_K_30) (fun _ h9 => h9) rfl (by decide +kernel) rfl rfl (Nat.le_of_ble_eq_true rfl) d_K_addFriend_55 (fun H locs hP hD hS => ?_)
        have hP : va_P G cls0 [(q 1, .inr (1, [.ref (q 4), .ref (q 5), .int (iI pn), .int (iI (fn + 1))])), (q 5, .inl (z.1, 16, .inl (aI (uZ g t step))))] H := hP
        have hD : va_D A [(q 1, .inr (1, [.ref (q 4), .ref (q 5), .int (iI pn), .int (iI (fn + 1))])), (q 5, .inl (z.1, 16, .inl (aI (uZ g t step))))] := hD
        have hP9 : va_P G cls0 [(q 1, .inr (1, [.ref (q 4), .ref (q 5), .int (iI pn), .int (iI (fn + 1))])), (q 5, .inl (z.1, 16, .inl (aI (uZ g t step))))] H := hP.sub [0, 1] rfl
        have hD9 : va_D A [(q 1, .inr (1, [.ref (q 4), .ref (q 5), .int (iI pn), .int (iI (fn + 1))])), (q 5, .inl (z.1, 16, .inl (aI (uZ g t step))))] := hD.sub [0, 1] (by decide) rfl
        refine rv_vret hx hb hRt hlocks (Nat.le_of_ble_eq_true rfl) (Nat.le_of_ble_eq_true rfl) hP9 hD9 hS d_K_addFriend_58 ?_
        exact ⟨(uZ g t step), rfl, (uZ_rng rg hst), (ad_end hs hm hI hk).1, (ad_end hs hm hI hk).2⟩
      · skip
        refine lv_aload_n hx hb d_K_addFriend_9 rfl (lv_at hl 0 rfl) ?_
        refine va_get (D := G) (ci := 1) (v := .ref (q 5)) (C := R_K) (T := T_K) (N := 4) hx hb hg iw_K hown hE.1 hP 0 rfl rfl 1 (by decide) (hg _ fl_K_15) (fun _ h9 => h9) rfl d_K_addFriend_10 ?_
        refine lv_iload_n hx hb d_K_addFriend_13 rfl (lv_at hl 2 rfl) ?_
        refine lv_iconst (v := iI 1) hx hb d_K_addFriend_14 rfl ?_
        refine rv_isub hx hb d_K_addFriend_15 ?_
        refine rv_iald hx hb hE hP 1 rfl (i := t - 1) (by omega) (by omega) (by decide) d_K_addFriend_16 ?_
        refine lv_iload_n hx hb d_K_addFriend_17 rfl (lv_at hl 1 rfl) ?_
        refine rv_icmp_le (tgt := 41) hx hb d_K_addFriend_18 (by decide) (by (try have := rg (t - 1)); constructor <;> omega) (by constructor <;> omega) (fun c_2 => ?_) (fun c_2 => ?_)
        · skip
          have hk : t = 0 ∨ g (t - 1) ≤ step := Or.inr c_2
          refine lv_aload_n hx hb d_K_addFriend_41 rfl (lv_at hl 0 rfl) ?_
          refine va_get (D := G) (ci := 1) (v := .ref (q 5)) (C := R_K) (T := T_K) (N := 4) hx hb hg iw_K hown hE.1 hP 0 rfl rfl 1 (by decide) (hg _ fl_K_15) (fun _ h9 => h9) rfl d_K_addFriend_42 ?_
          refine lv_iload_n hx hb d_K_addFriend_45 rfl (lv_at hl 2 rfl) ?_
          refine lv_iload_n hx hb d_K_addFriend_46 rfl (lv_at hl 1 rfl) ?_
          refine rv_iast hx hb hE hP hD hS 1 rfl (i := t) (x := step) (by omega) (by omega) (by decide) d_K_addFriend_47 (fun H locs hP hD hS => ?_)
          have hP : va_P G cls0 [(q 1, .inr (1, [.ref (q 4), .ref (q 5), .int (iI pn), .int (iI fn)])), (q 5, .inl (z.1, 16, .inl (aI (uZ g t step))))] H := hP
          have hD : va_D A [(q 1, .inr (1, [.ref (q 4), .ref (q 5), .int (iI pn), .int (iI fn)])), (q 5, .inl (z.1, 16, .inl (aI (uZ g t step))))] := hD
          refine lv_aload_n hx hb d_K_addFriend_48 rfl (lv_at hl 0 rfl) ?_
          refine lv_dup hx hb d_K_addFriend_49 rfl ?_
          refine va_get (D := G) (ci := 1) (v := .int (iI fn)) (C := R_K) (T := T_K) (N := 4) hx hb hg iw_K hown hE.1 hP 0 rfl rfl 3 (by decide) (hg _ fl_K_30) (fun _ h9 => h9) rfl d_K_addFriend_50 ?_
          refine lv_iconst (v := iI 1) hx hb d_K_addFriend_53 rfl ?_
          refine rv_iadd hx hb d_K_addFriend_54 ?_
          refine va_put (D := G) (ci := 1) (v := .int (iI (fn + 1))) (ty := .int) (C := R_K) (T := T_K) (N := 4) hx hb hg iw_K ty_K ty_K_ok nm_K hown hE.1 hP hD hS 0 rfl rfl 3 (by decide) (hg _ fl_K_30) (fun _ h9 => h9) rfl (by decide +kernel) rfl rfl (Nat.le_of_ble_eq_true rfl) d_K_addFriend_55 (fun H locs hP hD hS => ?_)
          have hP : va_P G cls0 [(q 1, .inr (1, [.ref (q 4), .ref (q 5), .int (iI pn), .int (iI (fn + 1))])), (q 5, .inl (z.1, 16, .inl (aI (uZ g t step))))] H := hP
          have hD : va_D A [(q 1, .inr (1, [.ref (q 4), .ref (q 5), .int (iI pn), .int (iI (fn + 1))])), (q 5, .inl (z.1, 16, .inl (aI (uZ g t step))))] := hD
          have hP9 : va_P G cls0 [(q 1, .inr (1, [.ref (q 4), .ref (q 5), .int (iI pn), .int (iI (fn + 1))])), (q 5, .inl (z.1, 16, .inl (aI (uZ g t step))))] H := hP.sub [0, 1] rfl
          have hD9 : va_D A [(q 1, .inr (1, [.ref (q 4), .ref (q 5), .int (iI pn), .int (iI (fn + 1))])), (q 5, .inl (z.1, 16, .inl (aI (uZ g t step))))] := hD.sub [0, 1] (by decide) rfl
          refine rv_vret hx hb hRt hlocks (Nat.le_of_ble_eq_true rfl) (Nat.le_of_ble_eq_true rfl) hP9 hD9 hS d_K_addFriend_58 ?_
          exact ⟨(uZ g t step), rfl, (uZ_rng rg hst), (ad_end hs hm hI hk).1, (ad_end hs hm hI hk).2⟩
        · skip
          have hk : step < g (t - 1) := by omega
          refine lv_aload_n hx hb d_K_addFriend_21 rfl (lv_at hl 0 rfl) ?_
          refine va_get (D := G) (ci := 1) (v := .ref (q 5)) (C := R_K) (T := T_K) (N := 4) hx hb hg iw_K hown hE.1 hP 0 rfl rfl 1 (by decide) (hg _ fl_K_15) (fun _ h9 => h9) rfl d_K_addFriend_22 ?_
          refine lv_iload_n hx hb d_K_addFriend_25 rfl (lv_at hl 2 rfl) ?_
          refine lv_aload_n hx hb d_K_addFriend_26 rfl (lv_at hl 0 rfl) ?_
          refine va_get (D := G) (ci := 1) (v := .ref (q 5)) (C := R_K) (T := T_K) (N := 4) hx hb hg iw_K hown hE.1 hP 0 rfl rfl 1 (by decide) (hg _ fl_K_15) (fun _ h9 => h9) rfl d_K_addFriend_27 ?_
          refine lv_iload_n hx hb d_K_addFriend_30 rfl (lv_at hl 2 rfl) ?_
          refine lv_iconst (v := iI 1) hx hb d_K_addFriend_31 rfl ?_
          refine rv_isub hx hb d_K_addFriend_32 ?_
          refine rv_iald hx hb hE hP 1 rfl (i := t - 1) (by omega) (by omega) (by decide) d_K_addFriend_33 ?_
          refine rv_iast hx hb hE hP hD hS 1 rfl (i := t) (x := g (t - 1)) (by omega) (by omega) (by decide) d_K_addFriend_34 (fun H locs hP hD hS => ?_)
          have hP : va_P G cls0 [(q 1, .inr (1, [.ref (q 4), .ref (q 5), .int (iI pn), .int (iI fn)])), (q 5, .inl (z.1, 16, .inl (aI (uZ g t (g (t - 1))))))] H := hP
          have hD : va_D A [(q 1, .inr (1, [.ref (q 4), .ref (q 5), .int (iI pn), .int (iI fn)])), (q 5, .inl (z.1, 16, .inl (aI (uZ g t (g (t - 1))))))] := hD
          refine lv_iinc (v := iI (t + (-1))) (lv' := [(2, .int (iI (t + (-1)))), (0, .ref (q 1)), (1, .int (iI step))]) hx hb d_K_addFriend_35 hl (k := 2) rfl (iI_add _ _) (by decide) rfl (fun ls hl => ?_)
          refine lv_goto (tgt := 5) hx hb d_K_addFriend_38 (by decide) ?_
          exact ih5 (uZ g t (g (t - 1))) (t + (-1)) (by omega) (uZ_rng rg (rg _)) (ad_step hI (by omega) hk) (by omega) H _ (hP.sub [0, 1] rfl) (hD.sub [0, 1] (by decide) rfl) hS ls (lv_sub hl [1, 2, 0] rfl)
  exact L5 ((fn : Int).toNat + 1) ffr fn (Nat.lt_succ_self _) rfr (ad_0 hfn.1) (by omega) H _ (hP.sub [0, 1] rfl) (hD.sub [0, 1] (by decide) rfl) hS ls (lv_sub hl [1, 2, 0] rfl)
set_option maxHeartbeats 4000000 in
set_option maxRecDepth 100000 in
theorem k_K_removeFriendsFrom (l : Launch) (G : va_G) (z : tz3) (q : Nat → Nat) (ffr : Int → Int) (pn : Int) (fn : Int) (lo : Int) (hi : Int) (rfr : ∀ i : Int, 0 ≤ ffr i ∧ ffr i ≤ 4095) (hfn : 0 ≤ fn ∧ fn ≤ 16) (hs : srt ffr fn) (hlo : inR lo) (hhi : inR hi) : Kv l y_K_removeFriendsFrom c_K_removeFriendsFrom 6 (rmD 0) G z [.ref (q 1), .int (iI lo), .int (iI hi)] [(q 1, .inr (1, [.ref (q 4), .ref (q 5), .int (iI pn), .int (iI fn)])), (q 5, .inl (z.1, 16, .inl (aI ffr)))] (fun u9 => ∃ (g : Int → Int) (fn2 : Int), u9 = [(q 1, .inr (1, [.ref (q 4), .ref (q 5), .int (iI pn), .int (iI fn2)])), (q 5, .inl (z.1, 16, .inl (aI g)))] ∧ (∀ i : Int, 0 ≤ g i ∧ g i ≤ 4095) ∧ (srt g fn2) ∧ (∀ s : Int, memF g fn2 s ↔ (memF ffr fn s ∧ (s < lo ∨ hi < s))) ∧ (0 ≤ fn2 ∧ fn2 ≤ fn)) := by
  refine Kv.of (by decide) (Nat.le_of_ble_eq_true rfl) ?_
  intro p e s m below meth c A hB hP hD ls hl
  obtain ⟨hx, hb, hRt, hml, hown, hlocks, hg, hE, hA, hin⟩ := hB
  have hown : s.vm.findClass R_K = some m.cls := hown
  have hl : lv_has ls 6 [(0, .ref (q 1)), (1, .int (iI lo)), (2, .int (iI hi))] := hl
  obtain ⟨H, hH⟩ : ∃ H, H = s.heap := ⟨_, rfl⟩
  have hS : va_S A s.heap H [] := by rw [hH]; exact va_S.rf
  rw [← hH] at hP
  rw [← hH]
  have hP : va_P G cls0 [(q 1, .inr (1, [.ref (q 4), .ref (q 5), .int (iI pn), .int (iI fn)])), (q 5, .inl (z.1, 16, .inl (aI ffr)))] H := hP
  have hD : va_D A [(q 1, .inr (1, [.ref (q 4), .ref (q 5), .int (iI pn), .int (iI fn)])), (q 5, .inl (z.1, 16, .inl (aI ffr)))] := hD
  refine lv_iconst (v := iI 0) hx hb d_K_removeFriendsFrom_0 rfl ?_
  refine lv_istore_n (lv' := [(3, .int (iI 0)), (0, .ref (q 1)), (1, .int (iI lo)), (2, .int (iI hi))]) hx hb d_K_removeFriendsFrom_1 rfl hl (by decide) rfl (fun ls hl => ?_)
  refine lv_iconst (v := iI 0) hx hb d_K_removeFriendsFrom_2 rfl ?_
  refine lv_istore (lv' := [(4, .int (iI 0)), (3, .int (iI 0)), (0, .ref (q 1)), (1, .int (iI lo)), (2, .int (iI hi))]) hx hb d_K_removeFriendsFrom_3 hl (by decide) rfl (fun ls hl => ?_)
  have L5 : ∀ n9 : Nat, ∀ (g : Int → Int) (kept : Int) (i : Int), (fn - i : Int).toNat < n9 → (∀ i : Int, 0 ≤ g i ∧ g i ≤ 4095) → (rmI ffr g lo hi i kept) → (0 ≤ i ∧ i ≤ fn ∧ 0 ≤ kept ∧ kept ≤ i) → ∀ (H : Heap) (locs : List Loc), va_P G cls0 [(q 1, .inr (1, [.ref (q 4), .ref (q 5), .int (iI pn), .int (iI fn)])), (q 5, .inl (z.1, 16, .inl (aI g)))] H → va_D A [(q 1, .inr (1, [.ref (q 4), .ref (q 5), .int (iI pn), .int (iI fn)])), (q 5, .inl (z.1, 16, .inl (aI g)))] → va_S A s.heap H locs → ∀ ls : Array Slot, lv_has ls 6 [(0, .ref (q 1)), (1, .int (iI lo)), (2, .int (iI hi)), (3, .int (iI kept)), (4, .int (iI i))] → W p l e (rmD 0) s m [.ref (q 1), .int (iI lo), .int (iI hi)].toArray below meth c H locs 0 0 (Zv below [.ref (q 1), .int (iI lo), .int (iI hi)].toArray s (rmD 0) G A (fun u9 => ∃ (g : Int → Int) (fn2 : Int), u9 = [(q 1, .inr (1, [.ref (q 4), .ref (q 5), .int (iI pn), .int (iI fn2)])), (q 5, .inl (z.1, 16, .inl (aI g)))] ∧ (∀ i : Int, 0 ≤ g i ∧ g i ≤ 4095) ∧ (srt g fn2) ∧ (∀ s : Int, memF g fn2 s ↔ (memF ffr fn s ∧ (s < lo ∨ hi < s))) ∧ (0 ≤ fn2 ∧ fn2 ≤ fn))) (F0 m 5 ls []) := by
    intro n9
    induction n9 with
    | zero => intro g kept i hmu; exact absurd hmu (Nat.not_lt_zero _)
    | succ n9 ih5 =>
      intro g kept i hmu rg hI h1 H locs hP hD hS ls hl
      refine lv_iload hx hb d_K_removeFriendsFrom_5 (lv_at hl 4 rfl) ?_
      refine lv_aload_n hx hb d_K_removeFriendsFrom_7 rfl (lv_at hl 0 rfl) ?_
      refine va_get (D := G) (ci := 1) (v := .int (iI fn)) (C := R_K) (T := T_K) (N := 4) hx hb hg iw_K hown hE.1 hP 0 rfl rfl 3 (by decide) (hg _ fl_K_30) (fun _ h9 => h9) rfl d_K_removeFriendsFrom_8 ?_
      refine rv_icmp_ge (tgt := 52) hx hb d_K_removeFriendsFrom_11 (by decide) (by constructor <;> omega) (by constructor <;> omega) (fun c_1 => ?_) (fun c_1 => ?_)
      · skip
        refine lv_aload_n hx hb d_K_removeFriendsFrom_52 rfl (lv_at hl 0 rfl) ?_
        refine lv_iload_n hx hb d_K_removeFriendsFrom_53 rfl (lv_at hl 3 rfl) ?_
        refine va_put (D := G) (ci := 1) (v := .int (iI kept)) (ty := .int) (C := R_K) (T := T_K) (N := 4) hx hb hg iw_K ty_K ty_K_ok nm_K hown hE.1 hP hD hS 0 rfl rfl 3 (by decide) (hg _ fl_K_30) (fun _ h9 => h9) rfl (by decide +kernel) rfl rfl (Nat.le_of_ble_eq_true rfl) d_K_removeFriendsFrom_54 (fun H locs hP hD hS => ?_)
        have hP : va_P G cls0 [(q 1, .inr (1, [.ref (q 4), .ref (q 5), .int (iI pn), .int (iI kept)])), (q 5, .inl (z.1, 16, .inl (aI g)))] H := hP
        have hD : va_D A [(q 1, .inr (1, [.ref (q 4), .ref (q 5), .int (iI pn), .int (iI kept)])), (q 5, .inl (z.1, 16, .inl (aI g)))] := hD
        have hP9 : va_P G cls0 [(q 1, .inr (1, [.ref (q 4), .ref (q 5), .int (iI pn), .int (iI kept)])), (q 5, .inl (z.1, 16, .inl (aI g)))] H := hP.sub [0, 1] rfl
        have hD9 : va_D A [(q 1, .inr (1, [.ref (q 4), .ref (q 5), .int (iI pn), .int (iI kept)])), (q 5, .inl (z.1, 16, .inl (aI g)))] := hD.sub [0, 1] (by decide) rfl
        refine rv_vret hx hb hRt hlocks (Nat.le_of_ble_eq_true rfl) (Nat.le_of_ble_eq_true rfl) hP9 hD9 hS d_K_removeFriendsFrom_57 ?_
        exact ⟨g, kept, rfl, rg, hI.2.2.2.1, (by rw [show fn = i by omega]; exact hI.2.2.2.2), (by omega)⟩
      · skip
        refine lv_aload_n hx hb d_K_removeFriendsFrom_14 rfl (lv_at hl 0 rfl) ?_
        refine va_get (D := G) (ci := 1) (v := .ref (q 5)) (C := R_K) (T := T_K) (N := 4) hx hb hg iw_K hown hE.1 hP 0 rfl rfl 1 (by decide) (hg _ fl_K_15) (fun _ h9 => h9) rfl d_K_removeFriendsFrom_15 ?_
        refine lv_iload hx hb d_K_removeFriendsFrom_18 (lv_at hl 4 rfl) ?_
        refine rv_iald hx hb hE hP 1 rfl (i := i) (by omega) (by omega) (by decide) d_K_removeFriendsFrom_20 ?_
        refine lv_istore (lv' := [(5, .int (iI (g i))), (0, .ref (q 1)), (1, .int (iI lo)), (2, .int (iI hi)), (3, .int (iI kept)), (4, .int (iI i))]) hx hb d_K_removeFriendsFrom_21 hl (by decide) rfl (fun ls hl => ?_)
        refine lv_iload hx hb d_K_removeFriendsFrom_23 (lv_at hl 0 rfl) ?_
        refine lv_iload_n hx hb d_K_removeFriendsFrom_25 rfl (lv_at hl 2 rfl) ?_
        refine rv_icmp_lt (tgt := 35) hx hb d_K_removeFriendsFrom_26 (by decide) (by (try have := rg i); constructor <;> omega) (by constructor <;> omega) (fun c_2 => ?_) (fun c_2 => ?_)
        · skip
          have hk : g i < lo ∨ hi < g i := Or.inl c_2
          refine lv_aload_n hx hb d_K_removeFriendsFrom_35 rfl (lv_at hl 1 rfl) ?_
          refine va_get (D := G) (ci := 1) (v := .ref (q 5)) (C := R_K) (T := T_K) (N := 4) hx hb hg iw_K hown hE.1 hP 0 rfl rfl 1 (by decide) (hg _ fl_K_15) (fun _ h9 => h9) rfl d_K_removeFriendsFrom_36 ?_
          refine lv_iload_n hx hb d_K_removeFriendsFrom_39 rfl (lv_at hl 4 rfl) ?_
          refine lv_iload hx hb d_K_removeFriendsFrom_40 (lv_at hl 0 rfl) ?_
          refine rv_iast hx hb hE hP hD hS 1 rfl (i := kept) (x := g i) (by omega) (by omega) (by decide) d_K_removeFriendsFrom_42 (fun H locs hP hD hS => ?_)
          have hP : va_P G cls0 [(q 1, .inr (1, [.ref (q 4), .ref (q 5), .int (iI pn), .int (iI fn)])), (q 5, .inl (z.1, 16, .inl (aI (uZ g kept (g i)))))] H := hP
          have hD : va_D A [(q 1, .inr (1, [.ref (q 4), .ref (q 5), .int (iI pn), .int (iI fn)])), (q 5, .inl (z.1, 16, .inl (aI (uZ g kept (g i)))))] := hD
          refine lv_iinc (v := iI (kept + 1)) (lv' := [(3, .int (iI (kept + 1))), (5, .int (iI (g i))), (0, .ref (q 1)), (1, .int (iI lo)), (2, .int (iI hi)), (4, .int (iI i))]) hx hb d_K_removeFriendsFrom_43 hl (k := 4) rfl (iI_add _ _) (by decide) rfl (fun ls hl => ?_)
          refine lv_iinc (v := iI (i + 1)) (lv' := [(4, .int (iI (i + 1))), (3, .int (iI (kept + 1))), (5, .int (iI (g i))), (0, .ref (q 1)), (1, .int (iI lo)), (2, .int (iI hi))]) hx hb d_K_removeFriendsFrom_46 hl (k := 5) rfl (iI_add _ _) (by decide) rfl (fun ls hl => ?_)
          refine lv_goto (tgt := 5) hx hb d_K_removeFriendsFrom_49 (by decide) ?_
          exact ih5 _ _ (i + 1) (by omega) (by first | exact uZ_rng rg (rg _) | exact rg) (by first | exact rm_keep hs h1.1 (by omega) hI hk | exact rm_drop h1.1 hI hk) (by omega) H _ (hP.sub [0, 1] rfl) (hD.sub [0, 1] (by decide) rfl) hS ls (lv_sub hl [3, 4, 5, 1, 0] rfl)
        · skip
          refine lv_iload hx hb d_K_removeFriendsFrom_29 (lv_at hl 0 rfl) ?_
          refine lv_iload_n hx hb d_K_removeFriendsFrom_31 rfl (lv_at hl 3 rfl) ?_
          refine rv_icmp_le (tgt := 46) hx hb d_K_removeFriendsFrom_32 (by decide) (by (try have := rg i); constructor <;> omega) (by constructor <;> omega) (fun c_3 => ?_) (fun c_3 => ?_)
          · skip
            have hk : ¬ (g i < lo ∨ hi < g i) := by omega
            refine lv_iinc (v := iI (i + 1)) (lv' := [(4, .int (iI (i + 1))), (5, .int (iI (g i))), (0, .ref (q 1)), (1, .int (iI lo)), (2, .int (iI hi)), (3, .int (iI kept))]) hx hb d_K_removeFriendsFrom_46 hl (k := 5) rfl (iI_add _ _) (by decide) rfl (fun ls hl => ?_)
            refine lv_goto (tgt := 5) hx hb d_K_removeFriendsFrom_49 (by decide) ?_
            exact ih5 _ _ (i + 1) (by omega) (by first | exact uZ_rng rg (rg _) | exact rg) (by first | exact rm_keep hs h1.1 (by omega) hI hk | exact rm_drop h1.1 hI hk) (by omega) H _ (hP.sub [0, 1] rfl) (hD.sub [0, 1] (by decide) rfl) hS ls (lv_sub hl [2, 3, 4, 5, 0] rfl)
          · skip
            have hk : g i < lo ∨ hi < g i := Or.inr (by omega)
            refine lv_aload_n hx hb d_K_removeFriendsFrom_35 rfl (lv_at hl 1 rfl) ?_
            refine va_get (D := G) (ci := 1) (v := .ref (q 5)) (C := R_K) (T := T_K) (N := 4) hx hb hg iw_K hown hE.1 hP 0 rfl rfl 1 (by decide) (hg _ fl_K_15) (fun _ h9 => h9) rfl d_K_removeFriendsFrom_36 ?_
            refine lv_iload_n hx hb d_K_removeFriendsFrom_39 rfl (lv_at hl 4 rfl) ?_
            refine lv_iload hx hb d_K_removeFriendsFrom_40 (lv_at hl 0 rfl) ?_
            refine rv_iast hx hb hE hP hD hS 1 rfl (i := kept) (x := g i) (by omega) (by omega) (by decide) d_K_removeFriendsFrom_42 (fun H locs hP hD hS => ?_)
            have hP : va_P G cls0 [(q 1, .inr (1, [.ref (q 4), .ref (q 5), .int (iI pn), .int (iI fn)])), (q 5, .inl (z.1, 16, .inl (aI (uZ g kept (g i)))))] H := hP
            have hD : va_D A [(q 1, .inr (1, [.ref (q 4), .ref (q 5), .int (iI pn), .int (iI fn)])), (q 5, .inl (z.1, 16, .inl (aI (uZ g kept (g i)))))] := hD
            refine lv_iinc (v := iI (kept + 1)) (lv' := [(3, .int (iI (kept + 1))), (5, .int (iI (g i))), (0, .ref (q 1)), (1, .int (iI lo)), (2, .int (iI hi)), (4, .int (iI i))]) hx hb d_K_removeFriendsFrom_43 hl (k := 4) rfl (iI_add _ _) (by decide) rfl (fun ls hl => ?_)
            refine lv_iinc (v := iI (i + 1)) (lv' := [(4, .int (iI (i + 1))), (3, .int (iI (kept + 1))), (5, .int (iI (g i))), (0, .ref (q 1)), (1, .int (iI lo)), (2, .int (iI hi))]) hx hb d_K_removeFriendsFrom_46 hl (k := 5) rfl (iI_add _ _) (by decide) rfl (fun ls hl => ?_)
            refine lv_goto (tgt := 5) hx hb d_K_removeFriendsFrom_49 (by decide) ?_
            exact ih5 _ _ (i + 1) (by omega) (by first | exact uZ_rng rg (rg _) | exact rg) (by first | exact rm_keep hs h1.1 (by omega) hI hk | exact rm_drop h1.1 hI hk) (by omega) H _ (hP.sub [0, 1] rfl) (hD.sub [0, 1] (by decide) rfl) hS ls (lv_sub hl [3, 4, 5, 1, 0] rfl)
  exact L5 ((fn - 0 : Int).toNat + 1) ffr 0 0 (Nat.lt_succ_self _) rfr rm_0 (by omega) H _ (hP.sub [0, 1] rfl) (hD.sub [0, 1] (by decide) rfl) hS ls (lv_sub hl [2, 3, 4, 1, 0] rfl)
set_option maxHeartbeats 4000000 in
set_option maxRecDepth 100000 in
theorem k_K_removeFriend (l : Launch) (G : va_G) (z : tz3) (q : Nat → Nat) (ffr : Int → Int) (pn : Int) (fn : Int) (step : Int) (rfr : ∀ i : Int, 0 ≤ ffr i ∧ ffr i ≤ 4095) (hfn : 0 ≤ fn ∧ fn ≤ 16) (hs : srt ffr fn) (hst : inR step) : Kv l y_K_removeFriend c_K_removeFriend 2 (rmD 1) G z [.ref (q 1), .int (iI step)] [(q 1, .inr (1, [.ref (q 4), .ref (q 5), .int (iI pn), .int (iI fn)])), (q 5, .inl (z.1, 16, .inl (aI ffr)))] (fun u9 => ∃ (g : Int → Int) (fn2 : Int), u9 = [(q 1, .inr (1, [.ref (q 4), .ref (q 5), .int (iI pn), .int (iI fn2)])), (q 5, .inl (z.1, 16, .inl (aI g)))] ∧ (∀ i : Int, 0 ≤ g i ∧ g i ≤ 4095) ∧ (srt g fn2) ∧ (∀ s : Int, memF g fn2 s ↔ (memF ffr fn s ∧ (s < step ∨ step < s))) ∧ (0 ≤ fn2 ∧ fn2 ≤ fn)) := by
  refine Kv.of (by decide) (Nat.le_of_ble_eq_true rfl) ?_
  intro p e s m below meth c A hB hP hD ls hl
  obtain ⟨hx, hb, hRt, hml, hown, hlocks, hg, hE, hA, hin⟩ := hB
  have hown : s.vm.findClass R_K = some m.cls := hown
  have hl : lv_has ls 2 [(0, .ref (q 1)), (1, .int (iI step))] := hl
  obtain ⟨H, hH⟩ : ∃ H, H = s.heap := ⟨_, rfl⟩
  have hS : va_S A s.heap H [] := by rw [hH]; exact va_S.rf
  rw [← hH] at hP
  rw [← hH]
  have hP : va_P G cls0 [(q 1, .inr (1, [.ref (q 4), .ref (q 5), .int (iI pn), .int (iI fn)])), (q 5, .inl (z.1, 16, .inl (aI ffr)))] H := hP
  have hD : va_D A [(q 1, .inr (1, [.ref (q 4), .ref (q 5), .int (iI pn), .int (iI fn)])), (q 5, .inl (z.1, 16, .inl (aI ffr)))] := hD
  refine lv_aload_n hx hb d_K_removeFriend_0 rfl (lv_at hl 0 rfl) ?_
  refine lv_iload_n hx hb d_K_removeFriend_1 rfl (lv_at hl 1 rfl) ?_
  refine lv_iload_n hx hb d_K_removeFriend_2 rfl (lv_at hl 1 rfl) ?_
  refine qV_v (As := [.int (iI step), .int (iI step)]) (rest := []) (wr := []) hx hb hml hown hg hE hA hS hP hD (k_K_removeFriendsFrom l G z q ffr pn fn step step (by assumption) (by omega) hs (by omega) (by omega)) [0, 1] [] rfl rfl (by decide) (by decide) (by decide) (q0 := 0) rfl rfl ml_K_33 im_K_removeFriendsFrom se_K_removeFriendsFrom in_K co_K_removeFriendsFrom ok_K_removeFriendsFrom ⟨Nat.le_of_ble_eq_true rfl, Nat.le_of_ble_eq_true rfl⟩ hl.1 rfl (Nat.le_of_ble_eq_true rfl) d_K_removeFriend_3 ⟨Nat.le_of_ble_eq_true rfl, Nat.le_of_ble_eq_true rfl⟩ (fun u9 H locs hw hP hD hS => ?_)
  obtain ⟨g, fn2, rfl, f1, f2, f3, f4⟩ := hw
  have hP : va_P G cls0 [(q 1, .inr (1, [.ref (q 4), .ref (q 5), .int (iI pn), .int (iI fn2)])), (q 5, .inl (z.1, 16, .inl (aI g)))] H := hP
  have hD : va_D A [(q 1, .inr (1, [.ref (q 4), .ref (q 5), .int (iI pn), .int (iI fn2)])), (q 5, .inl (z.1, 16, .inl (aI g)))] := hD
  have hP9 : va_P G cls0 [(q 1, .inr (1, [.ref (q 4), .ref (q 5), .int (iI pn), .int (iI fn2)])), (q 5, .inl (z.1, 16, .inl (aI g)))] H := hP.sub [0, 1] rfl
  have hD9 : va_D A [(q 1, .inr (1, [.ref (q 4), .ref (q 5), .int (iI pn), .int (iI fn2)])), (q 5, .inl (z.1, 16, .inl (aI g)))] := hD.sub [0, 1] (by decide) rfl
  refine rv_vret hx hb hRt hlocks (Nat.le_of_ble_eq_true rfl) (Nat.le_of_ble_eq_true rfl) hP9 hD9 hS d_K_removeFriend_6 ?_
  exact ⟨g, fn2, rfl, f1, f2, f3, f4⟩
set_option maxHeartbeats 4000000 in
set_option maxRecDepth 100000 in
theorem k_K_removeFriendsOn (l : Launch) (G : va_G) (z : tz3) (q : Nat → Nat) (ffr : Int → Int) (pn : Int) (fn : Int) (net : Int) (rfr : ∀ i : Int, 0 ≤ ffr i ∧ ffr i ≤ 4095) (hfn : 0 ≤ fn ∧ fn ≤ 16) (hs : srt ffr fn) (hnet : 0 ≤ net ∧ net < 64) : Kv l y_K_removeFriendsOn c_K_removeFriendsOn 2 (rmD 1) G z [.ref (q 1), .int (iI net)] [(q 1, .inr (1, [.ref (q 4), .ref (q 5), .int (iI pn), .int (iI fn)])), (q 5, .inl (z.1, 16, .inl (aI ffr)))] (fun u9 => ∃ (g : Int → Int) (fn2 : Int), u9 = [(q 1, .inr (1, [.ref (q 4), .ref (q 5), .int (iI pn), .int (iI fn2)])), (q 5, .inl (z.1, 16, .inl (aI g)))] ∧ (∀ i : Int, 0 ≤ g i ∧ g i ≤ 4095) ∧ (srt g fn2) ∧ (∀ s : Int, memF g fn2 s ↔ (memF ffr fn s ∧ (s < 64 * net ∨ 64 * net + 63 < s))) ∧ (0 ≤ fn2 ∧ fn2 ≤ fn)) := by
  refine Kv.of (by decide) (Nat.le_of_ble_eq_true rfl) ?_
  intro p e s m below meth c A hB hP hD ls hl
  obtain ⟨hx, hb, hRt, hml, hown, hlocks, hg, hE, hA, hin⟩ := hB
  have hown : s.vm.findClass R_K = some m.cls := hown
  have hl : lv_has ls 2 [(0, .ref (q 1)), (1, .int (iI net))] := hl
  obtain ⟨H, hH⟩ : ∃ H, H = s.heap := ⟨_, rfl⟩
  have hS : va_S A s.heap H [] := by rw [hH]; exact va_S.rf
  rw [← hH] at hP
  rw [← hH]
  have hP : va_P G cls0 [(q 1, .inr (1, [.ref (q 4), .ref (q 5), .int (iI pn), .int (iI fn)])), (q 5, .inl (z.1, 16, .inl (aI ffr)))] H := hP
  have hD : va_D A [(q 1, .inr (1, [.ref (q 4), .ref (q 5), .int (iI pn), .int (iI fn)])), (q 5, .inl (z.1, 16, .inl (aI ffr)))] := hD
  refine lv_aload_n hx hb d_K_removeFriendsOn_0 rfl (lv_at hl 0 rfl) ?_
  refine lv_iload_n hx hb d_K_removeFriendsOn_1 rfl (lv_at hl 1 rfl) ?_
  refine lv_iconst (v := iI 0) hx hb d_K_removeFriendsOn_2 rfl ?_
  refine qN_i (As := [.int (iI net), .int (iI 0)]) (rest := [.ref (q 1)]) (wr := [(q 1, .inr (1, [.ref (q 4), .ref (q 5), .int (iI pn), .int (iI fn)])), (q 5, .inl (z.1, 16, .inl (aI ffr)))]) hx hb hml hown hg hE hA hS hP hD (k_B_stepOf l G z net 0) [] [0, 1] rfl rfl (by decide) (by decide) (by decide) nl_K_37 st_B_stepOf in_B co_B_stepOf ok_B_stepOf ⟨Nat.le_of_ble_eq_true rfl, Nat.le_of_ble_eq_true rfl⟩ hl.1 rfl (Nat.le_of_ble_eq_true rfl) d_K_removeFriendsOn_3 ⟨Nat.le_of_ble_eq_true rfl, Nat.le_of_ble_eq_true rfl⟩ (fun r9 u9 H locs hw hP hD hS => ?_)
  obtain ⟨rfl, rfl⟩ := hw
  have hP : va_P G cls0 [(q 1, .inr (1, [.ref (q 4), .ref (q 5), .int (iI pn), .int (iI fn)])), (q 5, .inl (z.1, 16, .inl (aI ffr)))] H := hP
  have hD : va_D A [(q 1, .inr (1, [.ref (q 4), .ref (q 5), .int (iI pn), .int (iI fn)])), (q 5, .inl (z.1, 16, .inl (aI ffr)))] := hD
  refine lv_iload_n hx hb d_K_removeFriendsOn_6 rfl (lv_at hl 1 rfl) ?_
  refine lv_bipush (v := iI 63) hx hb d_K_removeFriendsOn_7 (by decide +kernel) ?_
  refine qN_i (As := [.int (iI net), .int (iI 63)]) (rest := [.int (iI (64 * net + 0)), .ref (q 1)]) (wr := [(q 1, .inr (1, [.ref (q 4), .ref (q 5), .int (iI pn), .int (iI fn)])), (q 5, .inl (z.1, 16, .inl (aI ffr)))]) hx hb hml hown hg hE hA hS hP hD (k_B_stepOf l G z net 63) [] [0, 1] rfl rfl (by decide) (by decide) (by decide) nl_K_37 st_B_stepOf in_B co_B_stepOf ok_B_stepOf ⟨Nat.le_of_ble_eq_true rfl, Nat.le_of_ble_eq_true rfl⟩ hl.1 rfl (Nat.le_of_ble_eq_true rfl) d_K_removeFriendsOn_9 ⟨Nat.le_of_ble_eq_true rfl, Nat.le_of_ble_eq_true rfl⟩ (fun r9 u9 H locs hw hP hD hS => ?_)
  obtain ⟨rfl, rfl⟩ := hw
  have hP : va_P G cls0 [(q 1, .inr (1, [.ref (q 4), .ref (q 5), .int (iI pn), .int (iI fn)])), (q 5, .inl (z.1, 16, .inl (aI ffr)))] H := hP
  have hD : va_D A [(q 1, .inr (1, [.ref (q 4), .ref (q 5), .int (iI pn), .int (iI fn)])), (q 5, .inl (z.1, 16, .inl (aI ffr)))] := hD
  refine qV_v (As := [.int (iI (64 * net + 0)), .int (iI (64 * net + 63))]) (rest := []) (wr := []) hx hb hml hown hg hE hA hS hP hD (k_K_removeFriendsFrom l G z q ffr pn fn (64 * net + 0) (64 * net + 63) (by assumption) (by omega) hs (by omega) (by omega)) [0, 1] [] rfl rfl (by decide) (by decide) (by decide) (q0 := 0) rfl rfl ml_K_33 im_K_removeFriendsFrom se_K_removeFriendsFrom in_K co_K_removeFriendsFrom ok_K_removeFriendsFrom ⟨Nat.le_of_ble_eq_true rfl, Nat.le_of_ble_eq_true rfl⟩ hl.1 rfl (Nat.le_of_ble_eq_true rfl) d_K_removeFriendsOn_12 ⟨Nat.le_of_ble_eq_true rfl, Nat.le_of_ble_eq_true rfl⟩ (fun u9 H locs hw hP hD hS => ?_)
  obtain ⟨g, fn2, rfl, f1, f2, f3, f4⟩ := hw
  have hP : va_P G cls0 [(q 1, .inr (1, [.ref (q 4), .ref (q 5), .int (iI pn), .int (iI fn2)])), (q 5, .inl (z.1, 16, .inl (aI g)))] H := hP
  have hD : va_D A [(q 1, .inr (1, [.ref (q 4), .ref (q 5), .int (iI pn), .int (iI fn2)])), (q 5, .inl (z.1, 16, .inl (aI g)))] := hD
  have hP9 : va_P G cls0 [(q 1, .inr (1, [.ref (q 4), .ref (q 5), .int (iI pn), .int (iI fn2)])), (q 5, .inl (z.1, 16, .inl (aI g)))] H := hP.sub [0, 1] rfl
  have hD9 : va_D A [(q 1, .inr (1, [.ref (q 4), .ref (q 5), .int (iI pn), .int (iI fn2)])), (q 5, .inl (z.1, 16, .inl (aI g)))] := hD.sub [0, 1] (by decide) rfl
  refine rv_vret hx hb hRt hlocks (Nat.le_of_ble_eq_true rfl) (Nat.le_of_ble_eq_true rfl) hP9 hD9 hS d_K_removeFriendsOn_15 ?_
  exact ⟨g, fn2, rfl, f1, f2, (fun s => by rw [f3 s]; constructor <;> (rintro ⟨a, b⟩; exact ⟨a, by omega⟩)), f4⟩
