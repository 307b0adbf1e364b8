set_option maxHeartbeats 4000000 in
set_option maxRecDepth 100000 in
theorem k_M_thrown (l : Launch) (G : va_G) (z : tz3) (w : Nat → Nat) (it : Int) (cd : Int) (now : Int) (gr : Int) (md : Int) (dO : Int)  : Ki l y_M_thrown c_M_thrown 1 (some .int) (rmD 0) G z [.ref (w 0)] [(w 0, .inr (4, [.int (iI it), .int (iI cd), .int (iI now), .ref (w 1), .ref (w 2), .int (iI gr), .int (iI md), .ref (w 3), .ref (w 4), .ref (w 5), .ref (w 6), .ref (w 7), .ref (w 8), .int (iI dO), .ref (w 9), .ref (w 10)]))] (fun r9 u9 => u9 = [(w 0, .inr (4, [.int (iI it), .int (iI cd), .int (iI now), .ref (w 1), .ref (w 2), .int (iI gr), .int (iI md), .ref (w 3), .ref (w 4), .ref (w 5), .ref (w 6), .ref (w 7), .ref (w 8), .int (iI dO), .ref (w 9), .ref (w 10)]))] ∧ r9 = iI cd) := by
  refine Ki.of (by decide) (Nat.le_of_ble_eq_true rfl) ?_
  intro p e s m below meth c A hB hP hD ls hl
  obtain ⟨hx, hb, hRt, hml, hown, hlocks, hg, hE, hA, hin⟩ := hB
  have hown : s.vm.findClass R_M = some m.cls := hown
  have hl : lv_has ls 1 [(0, .ref (w 0))] := hl
  obtain ⟨H, hH⟩ : ∃ H, H = s.heap := ⟨_, rfl⟩
  have hS : va_S A s.heap H [] := by rw [hH]; exact va_S.rf
  rw [← hH] at hP
  rw [← hH]
  have hP : va_P G cls0 [(w 0, .inr (4, [.int (iI it), .int (iI cd), .int (iI now), .ref (w 1), .ref (w 2), .int (iI gr), .int (iI md), .ref (w 3), .ref (w 4), .ref (w 5), .ref (w 6), .ref (w 7), .ref (w 8), .int (iI dO), .ref (w 9), .ref (w 10)]))] H := hP
  have hD : va_D A [(w 0, .inr (4, [.int (iI it), .int (iI cd), .int (iI now), .ref (w 1), .ref (w 2), .int (iI gr), .int (iI md), .ref (w 3), .ref (w 4), .ref (w 5), .ref (w 6), .ref (w 7), .ref (w 8), .int (iI dO), .ref (w 9), .ref (w 10)]))] := hD
  refine lv_aload_n hx hb d_M_thrown_0 rfl (lv_at hl 0 rfl) ?_
  refine va_get (D := G) (ci := 4) (v := .int (iI cd)) (C := R_M) (T := T_M) (N := 16) hx hb hg iw_M hown hE.1 hP 0 rfl rfl 1 (by decide) (hg _ fl_M_48) (fun _ h9 => h9) rfl d_M_thrown_1 ?_
  have hP9 : va_P G cls0 [(w 0, .inr (4, [.int (iI it), .int (iI cd), .int (iI now), .ref (w 1), .ref (w 2), .int (iI gr), .int (iI md), .ref (w 3), .ref (w 4), .ref (w 5), .ref (w 6), .ref (w 7), .ref (w 8), .int (iI dO), .ref (w 9), .ref (w 10)]))] H := hP.sub [0] rfl
  have hD9 : va_D A [(w 0, .inr (4, [.int (iI it), .int (iI cd), .int (iI now), .ref (w 1), .ref (w 2), .int (iI gr), .int (iI md), .ref (w 3), .ref (w 4), .ref (w 5), .ref (w 6), .ref (w 7), .ref (w 8), .int (iI dO), .ref (w 9), .ref (w 10)]))] := hD.sub [0] (by decide) rfl
  refine rv_iret hx hb hRt (nar_int _) hlocks (Nat.le_of_ble_eq_true rfl) (Nat.le_of_ble_eq_true rfl) hP9 hD9 hS d_M_thrown_4 ?_
  exact ⟨rfl, rfl⟩
set_option maxHeartbeats 4000000 in
set_option maxRecDepth 100000 in
theorem k_M_in (l : Launch) (G : va_G) (z : tz3) (a : Int) (lo : Int) (hi : Int) (ha : inR a) (hlo : inR lo) (hhi : inR hi) : Ki l y_M_in c_M_in 3 (some .boolean) (rmD 0) G z [.int (iI a), .int (iI lo), .int (iI hi)] [] (fun r9 u9 => ∃ (rb : Int), u9 = [] ∧ r9 = iI rb ∧ ((rb = 1 ∧ (lo ≤ a ∧ a ≤ hi)) ∨ (rb = 0 ∧ ¬ (lo ≤ a ∧ a ≤ hi)))) := by
  refine Ki.of (by decide) (Nat.le_of_ble_eq_true rfl) ?_
  intro p e s m below meth c A hB hP hD ls hl
  obtain ⟨hx, hb, hRt, hml, hown, hlocks, hg, hE, hA, hin⟩ := hB
  have hown : s.vm.findClass R_M = some m.cls := hown
  have hl : lv_has ls 3 [(0, .int (iI a)), (1, .int (iI lo)), (2, .int (iI hi))] := hl
  obtain ⟨H, hH⟩ : ∃ H, H = s.heap := ⟨_, rfl⟩
  have hS : va_S A s.heap H [] := by rw [hH]; exact va_S.rf
  rw [← hH] at hP
  rw [← hH]
  have hP : va_P G cls0 [] H := hP
  have hD : va_D A [] := hD
  refine lv_iload_n hx hb d_M_in_0 rfl (lv_at hl 0 rfl) ?_
  refine lv_iload_n hx hb d_M_in_1 rfl (lv_at hl 1 rfl) ?_
  refine rv_icmp_lt (tgt := 14) hx hb d_M_in_2 (by decide) (by constructor <;> omega) (by constructor <;> omega) (fun c_1 => ?_) (fun c_1 => ?_)
  · skip
    refine lv_iconst (v := iI 0) hx hb d_M_in_14 rfl ?_
    have hP9 : va_P G cls0 [] H := hP.sub [] rfl
    have hD9 : va_D A [] := hD.sub [] (by decide) rfl
    refine rv_iret hx hb hRt nar_b0 hlocks (Nat.le_of_ble_eq_true rfl) (Nat.le_of_ble_eq_true rfl) hP9 hD9 hS d_M_in_15 ?_
    exact ⟨0, rfl, rfl, (by omega)⟩
  · skip
    refine lv_iload_n hx hb d_M_in_5 rfl (lv_at hl 0 rfl) ?_
    refine lv_iload_n hx hb d_M_in_6 rfl (lv_at hl 2 rfl) ?_
    refine rv_icmp_gt (tgt := 14) hx hb d_M_in_7 (by decide) (by constructor <;> omega) (by constructor <;> omega) (fun c_2 => ?_) (fun c_2 => ?_)
    · skip
      refine lv_iconst (v := iI 0) hx hb d_M_in_14 rfl ?_
      have hP9 : va_P G cls0 [] H := hP.sub [] rfl
      have hD9 : va_D A [] := hD.sub [] (by decide) rfl
      refine rv_iret hx hb hRt nar_b0 hlocks (Nat.le_of_ble_eq_true rfl) (Nat.le_of_ble_eq_true rfl) hP9 hD9 hS d_M_in_15 ?_
      exact ⟨0, rfl, rfl, (by omega)⟩
    · skip
      refine lv_iconst (v := iI 1) hx hb d_M_in_10 rfl ?_
      refine lv_goto (tgt := 15) hx hb d_M_in_11 (by decide) ?_
      have hP9 : va_P G cls0 [] H := hP.sub [] rfl
      have hD9 : va_D A [] := hD.sub [] (by decide) rfl
      refine rv_iret hx hb hRt nar_b1 hlocks (Nat.le_of_ble_eq_true rfl) (Nat.le_of_ble_eq_true rfl) hP9 hD9 hS d_M_in_15 ?_
      exact ⟨1, rfl, rfl, (by omega)⟩
set_option maxHeartbeats 4000000 in
set_option maxRecDepth 100000 in
theorem k_M_portCount (l : Launch) (G : va_G) (z : tz3) (w : Nat → Nat) (it : Int) (cd : Int) (now : Int) (gr : Int) (md : Int) (dO : Int) (ppo : Int → Int) (rpo : ∀ i : Int, 0 ≤ ppo i ∧ ppo i ≤ 1000) : Ki l y_M_portCount c_M_portCount 3 (some .int) (rmD 0) G z [.ref (w 0)] [(w 0, .inr (4, [.int (iI it), .int (iI cd), .int (iI now), .ref (w 1), .ref (w 2), .int (iI gr), .int (iI md), .ref (w 3), .ref (w 4), .ref (w 5), .ref (w 6), .ref (w 7), .ref (w 8), .int (iI dO), .ref (w 9), .ref (w 10)])), (w 1, .inl (z.1, 64, .inl (aI ppo)))] (fun r9 u9 => ∃ (rv : Int), u9 = [(w 0, .inr (4, [.int (iI it), .int (iI cd), .int (iI now), .ref (w 1), .ref (w 2), .int (iI gr), .int (iI md), .ref (w 3), .ref (w 4), .ref (w 5), .ref (w 6), .ref (w 7), .ref (w 8), .int (iI dO), .ref (w 9), .ref (w 10)])), (w 1, .inl (z.1, 64, .inl (aI ppo)))] ∧ r9 = iI rv ∧ (0 ≤ rv ∧ rv ≤ 64) ∧ (rv = cI ppo 64)) := by
  refine Ki.of (by decide) (Nat.le_of_ble_eq_true rfl) ?_
  intro p e s m below meth c A hB hP hD ls hl
  obtain ⟨hx, hb, hRt, hml, hown, hlocks, hg, hE, hA, hin⟩ := hB
  have hown : s.vm.findClass R_M = some m.cls := hown
  have hl : lv_has ls 3 [(0, .ref (w 0))] := hl
  obtain ⟨H, hH⟩ : ∃ H, H = s.heap := ⟨_, rfl⟩
  have hS : va_S A s.heap H [] := by rw [hH]; exact va_S.rf
  rw [← hH] at hP
  rw [← hH]
  have hP : va_P G cls0 [(w 0, .inr (4, [.int (iI it), .int (iI cd), .int (iI now), .ref (w 1), .ref (w 2), .int (iI gr), .int (iI md), .ref (w 3), .ref (w 4), .ref (w 5), .ref (w 6), .ref (w 7), .ref (w 8), .int (iI dO), .ref (w 9), .ref (w 10)])), (w 1, .inl (z.1, 64, .inl (aI ppo)))] H := hP
  have hD : va_D A [(w 0, .inr (4, [.int (iI it), .int (iI cd), .int (iI now), .ref (w 1), .ref (w 2), .int (iI gr), .int (iI md), .ref (w 3), .ref (w 4), .ref (w 5), .ref (w 6), .ref (w 7), .ref (w 8), .int (iI dO), .ref (w 9), .ref (w 10)])), (w 1, .inl (z.1, 64, .inl (aI ppo)))] := hD
  refine lv_iconst (v := iI 0) hx hb d_M_portCount_0 rfl ?_
  refine lv_istore_n (lv' := [(1, .int (iI 0)), (0, .ref (w 0))]) hx hb d_M_portCount_1 rfl hl (by decide) rfl (fun ls hl => ?_)
  refine lv_iconst (v := iI 0) hx hb d_M_portCount_2 rfl ?_
  refine lv_istore_n (lv' := [(2, .int (iI 0)), (1, .int (iI 0)), (0, .ref (w 0))]) hx hb d_M_portCount_3 rfl hl (by decide) rfl (fun ls hl => ?_)
  have L4 : ∀ n9 : Nat, ∀ (n : Int) (i : Int), (64 - i : Int).toNat < n9 → (0 ≤ i ∧ i ≤ 64 ∧ 0 ≤ n ∧ n ≤ i) → (n = cI ppo i) → ∀ (H : Heap) (locs : List Loc), va_P G cls0 [(w 0, .inr (4, [.int (iI it), .int (iI cd), .int (iI now), .ref (w 1), .ref (w 2), .int (iI gr), .int (iI md), .ref (w 3), .ref (w 4), .ref (w 5), .ref (w 6), .ref (w 7), .ref (w 8), .int (iI dO), .ref (w 9), .ref (w 10)])), (w 1, .inl (z.1, 64, .inl (aI ppo)))] H → va_D A [(w 0, .inr (4, [.int (iI it), .int (iI cd), .int (iI now), .ref (w 1), .ref (w 2), .int (iI gr), .int (iI md), .ref (w 3), .ref (w 4), .ref (w 5), .ref (w 6), .ref (w 7), .ref (w 8), .int (iI dO), .ref (w 9), .ref (w 10)])), (w 1, .inl (z.1, 64, .inl (aI ppo)))] → va_S A s.heap H locs → ∀ ls : Array Slot, lv_has ls 3 [(0, .ref (w 0)), (1, .int (iI n)), (2, .int (iI i))] → W p l e (rmD 0) s m [.ref (w 0)].toArray below meth c H locs 0 0 (Zi below [.ref (w 0)].toArray s (rmD 0) G A (fun r9 u9 => ∃ (rv : Int), u9 = [(w 0, .inr (4, [.int (iI it), .int (iI cd), .int (iI now), .ref (w 1), .ref (w 2), .int (iI gr), .int (iI md), .ref (w 3), .ref (w 4), .ref (w 5), .ref (w 6), .ref (w 7), .ref (w 8), .int (iI dO), .ref (w 9), .ref (w 10)])), (w 1, .inl (z.1, 64, .inl (aI ppo)))] ∧ r9 = iI rv ∧ (0 ≤ rv ∧ rv ≤ 64) ∧ (rv = cI ppo 64))) (F0 m 4 ls []) := by
    intro n9
    induction n9 with
    | zero => intro n i hmu; exact absurd hmu (Nat.not_lt_zero _)
    | succ n9 ih4 =>
      intro n i hmu hi hc H locs hP hD hS ls hl
      refine lv_iload_n hx hb d_M_portCount_4 rfl (lv_at hl 2 rfl) ?_
      refine lv_bipush (v := iI 64) hx hb d_M_portCount_5 (by decide +kernel) ?_
      refine rv_icmp_ge (tgt := 33) hx hb d_M_portCount_7 (by decide) (by constructor <;> omega) ⟨by decide, by decide⟩ (fun c_1 => ?_) (fun c_1 => ?_)
      · skip
        refine lv_iload_n hx hb d_M_portCount_33 rfl (lv_at hl 1 rfl) ?_
        have hP9 : va_P G cls0 [(w 0, .inr (4, [.int (iI it), .int (iI cd), .int (iI now), .ref (w 1), .ref (w 2), .int (iI gr), .int (iI md), .ref (w 3), .ref (w 4), .ref (w 5), .ref (w 6), .ref (w 7), .ref (w 8), .int (iI dO), .ref (w 9), .ref (w 10)])), (w 1, .inl (z.1, 64, .inl (aI ppo)))] H := hP.sub [0, 1] rfl
        have hD9 : va_D A [(w 0, .inr (4, [.int (iI it), .int (iI cd), .int (iI now), .ref (w 1), .ref (w 2), .int (iI gr), .int (iI md), .ref (w 3), .ref (w 4), .ref (w 5), .ref (w 6), .ref (w 7), .ref (w 8), .int (iI dO), .ref (w 9), .ref (w 10)])), (w 1, .inl (z.1, 64, .inl (aI ppo)))] := hD.sub [0, 1] (by decide) rfl
        refine rv_iret hx hb hRt (nar_int _) hlocks (Nat.le_of_ble_eq_true rfl) (Nat.le_of_ble_eq_true rfl) hP9 hD9 hS d_M_portCount_34 ?_
        exact ⟨n, rfl, rfl, (by omega), (by rw [show (64 : Int) = i by omega]; exact hc)⟩
      · skip
        refine lv_iload_n hx hb d_M_portCount_10 rfl (lv_at hl 1 rfl) ?_
        refine lv_aload_n hx hb d_M_portCount_11 rfl (lv_at hl 0 rfl) ?_
        refine va_get (D := G) (ci := 4) (v := .ref (w 1)) (C := R_M) (T := T_M) (N := 16) hx hb hg iw_M hown hE.1 hP 0 rfl rfl 3 (by decide) (hg _ fl_M_7) (fun _ h9 => h9) rfl d_M_portCount_12 ?_
        refine lv_iload_n hx hb d_M_portCount_15 rfl (lv_at hl 2 rfl) ?_
        refine rv_iald hx hb hE hP 1 rfl (i := i) (by omega) (by omega) (by decide) d_M_portCount_16 ?_
        refine rv_if_le (tgt := 24) hx hb d_M_portCount_17 (by decide) (by (try have := rpo i); constructor <;> omega) (fun c_2 => ?_) (fun c_2 => ?_)
        · skip
          have h0 : ppo i = 0 := by have := rpo i; omega
          refine lv_iconst (v := iI 0) hx hb d_M_portCount_24 rfl ?_
          refine rv_iadd hx hb d_M_portCount_25 ?_
          refine lv_istore_n (lv' := [(1, .int (iI (n + 0))), (0, .ref (w 0)), (2, .int (iI i))]) hx hb d_M_portCount_26 rfl hl (by decide) rfl (fun ls hl => ?_)
          refine lv_iinc (v := iI (i + 1)) (lv' := [(2, .int (iI (i + 1))), (1, .int (iI (n + 0))), (0, .ref (w 0))]) hx hb d_M_portCount_27 hl (k := 2) rfl (iI_add _ _) (by decide) rfl (fun ls hl => ?_)
          refine lv_goto (tgt := 4) hx hb d_M_portCount_30 (by decide) ?_
          exact ih4 _ (i + 1) (by omega) (by omega) (by first | (rw [cI_s1 hi.1 h1, hc]) | (rw [cI_s0 hi.1 h0, hc]; omega)) H _ (hP.sub [0, 1] rfl) (hD.sub [0, 1] (by decide) rfl) hS ls (lv_sub hl [2, 1, 0] rfl)
        · skip
          have h1 : ¬ ppo i = 0 := by have := rpo i; omega
          refine lv_iconst (v := iI 1) hx hb d_M_portCount_20 rfl ?_
          refine lv_goto (tgt := 25) hx hb d_M_portCount_21 (by decide) ?_
          refine rv_iadd hx hb d_M_portCount_25 ?_
          refine lv_istore_n (lv' := [(1, .int (iI (n + 1))), (0, .ref (w 0)), (2, .int (iI i))]) hx hb d_M_portCount_26 rfl hl (by decide) rfl (fun ls hl => ?_)
          refine lv_iinc (v := iI (i + 1)) (lv' := [(2, .int (iI (i + 1))), (1, .int (iI (n + 1))), (0, .ref (w 0))]) hx hb d_M_portCount_27 hl (k := 2) rfl (iI_add _ _) (by decide) rfl (fun ls hl => ?_)
          refine lv_goto (tgt := 4) hx hb d_M_portCount_30 (by decide) ?_
          exact ih4 _ (i + 1) (by omega) (by omega) (by first | (rw [cI_s1 hi.1 h1, hc]) | (rw [cI_s0 hi.1 h0, hc]; omega)) H _ (hP.sub [0, 1] rfl) (hD.sub [0, 1] (by decide) rfl) hS ls (lv_sub hl [2, 1, 0] rfl)
  exact L4 ((64 - 0 : Int).toNat + 1) 0 0 (Nat.lt_succ_self _) (by omega) cI_0.symm H _ (hP.sub [0, 1] rfl) (hD.sub [0, 1] (by decide) rfl) hS ls (lv_sub hl [2, 1, 0] rfl)
set_option maxHeartbeats 4000000 in
set_option maxRecDepth 100000 in
theorem k_M_friendCount (l : Launch) (G : va_G) (z : tz3) (w : Nat → Nat) (it : Int) (cd : Int) (now : Int) (gr : Int) (md : Int) (dO : Int) (pfr : Int → Int) (rfr : ∀ i : Int, 0 ≤ pfr i ∧ pfr i ≤ 1) : Ki l y_M_friendCount c_M_friendCount 3 (some .int) (rmD 0) G z [.ref (w 0)] [(w 0, .inr (4, [.int (iI it), .int (iI cd), .int (iI now), .ref (w 1), .ref (w 2), .int (iI gr), .int (iI md), .ref (w 3), .ref (w 4), .ref (w 5), .ref (w 6), .ref (w 7), .ref (w 8), .int (iI dO), .ref (w 9), .ref (w 10)])), (w 2, .inl (z.2.1, 4096, .inl (aI pfr)))] (fun r9 u9 => ∃ (rv : Int), u9 = [(w 0, .inr (4, [.int (iI it), .int (iI cd), .int (iI now), .ref (w 1), .ref (w 2), .int (iI gr), .int (iI md), .ref (w 3), .ref (w 4), .ref (w 5), .ref (w 6), .ref (w 7), .ref (w 8), .int (iI dO), .ref (w 9), .ref (w 10)])), (w 2, .inl (z.2.1, 4096, .inl (aI pfr)))] ∧ r9 = iI rv ∧ (0 ≤ rv ∧ rv ≤ 4096) ∧ (rv = cI pfr 4096)) := by
  refine Ki.of (by decide) (Nat.le_of_ble_eq_true rfl) ?_
  intro p e s m below meth c A hB hP hD ls hl
  obtain ⟨hx, hb, hRt, hml, hown, hlocks, hg, hE, hA, hin⟩ := hB
  have hown : s.vm.findClass R_M = some m.cls := hown
  have hl : lv_has ls 3 [(0, .ref (w 0))] := hl
  obtain ⟨H, hH⟩ : ∃ H, H = s.heap := ⟨_, rfl⟩
  have hS : va_S A s.heap H [] := by rw [hH]; exact va_S.rf
  rw [← hH] at hP
  rw [← hH]
  have hP : va_P G cls0 [(w 0, .inr (4, [.int (iI it), .int (iI cd), .int (iI now), .ref (w 1), .ref (w 2), .int (iI gr), .int (iI md), .ref (w 3), .ref (w 4), .ref (w 5), .ref (w 6), .ref (w 7), .ref (w 8), .int (iI dO), .ref (w 9), .ref (w 10)])), (w 2, .inl (z.2.1, 4096, .inl (aI pfr)))] H := hP
  have hD : va_D A [(w 0, .inr (4, [.int (iI it), .int (iI cd), .int (iI now), .ref (w 1), .ref (w 2), .int (iI gr), .int (iI md), .ref (w 3), .ref (w 4), .ref (w 5), .ref (w 6), .ref (w 7), .ref (w 8), .int (iI dO), .ref (w 9), .ref (w 10)])), (w 2, .inl (z.2.1, 4096, .inl (aI pfr)))] := hD
  refine lv_iconst (v := iI 0) hx hb d_M_friendCount_0 rfl ?_
  refine lv_istore_n (lv' := [(1, .int (iI 0)), (0, .ref (w 0))]) hx hb d_M_friendCount_1 rfl hl (by decide) rfl (fun ls hl => ?_)
  refine lv_iconst (v := iI 0) hx hb d_M_friendCount_2 rfl ?_
  refine lv_istore_n (lv' := [(2, .int (iI 0)), (1, .int (iI 0)), (0, .ref (w 0))]) hx hb d_M_friendCount_3 rfl hl (by decide) rfl (fun ls hl => ?_)
  have L4 : ∀ n9 : Nat, ∀ (n : Int) (i : Int), (4096 - i : Int).toNat < n9 → (0 ≤ i ∧ i ≤ 4096 ∧ 0 ≤ n ∧ n ≤ i) → (n = cI pfr i) → ∀ (H : Heap) (locs : List Loc), va_P G cls0 [(w 0, .inr (4, [.int (iI it), .int (iI cd), .int (iI now), .ref (w 1), .ref (w 2), .int (iI gr), .int (iI md), .ref (w 3), .ref (w 4), .ref (w 5), .ref (w 6), .ref (w 7), .ref (w 8), .int (iI dO), .ref (w 9), .ref (w 10)])), (w 2, .inl (z.2.1, 4096, .inl (aI pfr)))] H → va_D A [(w 0, .inr (4, [.int (iI it), .int (iI cd), .int (iI now), .ref (w 1), .ref (w 2), .int (iI gr), .int (iI md), .ref (w 3), .ref (w 4), .ref (w 5), .ref (w 6), .ref (w 7), .ref (w 8), .int (iI dO), .ref (w 9), .ref (w 10)])), (w 2, .inl (z.2.1, 4096, .inl (aI pfr)))] → va_S A s.heap H locs → ∀ ls : Array Slot, lv_has ls 3 [(0, .ref (w 0)), (1, .int (iI n)), (2, .int (iI i))] → W p l e (rmD 0) s m [.ref (w 0)].toArray below meth c H locs 0 0 (Zi below [.ref (w 0)].toArray s (rmD 0) G A (fun r9 u9 => ∃ (rv : Int), u9 = [(w 0, .inr (4, [.int (iI it), .int (iI cd), .int (iI now), .ref (w 1), .ref (w 2), .int (iI gr), .int (iI md), .ref (w 3), .ref (w 4), .ref (w 5), .ref (w 6), .ref (w 7), .ref (w 8), .int (iI dO), .ref (w 9), .ref (w 10)])), (w 2, .inl (z.2.1, 4096, .inl (aI pfr)))] ∧ r9 = iI rv ∧ (0 ≤ rv ∧ rv ≤ 4096) ∧ (rv = cI pfr 4096))) (F0 m 4 ls []) := by
    intro n9
    induction n9 with
    | zero => intro n i hmu; exact absurd hmu (Nat.not_lt_zero _)
    | succ n9 ih4 =>
      intro n i hmu hi hc H locs hP hD hS ls hl
      refine lv_iload_n hx hb d_M_friendCount_4 rfl (lv_at hl 2 rfl) ?_
      refine lv_sipush (v := iI 4096) hx hb d_M_friendCount_5 (by decide +kernel) ?_
      refine rv_icmp_ge (tgt := 34) hx hb d_M_friendCount_8 (by decide) (by constructor <;> omega) ⟨by decide, by decide⟩ (fun c_1 => ?_) (fun c_1 => ?_)
      · skip
        refine lv_iload_n hx hb d_M_friendCount_34 rfl (lv_at hl 1 rfl) ?_
        have hP9 : va_P G cls0 [(w 0, .inr (4, [.int (iI it), .int (iI cd), .int (iI now), .ref (w 1), .ref (w 2), .int (iI gr), .int (iI md), .ref (w 3), .ref (w 4), .ref (w 5), .ref (w 6), .ref (w 7), .ref (w 8), .int (iI dO), .ref (w 9), .ref (w 10)])), (w 2, .inl (z.2.1, 4096, .inl (aI pfr)))] H := hP.sub [0, 1] rfl
        have hD9 : va_D A [(w 0, .inr (4, [.int (iI it), .int (iI cd), .int (iI now), .ref (w 1), .ref (w 2), .int (iI gr), .int (iI md), .ref (w 3), .ref (w 4), .ref (w 5), .ref (w 6), .ref (w 7), .ref (w 8), .int (iI dO), .ref (w 9), .ref (w 10)])), (w 2, .inl (z.2.1, 4096, .inl (aI pfr)))] := hD.sub [0, 1] (by decide) rfl
        refine rv_iret hx hb hRt (nar_int _) hlocks (Nat.le_of_ble_eq_true rfl) (Nat.le_of_ble_eq_true rfl) hP9 hD9 hS d_M_friendCount_35 ?_
        exact ⟨n, rfl, rfl, (by omega), (by rw [show (4096 : Int) = i by omega]; exact hc)⟩
      · skip
        refine lv_iload_n hx hb d_M_friendCount_11 rfl (lv_at hl 1 rfl) ?_
        refine lv_aload_n hx hb d_M_friendCount_12 rfl (lv_at hl 0 rfl) ?_
        refine va_get (D := G) (ci := 4) (v := .ref (w 2)) (C := R_M) (T := T_M) (N := 16) hx hb hg iw_M hown hE.1 hP 0 rfl rfl 4 (by decide) (hg _ fl_M_13) (fun _ h9 => h9) rfl d_M_friendCount_13 ?_
        refine lv_iload_n hx hb d_M_friendCount_16 rfl (lv_at hl 2 rfl) ?_
        refine rv_zald hx hb hE hP 1 rfl (i := i) (by omega) (by omega) (by decide) d_M_friendCount_17 ?_
        refine rv_if_eq (tgt := 25) hx hb d_M_friendCount_18 (by decide) (by (try have := rfr i); constructor <;> omega) (fun c_2 => ?_) (fun c_2 => ?_)
        · skip
          have h0 : pfr i = 0 := by have := rfr i; omega
          refine lv_iconst (v := iI 0) hx hb d_M_friendCount_25 rfl ?_
          refine rv_iadd hx hb d_M_friendCount_26 ?_
          refine lv_istore_n (lv' := [(1, .int (iI (n + 0))), (0, .ref (w 0)), (2, .int (iI i))]) hx hb d_M_friendCount_27 rfl hl (by decide) rfl (fun ls hl => ?_)
          refine lv_iinc (v := iI (i + 1)) (lv' := [(2, .int (iI (i + 1))), (1, .int (iI (n + 0))), (0, .ref (w 0))]) hx hb d_M_friendCount_28 hl (k := 2) rfl (iI_add _ _) (by decide) rfl (fun ls hl => ?_)
          refine lv_goto (tgt := 4) hx hb d_M_friendCount_31 (by decide) ?_
          exact ih4 _ (i + 1) (by omega) (by omega) (by first | (rw [cI_s1 hi.1 h1, hc]) | (rw [cI_s0 hi.1 h0, hc]; omega)) H _ (hP.sub [0, 1] rfl) (hD.sub [0, 1] (by decide) rfl) hS ls (lv_sub hl [2, 1, 0] rfl)
        · skip
          have h1 : ¬ pfr i = 0 := by have := rfr i; omega
          refine lv_iconst (v := iI 1) hx hb d_M_friendCount_21 rfl ?_
          refine lv_goto (tgt := 26) hx hb d_M_friendCount_22 (by decide) ?_
          refine rv_iadd hx hb d_M_friendCount_26 ?_
          refine lv_istore_n (lv' := [(1, .int (iI (n + 1))), (0, .ref (w 0)), (2, .int (iI i))]) hx hb d_M_friendCount_27 rfl hl (by decide) rfl (fun ls hl => ?_)
          refine lv_iinc (v := iI (i + 1)) (lv' := [(2, .int (iI (i + 1))), (1, .int (iI (n + 1))), (0, .ref (w 0))]) hx hb d_M_friendCount_28 hl (k := 2) rfl (iI_add _ _) (by decide) rfl (fun ls hl => ?_)
          refine lv_goto (tgt := 4) hx hb d_M_friendCount_31 (by decide) ?_
          exact ih4 _ (i + 1) (by omega) (by omega) (by first | (rw [cI_s1 hi.1 h1, hc]) | (rw [cI_s0 hi.1 h0, hc]; omega)) H _ (hP.sub [0, 1] rfl) (hD.sub [0, 1] (by decide) rfl) hS ls (lv_sub hl [2, 1, 0] rfl)
  exact L4 ((4096 - 0 : Int).toNat + 1) 0 0 (Nat.lt_succ_self _) (by omega) cI_0.symm H _ (hP.sub [0, 1] rfl) (hD.sub [0, 1] (by decide) rfl) hS ls (lv_sub hl [2, 1, 0] rfl)
set_option maxHeartbeats 4000000 in
set_option maxRecDepth 100000 in
theorem k_M_port (l : Launch) (G : va_G) (z : tz3) (w : Nat → Nat) (it : Int) (cd : Int) (now : Int) (gr : Int) (md : Int) (dO : Int) (ppo : Int → Int) (pfr : Int → Int) (net : Int) (cost : Int) (rpo : ∀ i : Int, 0 ≤ ppo i ∧ ppo i ≤ 1000) (rfr : ∀ i : Int, 0 ≤ pfr i ∧ pfr i ≤ 1) (hnn : inR net) (hcc : inR cost) : Ki l y_M_port c_M_port 5 (some .int) (rmD 1) G z [.ref (w 0), .int (iI net), .int (iI cost)] [(w 0, .inr (4, [.int (iI it), .int (iI cd), .int (iI now), .ref (w 1), .ref (w 2), .int (iI gr), .int (iI md), .ref (w 3), .ref (w 4), .ref (w 5), .ref (w 6), .ref (w 7), .ref (w 8), .int (iI dO), .ref (w 9), .ref (w 10)])), (w 1, .inl (z.1, 64, .inl (aI ppo))), (w 2, .inl (z.2.1, 4096, .inl (aI pfr)))] (fun r9 u9 => ∃ (rv : Int) (c2 : Int) (gpo : Int → Int) (gfr : Int → Int), u9 = [(w 0, .inr (4, [.int (iI it), .int (iI c2), .int (iI now), .ref (w 1), .ref (w 2), .int (iI gr), .int (iI md), .ref (w 3), .ref (w 4), .ref (w 5), .ref (w 6), .ref (w 7), .ref (w 8), .int (iI dO), .ref (w 9), .ref (w 10)])), (w 1, .inl (z.1, 64, .inl (aI gpo))), (w 2, .inl (z.2.1, 4096, .inl (aI gfr)))] ∧ r9 = iI rv ∧ (∀ i : Int, 0 ≤ gfr i ∧ gfr i ≤ 1) ∧ ((¬ (0 ≤ net ∧ net < 64 ∧ 0 ≤ cost ∧ cost ≤ 1000) ∧ c2 = 1 ∧ gpo = ppo ∧ gfr = pfr) ∨ ((0 ≤ net ∧ net < 64 ∧ 0 ≤ cost ∧ cost ≤ 1000) ∧ cost ≠ 0 ∧ ppo net = 0 ∧ cI ppo 64 = 8 ∧ c2 = 2 ∧ gpo = ppo ∧ gfr = pfr) ∨ ((0 ≤ net ∧ net < 64 ∧ 0 ≤ cost ∧ cost ≤ 1000) ∧ ¬ (cost ≠ 0 ∧ ppo net = 0 ∧ cI ppo 64 = 8) ∧ c2 = 0 ∧ rv = ppo net ∧ gpo = uZ ppo net cost ∧ (∀ k : Int, ((cost = 0 ∧ 64 * net ≤ k ∧ k < 64 * net + 64) → gfr k = 0) ∧ (¬ (cost = 0 ∧ 64 * net ≤ k ∧ k < 64 * net + 64) → gfr k = pfr k))))) := by
  refine Ki.of (by decide) (Nat.le_of_ble_eq_true rfl) ?_
  intro p e s m below meth c A hB hP hD ls hl
  obtain ⟨hx, hb, hRt, hml, hown, hlocks, hg, hE, hA, hin⟩ := hB
  have hown : s.vm.findClass R_M = some m.cls := hown
  have hl : lv_has ls 5 [(0, .ref (w 0)), (1, .int (iI net)), (2, .int (iI cost))] := hl
  obtain ⟨H, hH⟩ : ∃ H, H = s.heap := ⟨_, rfl⟩
  have hS : va_S A s.heap H [] := by rw [hH]; exact va_S.rf
  rw [← hH] at hP
  rw [← hH]
  have hP : va_P G cls0 [(w 0, .inr (4, [.int (iI it), .int (iI cd), .int (iI now), .ref (w 1), .ref (w 2), .int (iI gr), .int (iI md), .ref (w 3), .ref (w 4), .ref (w 5), .ref (w 6), .ref (w 7), .ref (w 8), .int (iI dO), .ref (w 9), .ref (w 10)])), (w 1, .inl (z.1, 64, .inl (aI ppo))), (w 2, .inl (z.2.1, 4096, .inl (aI pfr)))] H := hP
  have hD : va_D A [(w 0, .inr (4, [.int (iI it), .int (iI cd), .int (iI now), .ref (w 1), .ref (w 2), .int (iI gr), .int (iI md), .ref (w 3), .ref (w 4), .ref (w 5), .ref (w 6), .ref (w 7), .ref (w 8), .int (iI dO), .ref (w 9), .ref (w 10)])), (w 1, .inl (z.1, 64, .inl (aI ppo))), (w 2, .inl (z.2.1, 4096, .inl (aI pfr)))] := hD
  refine lv_aload_n hx hb d_M_port_0 rfl (lv_at hl 0 rfl) ?_
  refine lv_iload_n hx hb d_M_port_1 rfl (lv_at hl 1 rfl) ?_
  refine lv_iconst (v := iI 0) hx hb d_M_port_2 rfl ?_
  refine lv_bipush (v := iI 63) hx hb d_M_port_3 (by decide +kernel) ?_
  refine qS_i (As := [.int (iI net), .int (iI 0), .int (iI 63)]) (rest := [.ref (w 0)]) (wr := [(w 0, .inr (4, [.int (iI it), .int (iI cd), .int (iI now), .ref (w 1), .ref (w 2), .int (iI gr), .int (iI md), .ref (w 3), .ref (w 4), .ref (w 5), .ref (w 6), .ref (w 7), .ref (w 8), .int (iI dO), .ref (w 9), .ref (w 10)])), (w 1, .inl (z.1, 64, .inl (aI ppo))), (w 2, .inl (z.2.1, 4096, .inl (aI pfr)))]) hx hb hml hown hg hE hA hS hP hD (k_M_in l G z net 0 63 (by omega) (by omega) (by omega)) [] [0, 1, 2] rfl rfl (by decide) (by decide) (by decide) ml_M_51 st_M_in in_M co_M_in ok_M_in ⟨Nat.le_of_ble_eq_true rfl, Nat.le_of_ble_eq_true rfl⟩ hl.1 rfl (Nat.le_of_ble_eq_true rfl) d_M_port_5 ⟨Nat.le_of_ble_eq_true rfl, Nat.le_of_ble_eq_true rfl⟩ (fun r9 u9 H locs hw hP hD hS => ?_)
  obtain ⟨rb_1, rfl, rfl, fb_2⟩ := hw
  have hP : va_P G cls0 [(w 0, .inr (4, [.int (iI it), .int (iI cd), .int (iI now), .ref (w 1), .ref (w 2), .int (iI gr), .int (iI md), .ref (w 3), .ref (w 4), .ref (w 5), .ref (w 6), .ref (w 7), .ref (w 8), .int (iI dO), .ref (w 9), .ref (w 10)])), (w 1, .inl (z.1, 64, .inl (aI ppo))), (w 2, .inl (z.2.1, 4096, .inl (aI pfr)))] H := hP
  have hD : va_D A [(w 0, .inr (4, [.int (iI it), .int (iI cd), .int (iI now), .ref (w 1), .ref (w 2), .int (iI gr), .int (iI md), .ref (w 3), .ref (w 4), .ref (w 5), .ref (w 6), .ref (w 7), .ref (w 8), .int (iI dO), .ref (w 9), .ref (w 10)])), (w 1, .inl (z.1, 64, .inl (aI ppo))), (w 2, .inl (z.2.1, 4096, .inl (aI pfr)))] := hD
  refine rv_if_eq (tgt := 22) hx hb d_M_port_8 (by decide) (by constructor <;> omega) (fun c_3 => ?_) (fun c_3 => ?_)
  · skip
    refine lv_iconst (v := iI 1) hx hb d_M_port_22 rfl ?_
    refine lv_goto (tgt := 53) hx hb d_M_port_23 (by decide) ?_
    refine va_put (D := G) (ci := 4) (v := .int (iI 1)) (ty := .int) (C := R_M) (T := T_M) (N := 16) hx hb hg iw_M ty_M ty_M_ok nm_M hown hE.1 hP hD hS 0 rfl rfl 1 (by decide) (hg _ fl_M_48) (fun _ h9 => h9) rfl (by decide +kernel) rfl rfl (Nat.le_of_ble_eq_true rfl) d_M_port_53 (fun H locs hP hD hS => ?_)
    have hP : va_P G cls0 [(w 0, .inr (4, [.int (iI it), .int (iI 1), .int (iI now), .ref (w 1), .ref (w 2), .int (iI gr), .int (iI md), .ref (w 3), .ref (w 4), .ref (w 5), .ref (w 6), .ref (w 7), .ref (w 8), .int (iI dO), .ref (w 9), .ref (w 10)])), (w 1, .inl (z.1, 64, .inl (aI ppo))), (w 2, .inl (z.2.1, 4096, .inl (aI pfr)))] H := hP
    have hD : va_D A [(w 0, .inr (4, [.int (iI it), .int (iI 1), .int (iI now), .ref (w 1), .ref (w 2), .int (iI gr), .int (iI md), .ref (w 3), .ref (w 4), .ref (w 5), .ref (w 6), .ref (w 7), .ref (w 8), .int (iI dO), .ref (w 9), .ref (w 10)])), (w 1, .inl (z.1, 64, .inl (aI ppo))), (w 2, .inl (z.2.1, 4096, .inl (aI pfr)))] := hD
    refine lv_aload_n hx hb d_M_port_56 rfl (lv_at hl 0 rfl) ?_
    refine va_get (D := G) (ci := 4) (v := .int (iI 1)) (C := R_M) (T := T_M) (N := 16) hx hb hg iw_M hown hE.1 hP 0 rfl rfl 1 (by decide) (hg _ fl_M_48) (fun _ h9 => h9) rfl d_M_port_57 ?_
    refine rv_if_le (tgt := 65) hx hb d_M_port_60 (by decide) ⟨by decide, by decide⟩ (fun c_4 => ?_) (fun c_4 => ?_)
    · exact absurd c_4 (by decide)
    · skip
      refine lv_iconst (v := iI 0) hx hb d_M_port_63 rfl ?_
      have hP9 : va_P G cls0 [(w 0, .inr (4, [.int (iI it), .int (iI 1), .int (iI now), .ref (w 1), .ref (w 2), .int (iI gr), .int (iI md), .ref (w 3), .ref (w 4), .ref (w 5), .ref (w 6), .ref (w 7), .ref (w 8), .int (iI dO), .ref (w 9), .ref (w 10)])), (w 1, .inl (z.1, 64, .inl (aI ppo))), (w 2, .inl (z.2.1, 4096, .inl (aI pfr)))] H := hP.sub [0, 1, 2] rfl
      have hD9 : va_D A [(w 0, .inr (4, [.int (iI it), .int (iI 1), .int (iI now), .ref (w 1), .ref (w 2), .int (iI gr), .int (iI md), .ref (w 3), .ref (w 4), .ref (w 5), .ref (w 6), .ref (w 7), .ref (w 8), .int (iI dO), .ref (w 9), .ref (w 10)])), (w 1, .inl (z.1, 64, .inl (aI ppo))), (w 2, .inl (z.2.1, 4096, .inl (aI pfr)))] := hD.sub [0, 1, 2] (by decide) rfl
      refine rv_iret hx hb hRt (nar_int _) hlocks (Nat.le_of_ble_eq_true rfl) (Nat.le_of_ble_eq_true rfl) hP9 hD9 hS d_M_port_64 ?_
      exact ⟨0, 1, ppo, pfr, rfl, rfl, rfr, (by first | exact Or.inl ⟨by omega, rfl, rfl, rfl⟩ | exact Or.inr (Or.inl ⟨by omega, by omega, by omega, h8, rfl, rfl, rfl⟩))⟩
  · skip
    refine lv_iload_n hx hb d_M_port_11 rfl (lv_at hl 2 rfl) ?_
    refine lv_iconst (v := iI 0) hx hb d_M_port_12 rfl ?_
    refine lv_sipush (v := iI 1000) hx hb d_M_port_13 (by decide +kernel) ?_
    refine qS_i (As := [.int (iI cost), .int (iI 0), .int (iI 1000)]) (rest := [.ref (w 0)]) (wr := [(w 0, .inr (4, [.int (iI it), .int (iI cd), .int (iI now), .ref (w 1), .ref (w 2), .int (iI gr), .int (iI md), .ref (w 3), .ref (w 4), .ref (w 5), .ref (w 6), .ref (w 7), .ref (w 8), .int (iI dO), .ref (w 9), .ref (w 10)])), (w 1, .inl (z.1, 64, .inl (aI ppo))), (w 2, .inl (z.2.1, 4096, .inl (aI pfr)))]) hx hb hml hown hg hE hA hS hP hD (k_M_in l G z cost 0 1000 (by omega) (by omega) (by omega)) [] [0, 1, 2] rfl rfl (by decide) (by decide) (by decide) ml_M_51 st_M_in in_M co_M_in ok_M_in ⟨Nat.le_of_ble_eq_true rfl, Nat.le_of_ble_eq_true rfl⟩ hl.1 rfl (Nat.le_of_ble_eq_true rfl) d_M_port_16 ⟨Nat.le_of_ble_eq_true rfl, Nat.le_of_ble_eq_true rfl⟩ (fun r9 u9 H locs hw hP hD hS => ?_)
    obtain ⟨rb_5, rfl, rfl, fb_6⟩ := hw
    have hP : va_P G cls0 [(w 0, .inr (4, [.int (iI it), .int (iI cd), .int (iI now), .ref (w 1), .ref (w 2), .int (iI gr), .int (iI md), .ref (w 3), .ref (w 4), .ref (w 5), .ref (w 6), .ref (w 7), .ref (w 8), .int (iI dO), .ref (w 9), .ref (w 10)])), (w 1, .inl (z.1, 64, .inl (aI ppo))), (w 2, .inl (z.2.1, 4096, .inl (aI pfr)))] H := hP
    have hD : va_D A [(w 0, .inr (4, [.int (iI it), .int (iI cd), .int (iI now), .ref (w 1), .ref (w 2), .int (iI gr), .int (iI md), .ref (w 3), .ref (w 4), .ref (w 5), .ref (w 6), .ref (w 7), .ref (w 8), .int (iI dO), .ref (w 9), .ref (w 10)])), (w 1, .inl (z.1, 64, .inl (aI ppo))), (w 2, .inl (z.2.1, 4096, .inl (aI pfr)))] := hD
    refine rv_if_ne (tgt := 26) hx hb d_M_port_19 (by decide) (by constructor <;> omega) (fun c_7 => ?_) (fun c_7 => ?_)
    · skip
      refine lv_iload_n hx hb d_M_port_26 rfl (lv_at hl 2 rfl) ?_
      refine rv_if_le (tgt := 52) hx hb d_M_port_27 (by decide) (by constructor <;> omega) (fun c_8 => ?_) (fun c_8 => ?_)
      · skip
        have hn8 : ¬ (cost ≠ 0) := by omega
        refine lv_iconst (v := iI 0) hx hb d_M_port_52 rfl ?_
        refine va_put (D := G) (ci := 4) (v := .int (iI 0)) (ty := .int) (C := R_M) (T := T_M) (N := 16) hx hb hg iw_M ty_M ty_M_ok nm_M hown hE.1 hP hD hS 0 rfl rfl 1 (by decide) (hg _ fl_M_48) (fun _ h9 => h9) rfl (by decide +kernel) rfl rfl (Nat.le_of_ble_eq_true rfl) d_M_port_53 (fun H locs hP hD hS => ?_)
        have hP : va_P G cls0 [(w 0, .inr (4, [.int (iI it), .int (iI 0), .int (iI now), .ref (w 1), .ref (w 2), .int (iI gr), .int (iI md), .ref (w 3), .ref (w 4), .ref (w 5), .ref (w 6), .ref (w 7), .ref (w 8), .int (iI dO), .ref (w 9), .ref (w 10)])), (w 1, .inl (z.1, 64, .inl (aI ppo))), (w 2, .inl (z.2.1, 4096, .inl (aI pfr)))] H := hP
        have hD : va_D A [(w 0, .inr (4, [.int (iI it), .int (iI 0), .int (iI now), .ref (w 1), .ref (w 2), .int (iI gr), .int (iI md), .ref (w 3), .ref (w 4), .ref (w 5), .ref (w 6), .ref (w 7), .ref (w 8), .int (iI dO), .ref (w 9), .ref (w 10)])), (w 1, .inl (z.1, 64, .inl (aI ppo))), (w 2, .inl (z.2.1, 4096, .inl (aI pfr)))] := hD
        refine lv_aload_n hx hb d_M_port_56 rfl (lv_at hl 0 rfl) ?_
        refine va_get (D := G) (ci := 4) (v := .int (iI 0)) (C := R_M) (T := T_M) (N := 16) hx hb hg iw_M hown hE.1 hP 0 rfl rfl 1 (by decide) (hg _ fl_M_48) (fun _ h9 => h9) rfl d_M_port_57 ?_
        refine rv_if_le (tgt := 65) hx hb d_M_port_60 (by decide) ⟨by decide, by decide⟩ (fun c_9 => ?_) (fun c_9 => ?_)
        · skip
          refine lv_aload_n hx hb d_M_port_65 rfl (lv_at hl 0 rfl) ?_
          refine va_get (D := G) (ci := 4) (v := .ref (w 1)) (C := R_M) (T := T_M) (N := 16) hx hb hg iw_M hown hE.1 hP 0 rfl rfl 3 (by decide) (hg _ fl_M_7) (fun _ h9 => h9) rfl d_M_port_66 ?_
          refine lv_iload_n hx hb d_M_port_69 rfl (lv_at hl 1 rfl) ?_
          refine rv_iald hx hb hE hP 1 rfl (i := net) (by omega) (by omega) (by decide) d_M_port_70 ?_
          refine lv_istore_n (lv' := [(3, .int (iI (ppo net))), (0, .ref (w 0)), (1, .int (iI net)), (2, .int (iI cost))]) hx hb d_M_port_71 rfl hl (by decide) rfl (fun ls hl => ?_)
          refine lv_aload_n hx hb d_M_port_72 rfl (lv_at hl 1 rfl) ?_
          refine va_get (D := G) (ci := 4) (v := .ref (w 1)) (C := R_M) (T := T_M) (N := 16) hx hb hg iw_M hown hE.1 hP 0 rfl rfl 3 (by decide) (hg _ fl_M_7) (fun _ h9 => h9) rfl d_M_port_73 ?_
          refine lv_iload_n hx hb d_M_port_76 rfl (lv_at hl 2 rfl) ?_
          refine lv_iload_n hx hb d_M_port_77 rfl (lv_at hl 3 rfl) ?_
          refine rv_iast hx hb hE hP hD hS 1 rfl (i := net) (x := cost) (by omega) (by omega) (by decide) d_M_port_78 (fun H locs hP hD hS => ?_)
          have hP : va_P G cls0 [(w 0, .inr (4, [.int (iI it), .int (iI 0), .int (iI now), .ref (w 1), .ref (w 2), .int (iI gr), .int (iI md), .ref (w 3), .ref (w 4), .ref (w 5), .ref (w 6), .ref (w 7), .ref (w 8), .int (iI dO), .ref (w 9), .ref (w 10)])), (w 1, .inl (z.1, 64, .inl (aI (uZ ppo net cost)))), (w 2, .inl (z.2.1, 4096, .inl (aI pfr)))] H := hP
          have hD : va_D A [(w 0, .inr (4, [.int (iI it), .int (iI 0), .int (iI now), .ref (w 1), .ref (w 2), .int (iI gr), .int (iI md), .ref (w 3), .ref (w 4), .ref (w 5), .ref (w 6), .ref (w 7), .ref (w 8), .int (iI dO), .ref (w 9), .ref (w 10)])), (w 1, .inl (z.1, 64, .inl (aI (uZ ppo net cost)))), (w 2, .inl (z.2.1, 4096, .inl (aI pfr)))] := hD
          refine lv_iconst (v := iI 0) hx hb d_M_port_79 rfl ?_
          refine lv_istore (lv' := [(4, .int (iI 0)), (3, .int (iI (ppo net))), (0, .ref (w 0)), (1, .int (iI net)), (2, .int (iI cost))]) hx hb d_M_port_80 hl (by decide) rfl (fun ls hl => ?_)
          have L82 : ∀ n9 : Nat, ∀ (gfr : Int → Int) (r : Int), (64 - r : Int).toNat < n9 → (∀ i : Int, 0 ≤ gfr i ∧ gfr i ≤ 1) → (0 ≤ r ∧ r ≤ 64 ∧ (cost = 0 ∨ r = 0)) → (∀ k : Int, ((64 * net ≤ k ∧ k < 64 * net + r) → gfr k = 0) ∧ (¬ (64 * net ≤ k ∧ k < 64 * net + r) → gfr k = pfr k)) → ∀ (H : Heap) (locs : List Loc), va_P G cls0 [(w 0, .inr (4, [.int (iI it), .int (iI 0), .int (iI now), .ref (w 1), .ref (w 2), .int (iI gr), .int (iI md), .ref (w 3), .ref (w 4), .ref (w 5), .ref (w 6), .ref (w 7), .ref (w 8), .int (iI dO), .ref (w 9), .ref (w 10)])), (w 1, .inl (z.1, 64, .inl (aI (uZ ppo net cost)))), (w 2, .inl (z.2.1, 4096, .inl (aI gfr)))] H → va_D A [(w 0, .inr (4, [.int (iI it), .int (iI 0), .int (iI now), .ref (w 1), .ref (w 2), .int (iI gr), .int (iI md), .ref (w 3), .ref (w 4), .ref (w 5), .ref (w 6), .ref (w 7), .ref (w 8), .int (iI dO), .ref (w 9), .ref (w 10)])), (w 1, .inl (z.1, 64, .inl (aI (uZ ppo net cost)))), (w 2, .inl (z.2.1, 4096, .inl (aI gfr)))] → va_S A s.heap H locs → ∀ ls : Array Slot, lv_has ls 5 [(0, .ref (w 0)), (1, .int (iI net)), (2, .int (iI cost)), (3, .int (iI (ppo net))), (4, .int (iI r))] → W p l e (rmD 1) s m [.ref (w 0), .int (iI net), .int (iI cost)].toArray below meth c H locs 0 0 (Zi below [.ref (w 0), .int (iI net), .int (iI cost)].toArray s (rmD 1) G A (fun r9 u9 => ∃ (rv : Int) (c2 : Int) (gpo : Int → Int) (gfr : Int → Int), u9 = [(w 0, .inr (4, [.int (iI it), .int (iI c2), .int (iI now), .ref (w 1), .ref (w 2), .int (iI gr), .int (iI md), .ref (w 3), .ref (w 4), .ref (w 5), .ref (w 6), .ref (w 7), .ref (w 8), .int (iI dO), .ref (w 9), .ref (w 10)])), (w 1, .inl (z.1, 64, .inl (aI gpo))), (w 2, .inl (z.2.1, 4096, .inl (aI gfr)))] ∧ r9 = iI rv ∧ (∀ i : Int, 0 ≤ gfr i ∧ gfr i ≤ 1) ∧ ((¬ (0 ≤ net ∧ net < 64 ∧ 0 ≤ cost ∧ cost ≤ 1000) ∧ c2 = 1 ∧ gpo = ppo ∧ gfr = pfr) ∨ ((0 ≤ net ∧ net < 64 ∧ 0 ≤ cost ∧ cost ≤ 1000) ∧ cost ≠ 0 ∧ ppo net = 0 ∧ cI ppo 64 = 8 ∧ c2 = 2 ∧ gpo = ppo ∧ gfr = pfr) ∨ ((0 ≤ net ∧ net < 64 ∧ 0 ≤ cost ∧ cost ≤ 1000) ∧ ¬ (cost ≠ 0 ∧ ppo net = 0 ∧ cI ppo 64 = 8) ∧ c2 = 0 ∧ rv = ppo net ∧ gpo = uZ ppo net cost ∧ (∀ k : Int, ((cost = 0 ∧ 64 * net ≤ k ∧ k < 64 * net + 64) → gfr k = 0) ∧ (¬ (cost = 0 ∧ 64 * net ≤ k ∧ k < 64 * net + 64) → gfr k = pfr k)))))) (F0 m 82 ls []) := by
            intro n9
            induction n9 with
            | zero => intro gfr r hmu; exact absurd hmu (Nat.not_lt_zero _)
            | succ n9 ih82 =>
              intro gfr r hmu rgfr hr hf H locs hP hD hS ls hl
              refine lv_iload hx hb d_M_port_82 (lv_at hl 4 rfl) ?_
              refine lv_bipush (v := iI 64) hx hb d_M_port_84 (by decide +kernel) ?_
              refine rv_icmp_ge (tgt := 112) hx hb d_M_port_86 (by decide) (by constructor <;> omega) ⟨by decide, by decide⟩ (fun c_10 => ?_) (fun c_10 => ?_)
              · skip
                refine lv_iload_n hx hb d_M_port_112 rfl (lv_at hl 3 rfl) ?_
                have hP9 : va_P G cls0 [(w 0, .inr (4, [.int (iI it), .int (iI 0), .int (iI now), .ref (w 1), .ref (w 2), .int (iI gr), .int (iI md), .ref (w 3), .ref (w 4), .ref (w 5), .ref (w 6), .ref (w 7), .ref (w 8), .int (iI dO), .ref (w 9), .ref (w 10)])), (w 1, .inl (z.1, 64, .inl (aI (uZ ppo net cost)))), (w 2, .inl (z.2.1, 4096, .inl (aI gfr)))] H := hP.sub [0, 1, 2] rfl
                have hD9 : va_D A [(w 0, .inr (4, [.int (iI it), .int (iI 0), .int (iI now), .ref (w 1), .ref (w 2), .int (iI gr), .int (iI md), .ref (w 3), .ref (w 4), .ref (w 5), .ref (w 6), .ref (w 7), .ref (w 8), .int (iI dO), .ref (w 9), .ref (w 10)])), (w 1, .inl (z.1, 64, .inl (aI (uZ ppo net cost)))), (w 2, .inl (z.2.1, 4096, .inl (aI gfr)))] := hD.sub [0, 1, 2] (by decide) rfl
                refine rv_iret hx hb hRt (nar_int _) hlocks (Nat.le_of_ble_eq_true rfl) (Nat.le_of_ble_eq_true rfl) hP9 hD9 hS d_M_port_113 ?_
                exact ⟨(ppo net), 0, (uZ ppo net cost), gfr, rfl, rfl, rgfr, (Or.inr (Or.inr ⟨by omega, fun q => by first | exact hn8 q.2.2 | exact hn8 q.2.1 | exact hn8 q.1, rfl, rfl, rfl, fun k => ⟨fun q => (hf k).1 (by omega), fun q => (hf k).2 (by omega)⟩⟩))⟩
              · skip
                refine lv_iload_n hx hb d_M_port_89 rfl (lv_at hl 2 rfl) ?_
                refine rv_if_ne (tgt := 112) hx hb d_M_port_90 (by decide) (by constructor <;> omega) (fun c_11 => ?_) (fun c_11 => ?_)
                · skip
                  refine lv_iload_n hx hb d_M_port_112 rfl (lv_at hl 3 rfl) ?_
                  have hP9 : va_P G cls0 [(w 0, .inr (4, [.int (iI it), .int (iI 0), .int (iI now), .ref (w 1), .ref (w 2), .int (iI gr), .int (iI md), .ref (w 3), .ref (w 4), .ref (w 5), .ref (w 6), .ref (w 7), .ref (w 8), .int (iI dO), .ref (w 9), .ref (w 10)])), (w 1, .inl (z.1, 64, .inl (aI (uZ ppo net cost)))), (w 2, .inl (z.2.1, 4096, .inl (aI gfr)))] H := hP.sub [0, 1, 2] rfl
                  have hD9 : va_D A [(w 0, .inr (4, [.int (iI it), .int (iI 0), .int (iI now), .ref (w 1), .ref (w 2), .int (iI gr), .int (iI md), .ref (w 3), .ref (w 4), .ref (w 5), .ref (w 6), .ref (w 7), .ref (w 8), .int (iI dO), .ref (w 9), .ref (w 10)])), (w 1, .inl (z.1, 64, .inl (aI (uZ ppo net cost)))), (w 2, .inl (z.2.1, 4096, .inl (aI gfr)))] := hD.sub [0, 1, 2] (by decide) rfl
                  refine rv_iret hx hb hRt (nar_int _) hlocks (Nat.le_of_ble_eq_true rfl) (Nat.le_of_ble_eq_true rfl) hP9 hD9 hS d_M_port_113 ?_
                  exact ⟨(ppo net), 0, (uZ ppo net cost), gfr, rfl, rfl, rgfr, (Or.inr (Or.inr ⟨by omega, fun q => by first | exact hn8 q.2.2 | exact hn8 q.2.1 | exact hn8 q.1, rfl, rfl, rfl, fun k => ⟨fun q => (hf k).1 (by omega), fun q => (hf k).2 (by omega)⟩⟩))⟩
                · skip
                  refine lv_aload_n hx hb d_M_port_93 rfl (lv_at hl 0 rfl) ?_
                  refine va_get (D := G) (ci := 4) (v := .ref (w 2)) (C := R_M) (T := T_M) (N := 16) hx hb hg iw_M hown hE.1 hP 0 rfl rfl 4 (by decide) (hg _ fl_M_13) (fun _ h9 => h9) rfl d_M_port_94 ?_
                  refine lv_bipush (v := iI 64) hx hb d_M_port_97 (by decide +kernel) ?_
                  refine lv_iload_n hx hb d_M_port_99 rfl (lv_at hl 1 rfl) ?_
                  refine rv_imul hx hb d_M_port_100 ?_
                  refine lv_iload hx hb d_M_port_101 (lv_at hl 4 rfl) ?_
                  refine rv_iadd hx hb d_M_port_103 ?_
                  refine lv_iconst (v := iI 0) hx hb d_M_port_104 rfl ?_
                  refine rv_zast hx hb hE hP hD hS 2 rfl (i := (64 * net) + r) (x := 0) (by omega) (by omega) (by decide) (Or.inl rfl) d_M_port_105 (fun H locs hP hD hS => ?_)
                  have hP : va_P G cls0 [(w 0, .inr (4, [.int (iI it), .int (iI 0), .int (iI now), .ref (w 1), .ref (w 2), .int (iI gr), .int (iI md), .ref (w 3), .ref (w 4), .ref (w 5), .ref (w 6), .ref (w 7), .ref (w 8), .int (iI dO), .ref (w 9), .ref (w 10)])), (w 1, .inl (z.1, 64, .inl (aI (uZ ppo net cost)))), (w 2, .inl (z.2.1, 4096, .inl (aI (uZ gfr ((64 * net) + r) 0))))] H := hP
                  have hD : va_D A [(w 0, .inr (4, [.int (iI it), .int (iI 0), .int (iI now), .ref (w 1), .ref (w 2), .int (iI gr), .int (iI md), .ref (w 3), .ref (w 4), .ref (w 5), .ref (w 6), .ref (w 7), .ref (w 8), .int (iI dO), .ref (w 9), .ref (w 10)])), (w 1, .inl (z.1, 64, .inl (aI (uZ ppo net cost)))), (w 2, .inl (z.2.1, 4096, .inl (aI (uZ gfr ((64 * net) + r) 0))))] := hD
                  refine lv_iinc (v := iI (r + 1)) (lv' := [(4, .int (iI (r + 1))), (0, .ref (w 0)), (1, .int (iI net)), (2, .int (iI cost)), (3, .int (iI (ppo net)))]) hx hb d_M_port_106 hl (k := 4) rfl (iI_add _ _) (by decide) rfl (fun ls hl => ?_)
                  refine lv_goto (tgt := 82) hx hb d_M_port_109 (by decide) ?_
                  exact ih82 _ (r + 1) (by omega) (uZ_rng rgfr (by omega)) (by omega) (fun k => if e : k = 64 * net + r then (by subst e; exact ⟨fun _ => uZ_s, fun q => absurd (by omega) q⟩) else (by rw [uZ_n e]; exact ⟨fun q => (hf k).1 (by omega), fun q => (hf k).2 (by omega)⟩)) H _ (hP.sub [0, 1, 2] rfl) (hD.sub [0, 1, 2] (by decide) rfl) hS ls (lv_sub hl [1, 2, 3, 4, 0] rfl)
          exact L82 ((64 - 0 : Int).toNat + 1) pfr 0 (Nat.lt_succ_self _) rfr (by omega) (fun k => ⟨fun q => absurd q.2 (by omega), fun _ => rfl⟩) H _ (hP.sub [0, 1, 2] rfl) (hD.sub [0, 1, 2] (by decide) rfl) hS ls (lv_sub hl [2, 3, 4, 1, 0] rfl)
        · exact absurd c_9 (by decide)
      · skip
        refine lv_aload_n hx hb d_M_port_30 rfl (lv_at hl 0 rfl) ?_
        refine va_get (D := G) (ci := 4) (v := .ref (w 1)) (C := R_M) (T := T_M) (N := 16) hx hb hg iw_M hown hE.1 hP 0 rfl rfl 3 (by decide) (hg _ fl_M_7) (fun _ h9 => h9) rfl d_M_port_31 ?_
        refine lv_iload_n hx hb d_M_port_34 rfl (lv_at hl 1 rfl) ?_
        refine rv_iald hx hb hE hP 1 rfl (i := net) (by omega) (by omega) (by decide) d_M_port_35 ?_
        refine rv_if_ne (tgt := 52) hx hb d_M_port_36 (by decide) (by (try have := rpo net); constructor <;> omega) (fun c_12 => ?_) (fun c_12 => ?_)
        · skip
          have hn8 : ¬ (ppo net = 0) := by omega
          refine lv_iconst (v := iI 0) hx hb d_M_port_52 rfl ?_
          refine va_put (D := G) (ci := 4) (v := .int (iI 0)) (ty := .int) (C := R_M) (T := T_M) (N := 16) hx hb hg iw_M ty_M ty_M_ok nm_M hown hE.1 hP hD hS 0 rfl rfl 1 (by decide) (hg _ fl_M_48) (fun _ h9 => h9) rfl (by decide +kernel) rfl rfl (Nat.le_of_ble_eq_true rfl) d_M_port_53 (fun H locs hP hD hS => ?_)
          have hP : va_P G cls0 [(w 0, .inr (4, [.int (iI it), .int (iI 0), .int (iI now), .ref (w 1), .ref (w 2), .int (iI gr), .int (iI md), .ref (w 3), .ref (w 4), .ref (w 5), .ref (w 6), .ref (w 7), .ref (w 8), .int (iI dO), .ref (w 9), .ref (w 10)])), (w 1, .inl (z.1, 64, .inl (aI ppo))), (w 2, .inl (z.2.1, 4096, .inl (aI pfr)))] H := hP
          have hD : va_D A [(w 0, .inr (4, [.int (iI it), .int (iI 0), .int (iI now), .ref (w 1), .ref (w 2), .int (iI gr), .int (iI md), .ref (w 3), .ref (w 4), .ref (w 5), .ref (w 6), .ref (w 7), .ref (w 8), .int (iI dO), .ref (w 9), .ref (w 10)])), (w 1, .inl (z.1, 64, .inl (aI ppo))), (w 2, .inl (z.2.1, 4096, .inl (aI pfr)))] := hD
          refine lv_aload_n hx hb d_M_port_56 rfl (lv_at hl 0 rfl) ?_
          refine va_get (D := G) (ci := 4) (v := .int (iI 0)) (C := R_M) (T := T_M) (N := 16) hx hb hg iw_M hown hE.1 hP 0 rfl rfl 1 (by decide) (hg _ fl_M_48) (fun _ h9 => h9) rfl d_M_port_57 ?_
          refine rv_if_le (tgt := 65) hx hb d_M_port_60 (by decide) ⟨by decide, by decide⟩ (fun c_13 => ?_) (fun c_13 => ?_)
          · skip
            refine lv_aload_n hx hb d_M_port_65 rfl (lv_at hl 0 rfl) ?_
            refine va_get (D := G) (ci := 4) (v := .ref (w 1)) (C := R_M) (T := T_M) (N := 16) hx hb hg iw_M hown hE.1 hP 0 rfl rfl 3 (by decide) (hg _ fl_M_7) (fun _ h9 => h9) rfl d_M_port_66 ?_
            refine lv_iload_n hx hb d_M_port_69 rfl (lv_at hl 1 rfl) ?_
            refine rv_iald hx hb hE hP 1 rfl (i := net) (by omega) (by omega) (by decide) d_M_port_70 ?_
            refine lv_istore_n (lv' := [(3, .int (iI (ppo net))), (0, .ref (w 0)), (1, .int (iI net)), (2, .int (iI cost))]) hx hb d_M_port_71 rfl hl (by decide) rfl (fun ls hl => ?_)
            refine lv_aload_n hx hb d_M_port_72 rfl (lv_at hl 1 rfl) ?_
            refine va_get (D := G) (ci := 4) (v := .ref (w 1)) (C := R_M) (T := T_M) (N := 16) hx hb hg iw_M hown hE.1 hP 0 rfl rfl 3 (by decide) (hg _ fl_M_7) (fun _ h9 => h9) rfl d_M_port_73 ?_
            refine lv_iload_n hx hb d_M_port_76 rfl (lv_at hl 2 rfl) ?_
            refine lv_iload_n hx hb d_M_port_77 rfl (lv_at hl 3 rfl) ?_
            refine rv_iast hx hb hE hP hD hS 1 rfl (i := net) (x := cost) (by omega) (by omega) (by decide) d_M_port_78 (fun H locs hP hD hS => ?_)
            have hP : va_P G cls0 [(w 0, .inr (4, [.int (iI it), .int (iI 0), .int (iI now), .ref (w 1), .ref (w 2), .int (iI gr), .int (iI md), .ref (w 3), .ref (w 4), .ref (w 5), .ref (w 6), .ref (w 7), .ref (w 8), .int (iI dO), .ref (w 9), .ref (w 10)])), (w 1, .inl (z.1, 64, .inl (aI (uZ ppo net cost)))), (w 2, .inl (z.2.1, 4096, .inl (aI pfr)))] H := hP
            have hD : va_D A [(w 0, .inr (4, [.int (iI it), .int (iI 0), .int (iI now), .ref (w 1), .ref (w 2), .int (iI gr), .int (iI md), .ref (w 3), .ref (w 4), .ref (w 5), .ref (w 6), .ref (w 7), .ref (w 8), .int (iI dO), .ref (w 9), .ref (w 10)])), (w 1, .inl (z.1, 64, .inl (aI (uZ ppo net cost)))), (w 2, .inl (z.2.1, 4096, .inl (aI pfr)))] := hD
            refine lv_iconst (v := iI 0) hx hb d_M_port_79 rfl ?_
            refine lv_istore (lv' := [(4, .int (iI 0)), (3, .int (iI (ppo net))), (0, .ref (w 0)), (1, .int (iI net)), (2, .int (iI cost))]) hx hb d_M_port_80 hl (by decide) rfl (fun ls hl => ?_)
            have L82 : ∀ n9 : Nat, ∀ (gfr : Int → Int) (r : Int), (64 - r : Int).toNat < n9 → (∀ i : Int, 0 ≤ gfr i ∧ gfr i ≤ 1) → (0 ≤ r ∧ r ≤ 64 ∧ (cost = 0 ∨ r = 0)) → (∀ k : Int, ((64 * net ≤ k ∧ k < 64 * net + r) → gfr k = 0) ∧ (¬ (64 * net ≤ k ∧ k < 64 * net + r) → gfr k = pfr k)) → ∀ (H : Heap) (locs : List Loc), va_P G cls0 [(w 0, .inr (4, [.int (iI it), .int (iI 0), .int (iI now), .ref (w 1), .ref (w 2), .int (iI gr), .int (iI md), .ref (w 3), .ref (w 4), .ref (w 5), .ref (w 6), .ref (w 7), .ref (w 8), .int (iI dO), .ref (w 9), .ref (w 10)])), (w 1, .inl (z.1, 64, .inl (aI (uZ ppo net cost)))), (w 2, .inl (z.2.1, 4096, .inl (aI gfr)))] H → va_D A [(w 0, .inr (4, [.int (iI it), .int (iI 0), .int (iI now), .ref (w 1), .ref (w 2), .int (iI gr), .int (iI md), .ref (w 3), .ref (w 4), .ref (w 5), .ref (w 6), .ref (w 7), .ref (w 8), .int (iI dO), .ref (w 9), .ref (w 10)])), (w 1, .inl (z.1, 64, .inl (aI (uZ ppo net cost)))), (w 2, .inl (z.2.1, 4096, .inl (aI gfr)))] → va_S A s.heap H locs → ∀ ls : Array Slot, lv_has ls 5 [(0, .ref (w 0)), (1, .int (iI net)), (2, .int (iI cost)), (3, .int (iI (ppo net))), (4, .int (iI r))] → W p l e (rmD 1) s m [.ref (w 0), .int (iI net), .int (iI cost)].toArray below meth c H locs 0 0 (Zi below [.ref (w 0), .int (iI net), .int (iI cost)].toArray s (rmD 1) G A (fun r9 u9 => ∃ (rv : Int) (c2 : Int) (gpo : Int → Int) (gfr : Int → Int), u9 = [(w 0, .inr (4, [.int (iI it), .int (iI c2), .int (iI now), .ref (w 1), .ref (w 2), .int (iI gr), .int (iI md), .ref (w 3), .ref (w 4), .ref (w 5), .ref (w 6), .ref (w 7), .ref (w 8), .int (iI dO), .ref (w 9), .ref (w 10)])), (w 1, .inl (z.1, 64, .inl (aI gpo))), (w 2, .inl (z.2.1, 4096, .inl (aI gfr)))] ∧ r9 = iI rv ∧ (∀ i : Int, 0 ≤ gfr i ∧ gfr i ≤ 1) ∧ ((¬ (0 ≤ net ∧ net < 64 ∧ 0 ≤ cost ∧ cost ≤ 1000) ∧ c2 = 1 ∧ gpo = ppo ∧ gfr = pfr) ∨ ((0 ≤ net ∧ net < 64 ∧ 0 ≤ cost ∧ cost ≤ 1000) ∧ cost ≠ 0 ∧ ppo net = 0 ∧ cI ppo 64 = 8 ∧ c2 = 2 ∧ gpo = ppo ∧ gfr = pfr) ∨ ((0 ≤ net ∧ net < 64 ∧ 0 ≤ cost ∧ cost ≤ 1000) ∧ ¬ (cost ≠ 0 ∧ ppo net = 0 ∧ cI ppo 64 = 8) ∧ c2 = 0 ∧ rv = ppo net ∧ gpo = uZ ppo net cost ∧ (∀ k : Int, ((cost = 0 ∧ 64 * net ≤ k ∧ k < 64 * net + 64) → gfr k = 0) ∧ (¬ (cost = 0 ∧ 64 * net ≤ k ∧ k < 64 * net + 64) → gfr k = pfr k)))))) (F0 m 82 ls []) := by
              intro n9
              induction n9 with
              | zero => intro gfr r hmu; exact absurd hmu (Nat.not_lt_zero _)
              | succ n9 ih82 =>
                intro gfr r hmu rgfr hr hf H locs hP hD hS ls hl
                refine lv_iload hx hb d_M_port_82 (lv_at hl 4 rfl) ?_
                refine lv_bipush (v := iI 64) hx hb d_M_port_84 (by decide +kernel) ?_
                refine rv_icmp_ge (tgt := 112) hx hb d_M_port_86 (by decide) (by constructor <;> omega) ⟨by decide, by decide⟩ (fun c_14 => ?_) (fun c_14 => ?_)
                · skip
                  refine lv_iload_n hx hb d_M_port_112 rfl (lv_at hl 3 rfl) ?_
                  have hP9 : va_P G cls0 [(w 0, .inr (4, [.int (iI it), .int (iI 0), .int (iI now), .ref (w 1), .ref (w 2), .int (iI gr), .int (iI md), .ref (w 3), .ref (w 4), .ref (w 5), .ref (w 6), .ref (w 7), .ref (w 8), .int (iI dO), .ref (w 9), .ref (w 10)])), (w 1, .inl (z.1, 64, .inl (aI (uZ ppo net cost)))), (w 2, .inl (z.2.1, 4096, .inl (aI gfr)))] H := hP.sub [0, 1, 2] rfl
                  have hD9 : va_D A [(w 0, .inr (4, [.int (iI it), .int (iI 0), .int (iI now), .ref (w 1), .ref (w 2), .int (iI gr), .int (iI md), .ref (w 3), .ref (w 4), .ref (w 5), .ref (w 6), .ref (w 7), .ref (w 8), .int (iI dO), .ref (w 9), .ref (w 10)])), (w 1, .inl (z.1, 64, .inl (aI (uZ ppo net cost)))), (w 2, .inl (z.2.1, 4096, .inl (aI gfr)))] := hD.sub [0, 1, 2] (by decide) rfl
                  refine rv_iret hx hb hRt (nar_int _) hlocks (Nat.le_of_ble_eq_true rfl) (Nat.le_of_ble_eq_true rfl) hP9 hD9 hS d_M_port_113 ?_
                  exact ⟨(ppo net), 0, (uZ ppo net cost), gfr, rfl, rfl, rgfr, (Or.inr (Or.inr ⟨by omega, fun q => by first | exact hn8 q.2.2 | exact hn8 q.2.1 | exact hn8 q.1, rfl, rfl, rfl, fun k => ⟨fun q => (hf k).1 (by omega), fun q => (hf k).2 (by omega)⟩⟩))⟩
                · skip
                  refine lv_iload_n hx hb d_M_port_89 rfl (lv_at hl 2 rfl) ?_
                  refine rv_if_ne (tgt := 112) hx hb d_M_port_90 (by decide) (by constructor <;> omega) (fun c_15 => ?_) (fun c_15 => ?_)
                  · skip
                    refine lv_iload_n hx hb d_M_port_112 rfl (lv_at hl 3 rfl) ?_
                    have hP9 : va_P G cls0 [(w 0, .inr (4, [.int (iI it), .int (iI 0), .int (iI now), .ref (w 1), .ref (w 2), .int (iI gr), .int (iI md), .ref (w 3), .ref (w 4), .ref (w 5), .ref (w 6), .ref (w 7), .ref (w 8), .int (iI dO), .ref (w 9), .ref (w 10)])), (w 1, .inl (z.1, 64, .inl (aI (uZ ppo net cost)))), (w 2, .inl (z.2.1, 4096, .inl (aI gfr)))] H := hP.sub [0, 1, 2] rfl
                    have hD9 : va_D A [(w 0, .inr (4, [.int (iI it), .int (iI 0), .int (iI now), .ref (w 1), .ref (w 2), .int (iI gr), .int (iI md), .ref (w 3), .ref (w 4), .ref (w 5), .ref (w 6), .ref (w 7), .ref (w 8), .int (iI dO), .ref (w 9), .ref (w 10)])), (w 1, .inl (z.1, 64, .inl (aI (uZ ppo net cost)))), (w 2, .inl (z.2.1, 4096, .inl (aI gfr)))] := hD.sub [0, 1, 2] (by decide) rfl
                    refine rv_iret hx hb hRt (nar_int _) hlocks (Nat.le_of_ble_eq_true rfl) (Nat.le_of_ble_eq_true rfl) hP9 hD9 hS d_M_port_113 ?_
                    exact ⟨(ppo net), 0, (uZ ppo net cost), gfr, rfl, rfl, rgfr, (Or.inr (Or.inr ⟨by omega, fun q => by first | exact hn8 q.2.2 | exact hn8 q.2.1 | exact hn8 q.1, rfl, rfl, rfl, fun k => ⟨fun q => (hf k).1 (by omega), fun q => (hf k).2 (by omega)⟩⟩))⟩
                  · skip
                    refine lv_aload_n hx hb d_M_port_93 rfl (lv_at hl 0 rfl) ?_
                    refine va_get (D := G) (ci := 4) (v := .ref (w 2)) (C := R_M) (T := T_M) (N := 16) hx hb hg iw_M hown hE.1 hP 0 rfl rfl 4 (by decide) (hg _ fl_M_13) (fun _ h9 => h9) rfl d_M_port_94 ?_
                    refine lv_bipush (v := iI 64) hx hb d_M_port_97 (by decide +kernel) ?_
                    refine lv_iload_n hx hb d_M_port_99 rfl (lv_at hl 1 rfl) ?_
                    refine rv_imul hx hb d_M_port_100 ?_
                    refine lv_iload hx hb d_M_port_101 (lv_at hl 4 rfl) ?_
                    refine rv_iadd hx hb d_M_port_103 ?_
                    refine lv_iconst (v := iI 0) hx hb d_M_port_104 rfl ?_
                    refine rv_zast hx hb hE hP hD hS 2 rfl (i := (64 * net) + r) (x := 0) (by omega) (by omega) (by decide) (Or.inl rfl) d_M_port_105 (fun H locs hP hD hS => ?_)
                    have hP : va_P G cls0 [(w 0, .inr (4, [.int (iI it), .int (iI 0), .int (iI now), .ref (w 1), .ref (w 2), .int (iI gr), .int (iI md), .ref (w 3), .ref (w 4), .ref (w 5), .ref (w 6), .ref (w 7), .ref (w 8), .int (iI dO), .ref (w 9), .ref (w 10)])), (w 1, .inl (z.1, 64, .inl (aI (uZ ppo net cost)))), (w 2, .inl (z.2.1, 4096, .inl (aI (uZ gfr ((64 * net) + r) 0))))] H := hP
                    have hD : va_D A [(w 0, .inr (4, [.int (iI it), .int (iI 0), .int (iI now), .ref (w 1), .ref (w 2), .int (iI gr), .int (iI md), .ref (w 3), .ref (w 4), .ref (w 5), .ref (w 6), .ref (w 7), .ref (w 8), .int (iI dO), .ref (w 9), .ref (w 10)])), (w 1, .inl (z.1, 64, .inl (aI (uZ ppo net cost)))), (w 2, .inl (z.2.1, 4096, .inl (aI (uZ gfr ((64 * net) + r) 0))))] := hD
                    refine lv_iinc (v := iI (r + 1)) (lv' := [(4, .int (iI (r + 1))), (0, .ref (w 0)), (1, .int (iI net)), (2, .int (iI cost)), (3, .int (iI (ppo net)))]) hx hb d_M_port_106 hl (k := 4) rfl (iI_add _ _) (by decide) rfl (fun ls hl => ?_)
                    refine lv_goto (tgt := 82) hx hb d_M_port_109 (by decide) ?_
                    exact ih82 _ (r + 1) (by omega) (uZ_rng rgfr (by omega)) (by omega) (fun k => if e : k = 64 * net + r then (by subst e; exact ⟨fun _ => uZ_s, fun q => absurd (by omega) q⟩) else (by rw [uZ_n e]; exact ⟨fun q => (hf k).1 (by omega), fun q => (hf k).2 (by omega)⟩)) H _ (hP.sub [0, 1, 2] rfl) (hD.sub [0, 1, 2] (by decide) rfl) hS ls (lv_sub hl [1, 2, 3, 4, 0] rfl)
            exact L82 ((64 - 0 : Int).toNat + 1) pfr 0 (Nat.lt_succ_self _) rfr (by omega) (fun k => ⟨fun q => absurd q.2 (by omega), fun _ => rfl⟩) H _ (hP.sub [0, 1, 2] rfl) (hD.sub [0, 1, 2] (by decide) rfl) hS ls (lv_sub hl [2, 3, 4, 1, 0] rfl)
          · exact absurd c_13 (by decide)
        · skip
          refine lv_aload_n hx hb d_M_port_39 rfl (lv_at hl 0 rfl) ?_
          refine qV_i (As := []) (rest := [.ref (w 0)]) (wr := [(w 2, .inl (z.2.1, 4096, .inl (aI pfr)))]) hx hb hml hown hg hE hA hS hP hD (k_M_portCount l G z w it cd now gr md dO ppo (by assumption)) [0, 1] [2] rfl rfl (by decide) (by decide) (by decide) (q0 := 0) rfl rfl ml_M_55 im_M_portCount se_M_portCount in_M co_M_portCount ok_M_portCount ⟨Nat.le_of_ble_eq_true rfl, Nat.le_of_ble_eq_true rfl⟩ hl.1 rfl (Nat.le_of_ble_eq_true rfl) d_M_port_40 ⟨Nat.le_of_ble_eq_true rfl, Nat.le_of_ble_eq_true rfl⟩ (fun r9 u9 H locs hw hP hD hS => ?_)
          obtain ⟨pc8, rfl, rfl, fp0, fp1⟩ := hw
          have hP : va_P G cls0 [(w 2, .inl (z.2.1, 4096, .inl (aI pfr))), (w 0, .inr (4, [.int (iI it), .int (iI cd), .int (iI now), .ref (w 1), .ref (w 2), .int (iI gr), .int (iI md), .ref (w 3), .ref (w 4), .ref (w 5), .ref (w 6), .ref (w 7), .ref (w 8), .int (iI dO), .ref (w 9), .ref (w 10)])), (w 1, .inl (z.1, 64, .inl (aI ppo)))] H := hP
          have hD : va_D A [(w 2, .inl (z.2.1, 4096, .inl (aI pfr))), (w 0, .inr (4, [.int (iI it), .int (iI cd), .int (iI now), .ref (w 1), .ref (w 2), .int (iI gr), .int (iI md), .ref (w 3), .ref (w 4), .ref (w 5), .ref (w 6), .ref (w 7), .ref (w 8), .int (iI dO), .ref (w 9), .ref (w 10)])), (w 1, .inl (z.1, 64, .inl (aI ppo)))] := hD
          refine lv_bipush (v := iI 8) hx hb d_M_port_43 (by decide +kernel) ?_
          refine rv_icmp_ne (tgt := 52) hx hb d_M_port_45 (by decide) (by constructor <;> omega) ⟨by decide, by decide⟩ (fun c_16 => ?_) (fun c_16 => ?_)
          · skip
            have hn8 : ¬ cI ppo 64 = 8 := by omega
            refine lv_iconst (v := iI 0) hx hb d_M_port_52 rfl ?_
            refine va_put (D := G) (ci := 4) (v := .int (iI 0)) (ty := .int) (C := R_M) (T := T_M) (N := 16) hx hb hg iw_M ty_M ty_M_ok nm_M hown hE.1 hP hD hS 1 rfl rfl 1 (by decide) (hg _ fl_M_48) (fun _ h9 => h9) rfl (by decide +kernel) rfl rfl (Nat.le_of_ble_eq_true rfl) d_M_port_53 (fun H locs hP hD hS => ?_)
            have hP : va_P G cls0 [(w 2, .inl (z.2.1, 4096, .inl (aI pfr))), (w 0, .inr (4, [.int (iI it), .int (iI 0), .int (iI now), .ref (w 1), .ref (w 2), .int (iI gr), .int (iI md), .ref (w 3), .ref (w 4), .ref (w 5), .ref (w 6), .ref (w 7), .ref (w 8), .int (iI dO), .ref (w 9), .ref (w 10)])), (w 1, .inl (z.1, 64, .inl (aI ppo)))] H := hP
            have hD : va_D A [(w 2, .inl (z.2.1, 4096, .inl (aI pfr))), (w 0, .inr (4, [.int (iI it), .int (iI 0), .int (iI now), .ref (w 1), .ref (w 2), .int (iI gr), .int (iI md), .ref (w 3), .ref (w 4), .ref (w 5), .ref (w 6), .ref (w 7), .ref (w 8), .int (iI dO), .ref (w 9), .ref (w 10)])), (w 1, .inl (z.1, 64, .inl (aI ppo)))] := hD
            refine lv_aload_n hx hb d_M_port_56 rfl (lv_at hl 0 rfl) ?_
            refine va_get (D := G) (ci := 4) (v := .int (iI 0)) (C := R_M) (T := T_M) (N := 16) hx hb hg iw_M hown hE.1 hP 1 rfl rfl 1 (by decide) (hg _ fl_M_48) (fun _ h9 => h9) rfl d_M_port_57 ?_
            refine rv_if_le (tgt := 65) hx hb d_M_port_60 (by decide) ⟨by decide, by decide⟩ (fun c_17 => ?_) (fun c_17 => ?_)
            · skip
              refine lv_aload_n hx hb d_M_port_65 rfl (lv_at hl 0 rfl) ?_
              refine va_get (D := G) (ci := 4) (v := .ref (w 1)) (C := R_M) (T := T_M) (N := 16) hx hb hg iw_M hown hE.1 hP 1 rfl rfl 3 (by decide) (hg _ fl_M_7) (fun _ h9 => h9) rfl d_M_port_66 ?_
              refine lv_iload_n hx hb d_M_port_69 rfl (lv_at hl 1 rfl) ?_
              refine rv_iald hx hb hE hP 2 rfl (i := net) (by omega) (by omega) (by decide) d_M_port_70 ?_
              refine lv_istore_n (lv' := [(3, .int (iI (ppo net))), (0, .ref (w 0)), (1, .int (iI net)), (2, .int (iI cost))]) hx hb d_M_port_71 rfl hl (by decide) rfl (fun ls hl => ?_)
              refine lv_aload_n hx hb d_M_port_72 rfl (lv_at hl 1 rfl) ?_
              refine va_get (D := G) (ci := 4) (v := .ref (w 1)) (C := R_M) (T := T_M) (N := 16) hx hb hg iw_M hown hE.1 hP 1 rfl rfl 3 (by decide) (hg _ fl_M_7) (fun _ h9 => h9) rfl d_M_port_73 ?_
              refine lv_iload_n hx hb d_M_port_76 rfl (lv_at hl 2 rfl) ?_
              refine lv_iload_n hx hb d_M_port_77 rfl (lv_at hl 3 rfl) ?_
              refine rv_iast hx hb hE hP hD hS 2 rfl (i := net) (x := cost) (by omega) (by omega) (by decide) d_M_port_78 (fun H locs hP hD hS => ?_)
              have hP : va_P G cls0 [(w 2, .inl (z.2.1, 4096, .inl (aI pfr))), (w 0, .inr (4, [.int (iI it), .int (iI 0), .int (iI now), .ref (w 1), .ref (w 2), .int (iI gr), .int (iI md), .ref (w 3), .ref (w 4), .ref (w 5), .ref (w 6), .ref (w 7), .ref (w 8), .int (iI dO), .ref (w 9), .ref (w 10)])), (w 1, .inl (z.1, 64, .inl (aI (uZ ppo net cost))))] H := hP
              have hD : va_D A [(w 2, .inl (z.2.1, 4096, .inl (aI pfr))), (w 0, .inr (4, [.int (iI it), .int (iI 0), .int (iI now), .ref (w 1), .ref (w 2), .int (iI gr), .int (iI md), .ref (w 3), .ref (w 4), .ref (w 5), .ref (w 6), .ref (w 7), .ref (w 8), .int (iI dO), .ref (w 9), .ref (w 10)])), (w 1, .inl (z.1, 64, .inl (aI (uZ ppo net cost))))] := hD
              refine lv_iconst (v := iI 0) hx hb d_M_port_79 rfl ?_
              refine lv_istore (lv' := [(4, .int (iI 0)), (3, .int (iI (ppo net))), (0, .ref (w 0)), (1, .int (iI net)), (2, .int (iI cost))]) hx hb d_M_port_80 hl (by decide) rfl (fun ls hl => ?_)
              have L82 : ∀ n9 : Nat, ∀ (gfr : Int → Int) (r : Int), (64 - r : Int).toNat < n9 → (∀ i : Int, 0 ≤ gfr i ∧ gfr i ≤ 1) → (0 ≤ r ∧ r ≤ 64 ∧ (cost = 0 ∨ r = 0)) → (∀ k : Int, ((64 * net ≤ k ∧ k < 64 * net + r) → gfr k = 0) ∧ (¬ (64 * net ≤ k ∧ k < 64 * net + r) → gfr k = pfr k)) → ∀ (H : Heap) (locs : List Loc), va_P G cls0 [(w 2, .inl (z.2.1, 4096, .inl (aI gfr))), (w 0, .inr (4, [.int (iI it), .int (iI 0), .int (iI now), .ref (w 1), .ref (w 2), .int (iI gr), .int (iI md), .ref (w 3), .ref (w 4), .ref (w 5), .ref (w 6), .ref (w 7), .ref (w 8), .int (iI dO), .ref (w 9), .ref (w 10)])), (w 1, .inl (z.1, 64, .inl (aI (uZ ppo net cost))))] H → va_D A [(w 2, .inl (z.2.1, 4096, .inl (aI gfr))), (w 0, .inr (4, [.int (iI it), .int (iI 0), .int (iI now), .ref (w 1), .ref (w 2), .int (iI gr), .int (iI md), .ref (w 3), .ref (w 4), .ref (w 5), .ref (w 6), .ref (w 7), .ref (w 8), .int (iI dO), .ref (w 9), .ref (w 10)])), (w 1, .inl (z.1, 64, .inl (aI (uZ ppo net cost))))] → va_S A s.heap H locs → ∀ ls : Array Slot, lv_has ls 5 [(0, .ref (w 0)), (1, .int (iI net)), (2, .int (iI cost)), (3, .int (iI (ppo net))), (4, .int (iI r))] → W p l e (rmD 1) s m [.ref (w 0), .int (iI net), .int (iI cost)].toArray below meth c H locs 0 0 (Zi below [.ref (w 0), .int (iI net), .int (iI cost)].toArray s (rmD 1) G A (fun r9 u9 => ∃ (rv : Int) (c2 : Int) (gpo : Int → Int) (gfr : Int → Int), u9 = [(w 0, .inr (4, [.int (iI it), .int (iI c2), .int (iI now), .ref (w 1), .ref (w 2), .int (iI gr), .int (iI md), .ref (w 3), .ref (w 4), .ref (w 5), .ref (w 6), .ref (w 7), .ref (w 8), .int (iI dO), .ref (w 9), .ref (w 10)])), (w 1, .inl (z.1, 64, .inl (aI gpo))), (w 2, .inl (z.2.1, 4096, .inl (aI gfr)))] ∧ r9 = iI rv ∧ (∀ i : Int, 0 ≤ gfr i ∧ gfr i ≤ 1) ∧ ((¬ (0 ≤ net ∧ net < 64 ∧ 0 ≤ cost ∧ cost ≤ 1000) ∧ c2 = 1 ∧ gpo = ppo ∧ gfr = pfr) ∨ ((0 ≤ net ∧ net < 64 ∧ 0 ≤ cost ∧ cost ≤ 1000) ∧ cost ≠ 0 ∧ ppo net = 0 ∧ cI ppo 64 = 8 ∧ c2 = 2 ∧ gpo = ppo ∧ gfr = pfr) ∨ ((0 ≤ net ∧ net < 64 ∧ 0 ≤ cost ∧ cost ≤ 1000) ∧ ¬ (cost ≠ 0 ∧ ppo net = 0 ∧ cI ppo 64 = 8) ∧ c2 = 0 ∧ rv = ppo net ∧ gpo = uZ ppo net cost ∧ (∀ k : Int, ((cost = 0 ∧ 64 * net ≤ k ∧ k < 64 * net + 64) → gfr k = 0) ∧ (¬ (cost = 0 ∧ 64 * net ≤ k ∧ k < 64 * net + 64) → gfr k = pfr k)))))) (F0 m 82 ls []) := by
                intro n9
                induction n9 with
                | zero => intro gfr r hmu; exact absurd hmu (Nat.not_lt_zero _)
                | succ n9 ih82 =>
                  intro gfr r hmu rgfr hr hf H locs hP hD hS ls hl
                  refine lv_iload hx hb d_M_port_82 (lv_at hl 4 rfl) ?_
                  refine lv_bipush (v := iI 64) hx hb d_M_port_84 (by decide +kernel) ?_
                  refine rv_icmp_ge (tgt := 112) hx hb d_M_port_86 (by decide) (by constructor <;> omega) ⟨by decide, by decide⟩ (fun c_18 => ?_) (fun c_18 => ?_)
                  · skip
                    refine lv_iload_n hx hb d_M_port_112 rfl (lv_at hl 3 rfl) ?_
                    have hP9 : va_P G cls0 [(w 0, .inr (4, [.int (iI it), .int (iI 0), .int (iI now), .ref (w 1), .ref (w 2), .int (iI gr), .int (iI md), .ref (w 3), .ref (w 4), .ref (w 5), .ref (w 6), .ref (w 7), .ref (w 8), .int (iI dO), .ref (w 9), .ref (w 10)])), (w 1, .inl (z.1, 64, .inl (aI (uZ ppo net cost)))), (w 2, .inl (z.2.1, 4096, .inl (aI gfr)))] H := hP.sub [1, 2, 0] rfl
                    have hD9 : va_D A [(w 0, .inr (4, [.int (iI it), .int (iI 0), .int (iI now), .ref (w 1), .ref (w 2), .int (iI gr), .int (iI md), .ref (w 3), .ref (w 4), .ref (w 5), .ref (w 6), .ref (w 7), .ref (w 8), .int (iI dO), .ref (w 9), .ref (w 10)])), (w 1, .inl (z.1, 64, .inl (aI (uZ ppo net cost)))), (w 2, .inl (z.2.1, 4096, .inl (aI gfr)))] := hD.sub [1, 2, 0] (by decide) rfl
                    refine rv_iret hx hb hRt (nar_int _) hlocks (Nat.le_of_ble_eq_true rfl) (Nat.le_of_ble_eq_true rfl) hP9 hD9 hS d_M_port_113 ?_
                    exact ⟨(ppo net), 0, (uZ ppo net cost), gfr, rfl, rfl, rgfr, (Or.inr (Or.inr ⟨by omega, fun q => by first | exact hn8 q.2.2 | exact hn8 q.2.1 | exact hn8 q.1, rfl, rfl, rfl, fun k => ⟨fun q => (hf k).1 (by omega), fun q => (hf k).2 (by omega)⟩⟩))⟩
                  · skip
                    refine lv_iload_n hx hb d_M_port_89 rfl (lv_at hl 2 rfl) ?_
                    refine rv_if_ne (tgt := 112) hx hb d_M_port_90 (by decide) (by constructor <;> omega) (fun c_19 => ?_) (fun c_19 => ?_)
                    · skip
                      refine lv_iload_n hx hb d_M_port_112 rfl (lv_at hl 3 rfl) ?_
                      have hP9 : va_P G cls0 [(w 0, .inr (4, [.int (iI it), .int (iI 0), .int (iI now), .ref (w 1), .ref (w 2), .int (iI gr), .int (iI md), .ref (w 3), .ref (w 4), .ref (w 5), .ref (w 6), .ref (w 7), .ref (w 8), .int (iI dO), .ref (w 9), .ref (w 10)])), (w 1, .inl (z.1, 64, .inl (aI (uZ ppo net cost)))), (w 2, .inl (z.2.1, 4096, .inl (aI gfr)))] H := hP.sub [1, 2, 0] rfl
                      have hD9 : va_D A [(w 0, .inr (4, [.int (iI it), .int (iI 0), .int (iI now), .ref (w 1), .ref (w 2), .int (iI gr), .int (iI md), .ref (w 3), .ref (w 4), .ref (w 5), .ref (w 6), .ref (w 7), .ref (w 8), .int (iI dO), .ref (w 9), .ref (w 10)])), (w 1, .inl (z.1, 64, .inl (aI (uZ ppo net cost)))), (w 2, .inl (z.2.1, 4096, .inl (aI gfr)))] := hD.sub [1, 2, 0] (by decide) rfl
                      refine rv_iret hx hb hRt (nar_int _) hlocks (Nat.le_of_ble_eq_true rfl) (Nat.le_of_ble_eq_true rfl) hP9 hD9 hS d_M_port_113 ?_
                      exact ⟨(ppo net), 0, (uZ ppo net cost), gfr, rfl, rfl, rgfr, (Or.inr (Or.inr ⟨by omega, fun q => by first | exact hn8 q.2.2 | exact hn8 q.2.1 | exact hn8 q.1, rfl, rfl, rfl, fun k => ⟨fun q => (hf k).1 (by omega), fun q => (hf k).2 (by omega)⟩⟩))⟩
                    · skip
                      refine lv_aload_n hx hb d_M_port_93 rfl (lv_at hl 0 rfl) ?_
                      refine va_get (D := G) (ci := 4) (v := .ref (w 2)) (C := R_M) (T := T_M) (N := 16) hx hb hg iw_M hown hE.1 hP 1 rfl rfl 4 (by decide) (hg _ fl_M_13) (fun _ h9 => h9) rfl d_M_port_94 ?_
                      refine lv_bipush (v := iI 64) hx hb d_M_port_97 (by decide +kernel) ?_
                      refine lv_iload_n hx hb d_M_port_99 rfl (lv_at hl 1 rfl) ?_
                      refine rv_imul hx hb d_M_port_100 ?_
                      refine lv_iload hx hb d_M_port_101 (lv_at hl 4 rfl) ?_
                      refine rv_iadd hx hb d_M_port_103 ?_
                      refine lv_iconst (v := iI 0) hx hb d_M_port_104 rfl ?_
                      refine rv_zast hx hb hE hP hD hS 0 rfl (i := (64 * net) + r) (x := 0) (by omega) (by omega) (by decide) (Or.inl rfl) d_M_port_105 (fun H locs hP hD hS => ?_)
                      have hP : va_P G cls0 [(w 2, .inl (z.2.1, 4096, .inl (aI (uZ gfr ((64 * net) + r) 0)))), (w 0, .inr (4, [.int (iI it), .int (iI 0), .int (iI now), .ref (w 1), .ref (w 2), .int (iI gr), .int (iI md), .ref (w 3), .ref (w 4), .ref (w 5), .ref (w 6), .ref (w 7), .ref (w 8), .int (iI dO), .ref (w 9), .ref (w 10)])), (w 1, .inl (z.1, 64, .inl (aI (uZ ppo net cost))))] H := hP
                      have hD : va_D A [(w 2, .inl (z.2.1, 4096, .inl (aI (uZ gfr ((64 * net) + r) 0)))), (w 0, .inr (4, [.int (iI it), .int (iI 0), .int (iI now), .ref (w 1), .ref (w 2), .int (iI gr), .int (iI md), .ref (w 3), .ref (w 4), .ref (w 5), .ref (w 6), .ref (w 7), .ref (w 8), .int (iI dO), .ref (w 9), .ref (w 10)])), (w 1, .inl (z.1, 64, .inl (aI (uZ ppo net cost))))] := hD
                      refine lv_iinc (v := iI (r + 1)) (lv' := [(4, .int (iI (r + 1))), (0, .ref (w 0)), (1, .int (iI net)), (2, .int (iI cost)), (3, .int (iI (ppo net)))]) hx hb d_M_port_106 hl (k := 4) rfl (iI_add _ _) (by decide) rfl (fun ls hl => ?_)
                      refine lv_goto (tgt := 82) hx hb d_M_port_109 (by decide) ?_
                      exact ih82 _ (r + 1) (by omega) (uZ_rng rgfr (by omega)) (by omega) (fun k => if e : k = 64 * net + r then (by subst e; exact ⟨fun _ => uZ_s, fun q => absurd (by omega) q⟩) else (by rw [uZ_n e]; exact ⟨fun q => (hf k).1 (by omega), fun q => (hf k).2 (by omega)⟩)) H _ (hP.sub [0, 1, 2] rfl) (hD.sub [0, 1, 2] (by decide) rfl) hS ls (lv_sub hl [1, 2, 3, 4, 0] rfl)
              exact L82 ((64 - 0 : Int).toNat + 1) pfr 0 (Nat.lt_succ_self _) rfr (by omega) (fun k => ⟨fun q => absurd q.2 (by omega), fun _ => rfl⟩) H _ (hP.sub [0, 1, 2] rfl) (hD.sub [0, 1, 2] (by decide) rfl) hS ls (lv_sub hl [2, 3, 4, 1, 0] rfl)
            · exact absurd c_17 (by decide)
          · skip
            have h8 : cI ppo 64 = 8 := by omega
            refine lv_iconst (v := iI 2) hx hb d_M_port_48 rfl ?_
            refine lv_goto (tgt := 53) hx hb d_M_port_49 (by decide) ?_
            refine va_put (D := G) (ci := 4) (v := .int (iI 2)) (ty := .int) (C := R_M) (T := T_M) (N := 16) hx hb hg iw_M ty_M ty_M_ok nm_M hown hE.1 hP hD hS 1 rfl rfl 1 (by decide) (hg _ fl_M_48) (fun _ h9 => h9) rfl (by decide +kernel) rfl rfl (Nat.le_of_ble_eq_true rfl) d_M_port_53 (fun H locs hP hD hS => ?_)
            have hP : va_P G cls0 [(w 2, .inl (z.2.1, 4096, .inl (aI pfr))), (w 0, .inr (4, [.int (iI it), .int (iI 2), .int (iI now), .ref (w 1), .ref (w 2), .int (iI gr), .int (iI md), .ref (w 3), .ref (w 4), .ref (w 5), .ref (w 6), .ref (w 7), .ref (w 8), .int (iI dO), .ref (w 9), .ref (w 10)])), (w 1, .inl (z.1, 64, .inl (aI ppo)))] H := hP
            have hD : va_D A [(w 2, .inl (z.2.1, 4096, .inl (aI pfr))), (w 0, .inr (4, [.int (iI it), .int (iI 2), .int (iI now), .ref (w 1), .ref (w 2), .int (iI gr), .int (iI md), .ref (w 3), .ref (w 4), .ref (w 5), .ref (w 6), .ref (w 7), .ref (w 8), .int (iI dO), .ref (w 9), .ref (w 10)])), (w 1, .inl (z.1, 64, .inl (aI ppo)))] := hD
            refine lv_aload_n hx hb d_M_port_56 rfl (lv_at hl 0 rfl) ?_
            refine va_get (D := G) (ci := 4) (v := .int (iI 2)) (C := R_M) (T := T_M) (N := 16) hx hb hg iw_M hown hE.1 hP 1 rfl rfl 1 (by decide) (hg _ fl_M_48) (fun _ h9 => h9) rfl d_M_port_57 ?_
            refine rv_if_le (tgt := 65) hx hb d_M_port_60 (by decide) ⟨by decide, by decide⟩ (fun c_20 => ?_) (fun c_20 => ?_)
            · exact absurd c_20 (by decide)
            · skip
              refine lv_iconst (v := iI 0) hx hb d_M_port_63 rfl ?_
              have hP9 : va_P G cls0 [(w 0, .inr (4, [.int (iI it), .int (iI 2), .int (iI now), .ref (w 1), .ref (w 2), .int (iI gr), .int (iI md), .ref (w 3), .ref (w 4), .ref (w 5), .ref (w 6), .ref (w 7), .ref (w 8), .int (iI dO), .ref (w 9), .ref (w 10)])), (w 1, .inl (z.1, 64, .inl (aI ppo))), (w 2, .inl (z.2.1, 4096, .inl (aI pfr)))] H := hP.sub [1, 2, 0] rfl
              have hD9 : va_D A [(w 0, .inr (4, [.int (iI it), .int (iI 2), .int (iI now), .ref (w 1), .ref (w 2), .int (iI gr), .int (iI md), .ref (w 3), .ref (w 4), .ref (w 5), .ref (w 6), .ref (w 7), .ref (w 8), .int (iI dO), .ref (w 9), .ref (w 10)])), (w 1, .inl (z.1, 64, .inl (aI ppo))), (w 2, .inl (z.2.1, 4096, .inl (aI pfr)))] := hD.sub [1, 2, 0] (by decide) rfl
              refine rv_iret hx hb hRt (nar_int _) hlocks (Nat.le_of_ble_eq_true rfl) (Nat.le_of_ble_eq_true rfl) hP9 hD9 hS d_M_port_64 ?_
              exact ⟨0, 2, ppo, pfr, rfl, rfl, rfr, (by first | exact Or.inl ⟨by omega, rfl, rfl, rfl⟩ | exact Or.inr (Or.inl ⟨by omega, by omega, by omega, h8, rfl, rfl, rfl⟩))⟩
    · skip
      refine lv_iconst (v := iI 1) hx hb d_M_port_22 rfl ?_
      refine lv_goto (tgt := 53) hx hb d_M_port_23 (by decide) ?_
      refine va_put (D := G) (ci := 4) (v := .int (iI 1)) (ty := .int) (C := R_M) (T := T_M) (N := 16) hx hb hg iw_M ty_M ty_M_ok nm_M hown hE.1 hP hD hS 0 rfl rfl 1 (by decide) (hg _ fl_M_48) (fun _ h9 => h9) rfl (by decide +kernel) rfl rfl (Nat.le_of_ble_eq_true rfl) d_M_port_53 (fun H locs hP hD hS => ?_)
      have hP : va_P G cls0 [(w 0, .inr (4, [.int (iI it), .int (iI 1), .int (iI now), .ref (w 1), .ref (w 2), .int (iI gr), .int (iI md), .ref (w 3), .ref (w 4), .ref (w 5), .ref (w 6), .ref (w 7), .ref (w 8), .int (iI dO), .ref (w 9), .ref (w 10)])), (w 1, .inl (z.1, 64, .inl (aI ppo))), (w 2, .inl (z.2.1, 4096, .inl (aI pfr)))] H := hP
      have hD : va_D A [(w 0, .inr (4, [.int (iI it), .int (iI 1), .int (iI now), .ref (w 1), .ref (w 2), .int (iI gr), .int (iI md), .ref (w 3), .ref (w 4), .ref (w 5), .ref (w 6), .ref (w 7), .ref (w 8), .int (iI dO), .ref (w 9), .ref (w 10)])), (w 1, .inl (z.1, 64, .inl (aI ppo))), (w 2, .inl (z.2.1, 4096, .inl (aI pfr)))] := hD
      refine lv_aload_n hx hb d_M_port_56 rfl (lv_at hl 0 rfl) ?_
      refine va_get (D := G) (ci := 4) (v := .int (iI 1)) (C := R_M) (T := T_M) (N := 16) hx hb hg iw_M hown hE.1 hP 0 rfl rfl 1 (by decide) (hg _ fl_M_48) (fun _ h9 => h9) rfl d_M_port_57 ?_
      refine rv_if_le (tgt := 65) hx hb d_M_port_60 (by decide) ⟨by decide, by decide⟩ (fun c_21 => ?_) (fun c_21 => ?_)
      · exact absurd c_21 (by decide)
      · skip
        refine lv_iconst (v := iI 0) hx hb d_M_port_63 rfl ?_
        have hP9 : va_P G cls0 [(w 0, .inr (4, [.int (iI it), .int (iI 1), .int (iI now), .ref (w 1), .ref (w 2), .int (iI gr), .int (iI md), .ref (w 3), .ref (w 4), .ref (w 5), .ref (w 6), .ref (w 7), .ref (w 8), .int (iI dO), .ref (w 9), .ref (w 10)])), (w 1, .inl (z.1, 64, .inl (aI ppo))), (w 2, .inl (z.2.1, 4096, .inl (aI pfr)))] H := hP.sub [0, 1, 2] rfl
        have hD9 : va_D A [(w 0, .inr (4, [.int (iI it), .int (iI 1), .int (iI now), .ref (w 1), .ref (w 2), .int (iI gr), .int (iI md), .ref (w 3), .ref (w 4), .ref (w 5), .ref (w 6), .ref (w 7), .ref (w 8), .int (iI dO), .ref (w 9), .ref (w 10)])), (w 1, .inl (z.1, 64, .inl (aI ppo))), (w 2, .inl (z.2.1, 4096, .inl (aI pfr)))] := hD.sub [0, 1, 2] (by decide) rfl
        refine rv_iret hx hb hRt (nar_int _) hlocks (Nat.le_of_ble_eq_true rfl) (Nat.le_of_ble_eq_true rfl) hP9 hD9 hS d_M_port_64 ?_
        exact ⟨0, 1, ppo, pfr, rfl, rfl, rfr, (by first | exact Or.inl ⟨by omega, rfl, rfl, rfl⟩ | exact Or.inr (Or.inl ⟨by omega, by omega, by omega, h8, rfl, rfl, rfl⟩))⟩
set_option maxHeartbeats 4000000 in
set_option maxRecDepth 100000 in
theorem k_M_friend (l : Launch) (G : va_G) (z : tz3) (w : Nat → Nat) (it : Int) (cd : Int) (now : Int) (gr : Int) (md : Int) (dO : Int) (ppo : Int → Int) (pfr : Int → Int) (router : Int) (net : Int) (iz : Int) (rpo : ∀ i : Int, 0 ≤ ppo i ∧ ppo i ≤ 1000) (rfr : ∀ i : Int, 0 ≤ pfr i ∧ pfr i ≤ 1) (hrr : inR router) (hnn : inR net) (hiz : iz = 0 ∨ iz = 1) (hit : 0 ≤ it ∧ it < 64) : Ki l y_M_friend c_M_friend 5 (some .boolean) (rmD 1) G z [.ref (w 0), .int (iI router), .int (iI net), .int (iI iz)] [(w 0, .inr (4, [.int (iI it), .int (iI cd), .int (iI now), .ref (w 1), .ref (w 2), .int (iI gr), .int (iI md), .ref (w 3), .ref (w 4), .ref (w 5), .ref (w 6), .ref (w 7), .ref (w 8), .int (iI dO), .ref (w 9), .ref (w 10)])), (w 1, .inl (z.1, 64, .inl (aI ppo))), (w 2, .inl (z.2.1, 4096, .inl (aI pfr)))] (fun r9 u9 => ∃ (rv : Int) (c2 : Int) (gfr : Int → Int), u9 = [(w 0, .inr (4, [.int (iI it), .int (iI c2), .int (iI now), .ref (w 1), .ref (w 2), .int (iI gr), .int (iI md), .ref (w 3), .ref (w 4), .ref (w 5), .ref (w 6), .ref (w 7), .ref (w 8), .int (iI dO), .ref (w 9), .ref (w 10)])), (w 1, .inl (z.1, 64, .inl (aI ppo))), (w 2, .inl (z.2.1, 4096, .inl (aI gfr)))] ∧ r9 = iI rv ∧ ((¬ (0 ≤ router ∧ router < 64 ∧ 0 ≤ net ∧ net < 64 ∧ router ≠ it) ∧ c2 = 1 ∧ gfr = pfr) ∨ ((0 ≤ router ∧ router < 64 ∧ 0 ≤ net ∧ net < 64 ∧ router ≠ it) ∧ (ppo net = 0 ∨ (ppo net ≠ 0 ∧ iz = 1 ∧ pfr (64 * net + router) = 0 ∧ cI pfr 4096 = 16)) ∧ c2 = 2 ∧ gfr = pfr) ∨ ((0 ≤ router ∧ router < 64 ∧ 0 ≤ net ∧ net < 64 ∧ router ≠ it) ∧ ppo net ≠ 0 ∧ ¬ (iz = 1 ∧ pfr (64 * net + router) = 0 ∧ cI pfr 4096 = 16) ∧ c2 = 0 ∧ gfr = uZ pfr (64 * net + router) iz ∧ ((pfr (64 * net + router) = iz ∧ rv = 0) ∨ (pfr (64 * net + router) ≠ iz ∧ rv = 1))))) := by
  refine Ki.of (by decide) (Nat.le_of_ble_eq_true rfl) ?_
  intro p e s m below meth c A hB hP hD ls hl
  obtain ⟨hx, hb, hRt, hml, hown, hlocks, hg, hE, hA, hin⟩ := hB
  have hown : s.vm.findClass R_M = some m.cls := hown
  have hl : lv_has ls 5 [(0, .ref (w 0)), (1, .int (iI router)), (2, .int (iI net)), (3, .int (iI iz))] := hl
  obtain ⟨H, hH⟩ : ∃ H, H = s.heap := ⟨_, rfl⟩
  have hS : va_S A s.heap H [] := by rw [hH]; exact va_S.rf
  rw [← hH] at hP
  rw [← hH]
  have hP : va_P G cls0 [(w 0, .inr (4, [.int (iI it), .int (iI cd), .int (iI now), .ref (w 1), .ref (w 2), .int (iI gr), .int (iI md), .ref (w 3), .ref (w 4), .ref (w 5), .ref (w 6), .ref (w 7), .ref (w 8), .int (iI dO), .ref (w 9), .ref (w 10)])), (w 1, .inl (z.1, 64, .inl (aI ppo))), (w 2, .inl (z.2.1, 4096, .inl (aI pfr)))] H := hP
  have hD : va_D A [(w 0, .inr (4, [.int (iI it), .int (iI cd), .int (iI now), .ref (w 1), .ref (w 2), .int (iI gr), .int (iI md), .ref (w 3), .ref (w 4), .ref (w 5), .ref (w 6), .ref (w 7), .ref (w 8), .int (iI dO), .ref (w 9), .ref (w 10)])), (w 1, .inl (z.1, 64, .inl (aI ppo))), (w 2, .inl (z.2.1, 4096, .inl (aI pfr)))] := hD
  refine lv_aload_n hx hb d_M_friend_0 rfl (lv_at hl 0 rfl) ?_
  refine lv_iload_n hx hb d_M_friend_1 rfl (lv_at hl 1 rfl) ?_
  refine lv_iconst (v := iI 0) hx hb d_M_friend_2 rfl ?_
  refine lv_bipush (v := iI 63) hx hb d_M_friend_3 (by decide +kernel) ?_
  refine qS_i (As := [.int (iI router), .int (iI 0), .int (iI 63)]) (rest := [.ref (w 0)]) (wr := [(w 0, .inr (4, [.int (iI it), .int (iI cd), .int (iI now), .ref (w 1), .ref (w 2), .int (iI gr), .int (iI md), .ref (w 3), .ref (w 4), .ref (w 5), .ref (w 6), .ref (w 7), .ref (w 8), .int (iI dO), .ref (w 9), .ref (w 10)])), (w 1, .inl (z.1, 64, .inl (aI ppo))), (w 2, .inl (z.2.1, 4096, .inl (aI pfr)))]) hx hb hml hown hg hE hA hS hP hD (k_M_in l G z router 0 63 (by omega) (by omega) (by omega)) [] [0, 1, 2] rfl rfl (by decide) (by decide) (by decide) ml_M_51 st_M_in in_M co_M_in ok_M_in ⟨Nat.le_of_ble_eq_true rfl, Nat.le_of_ble_eq_true rfl⟩ hl.1 rfl (Nat.le_of_ble_eq_true rfl) d_M_friend_5 ⟨Nat.le_of_ble_eq_true rfl, Nat.le_of_ble_eq_true rfl⟩ (fun r9 u9 H locs hw hP hD hS => ?_)
  obtain ⟨rb_1, rfl, rfl, fb_2⟩ := hw
  have hP : va_P G cls0 [(w 0, .inr (4, [.int (iI it), .int (iI cd), .int (iI now), .ref (w 1), .ref (w 2), .int (iI gr), .int (iI md), .ref (w 3), .ref (w 4), .ref (w 5), .ref (w 6), .ref (w 7), .ref (w 8), .int (iI dO), .ref (w 9), .ref (w 10)])), (w 1, .inl (z.1, 64, .inl (aI ppo))), (w 2, .inl (z.2.1, 4096, .inl (aI pfr)))] H := hP
  have hD : va_D A [(w 0, .inr (4, [.int (iI it), .int (iI cd), .int (iI now), .ref (w 1), .ref (w 2), .int (iI gr), .int (iI md), .ref (w 3), .ref (w 4), .ref (w 5), .ref (w 6), .ref (w 7), .ref (w 8), .int (iI dO), .ref (w 9), .ref (w 10)])), (w 1, .inl (z.1, 64, .inl (aI ppo))), (w 2, .inl (z.2.1, 4096, .inl (aI pfr)))] := hD
  refine rv_if_eq (tgt := 29) hx hb d_M_friend_8 (by decide) (by constructor <;> omega) (fun c_3 => ?_) (fun c_3 => ?_)
  · skip
    refine lv_iconst (v := iI 1) hx hb d_M_friend_29 rfl ?_
    refine lv_goto (tgt := 34) hx hb d_M_friend_30 (by decide) ?_
    refine va_put (D := G) (ci := 4) (v := .int (iI 1)) (ty := .int) (C := R_M) (T := T_M) (N := 16) hx hb hg iw_M ty_M ty_M_ok nm_M hown hE.1 hP hD hS 0 rfl rfl 1 (by decide) (hg _ fl_M_48) (fun _ h9 => h9) rfl (by decide +kernel) rfl rfl (Nat.le_of_ble_eq_true rfl) d_M_friend_34 (fun H locs hP hD hS => ?_)
    have hP : va_P G cls0 [(w 0, .inr (4, [.int (iI it), .int (iI 1), .int (iI now), .ref (w 1), .ref (w 2), .int (iI gr), .int (iI md), .ref (w 3), .ref (w 4), .ref (w 5), .ref (w 6), .ref (w 7), .ref (w 8), .int (iI dO), .ref (w 9), .ref (w 10)])), (w 1, .inl (z.1, 64, .inl (aI ppo))), (w 2, .inl (z.2.1, 4096, .inl (aI pfr)))] H := hP
    have hD : va_D A [(w 0, .inr (4, [.int (iI it), .int (iI 1), .int (iI now), .ref (w 1), .ref (w 2), .int (iI gr), .int (iI md), .ref (w 3), .ref (w 4), .ref (w 5), .ref (w 6), .ref (w 7), .ref (w 8), .int (iI dO), .ref (w 9), .ref (w 10)])), (w 1, .inl (z.1, 64, .inl (aI ppo))), (w 2, .inl (z.2.1, 4096, .inl (aI pfr)))] := hD
    refine lv_aload_n hx hb d_M_friend_37 rfl (lv_at hl 0 rfl) ?_
    refine va_get (D := G) (ci := 4) (v := .int (iI 1)) (C := R_M) (T := T_M) (N := 16) hx hb hg iw_M hown hE.1 hP 0 rfl rfl 1 (by decide) (hg _ fl_M_48) (fun _ h9 => h9) rfl d_M_friend_38 ?_
    refine rv_if_le (tgt := 46) hx hb d_M_friend_41 (by decide) ⟨by decide, by decide⟩ (fun c_4 => ?_) (fun c_4 => ?_)
    · exact absurd c_4 (by decide)
    · skip
      refine lv_iconst (v := iI 0) hx hb d_M_friend_44 rfl ?_
      have hP9 : va_P G cls0 [(w 0, .inr (4, [.int (iI it), .int (iI 1), .int (iI now), .ref (w 1), .ref (w 2), .int (iI gr), .int (iI md), .ref (w 3), .ref (w 4), .ref (w 5), .ref (w 6), .ref (w 7), .ref (w 8), .int (iI dO), .ref (w 9), .ref (w 10)])), (w 1, .inl (z.1, 64, .inl (aI ppo))), (w 2, .inl (z.2.1, 4096, .inl (aI pfr)))] H := hP.sub [0, 1, 2] rfl
      have hD9 : va_D A [(w 0, .inr (4, [.int (iI it), .int (iI 1), .int (iI now), .ref (w 1), .ref (w 2), .int (iI gr), .int (iI md), .ref (w 3), .ref (w 4), .ref (w 5), .ref (w 6), .ref (w 7), .ref (w 8), .int (iI dO), .ref (w 9), .ref (w 10)])), (w 1, .inl (z.1, 64, .inl (aI ppo))), (w 2, .inl (z.2.1, 4096, .inl (aI pfr)))] := hD.sub [0, 1, 2] (by decide) rfl
      refine rv_iret hx hb hRt nar_b0 hlocks (Nat.le_of_ble_eq_true rfl) (Nat.le_of_ble_eq_true rfl) hP9 hD9 hS d_M_friend_45 ?_
      exact ⟨0, 1, pfr, rfl, rfl, (Or.inl ⟨by omega, rfl, rfl⟩)⟩
  · skip
    refine lv_iload_n hx hb d_M_friend_11 rfl (lv_at hl 2 rfl) ?_
    refine lv_iconst (v := iI 0) hx hb d_M_friend_12 rfl ?_
    refine lv_bipush (v := iI 63) hx hb d_M_friend_13 (by decide +kernel) ?_
    refine qS_i (As := [.int (iI net), .int (iI 0), .int (iI 63)]) (rest := [.ref (w 0)]) (wr := [(w 0, .inr (4, [.int (iI it), .int (iI cd), .int (iI now), .ref (w 1), .ref (w 2), .int (iI gr), .int (iI md), .ref (w 3), .ref (w 4), .ref (w 5), .ref (w 6), .ref (w 7), .ref (w 8), .int (iI dO), .ref (w 9), .ref (w 10)])), (w 1, .inl (z.1, 64, .inl (aI ppo))), (w 2, .inl (z.2.1, 4096, .inl (aI pfr)))]) hx hb hml hown hg hE hA hS hP hD (k_M_in l G z net 0 63 (by omega) (by omega) (by omega)) [] [0, 1, 2] rfl rfl (by decide) (by decide) (by decide) ml_M_51 st_M_in in_M co_M_in ok_M_in ⟨Nat.le_of_ble_eq_true rfl, Nat.le_of_ble_eq_true rfl⟩ hl.1 rfl (Nat.le_of_ble_eq_true rfl) d_M_friend_15 ⟨Nat.le_of_ble_eq_true rfl, Nat.le_of_ble_eq_true rfl⟩ (fun r9 u9 H locs hw hP hD hS => ?_)
    obtain ⟨rb_5, rfl, rfl, fb_6⟩ := hw
    have hP : va_P G cls0 [(w 0, .inr (4, [.int (iI it), .int (iI cd), .int (iI now), .ref (w 1), .ref (w 2), .int (iI gr), .int (iI md), .ref (w 3), .ref (w 4), .ref (w 5), .ref (w 6), .ref (w 7), .ref (w 8), .int (iI dO), .ref (w 9), .ref (w 10)])), (w 1, .inl (z.1, 64, .inl (aI ppo))), (w 2, .inl (z.2.1, 4096, .inl (aI pfr)))] H := hP
    have hD : va_D A [(w 0, .inr (4, [.int (iI it), .int (iI cd), .int (iI now), .ref (w 1), .ref (w 2), .int (iI gr), .int (iI md), .ref (w 3), .ref (w 4), .ref (w 5), .ref (w 6), .ref (w 7), .ref (w 8), .int (iI dO), .ref (w 9), .ref (w 10)])), (w 1, .inl (z.1, 64, .inl (aI ppo))), (w 2, .inl (z.2.1, 4096, .inl (aI pfr)))] := hD
    refine rv_if_eq (tgt := 29) hx hb d_M_friend_18 (by decide) (by constructor <;> omega) (fun c_7 => ?_) (fun c_7 => ?_)
    · skip
      refine lv_iconst (v := iI 1) hx hb d_M_friend_29 rfl ?_
      refine lv_goto (tgt := 34) hx hb d_M_friend_30 (by decide) ?_
      refine va_put (D := G) (ci := 4) (v := .int (iI 1)) (ty := .int) (C := R_M) (T := T_M) (N := 16) hx hb hg iw_M ty_M ty_M_ok nm_M hown hE.1 hP hD hS 0 rfl rfl 1 (by decide) (hg _ fl_M_48) (fun _ h9 => h9) rfl (by decide +kernel) rfl rfl (Nat.le_of_ble_eq_true rfl) d_M_friend_34 (fun H locs hP hD hS => ?_)
      have hP : va_P G cls0 [(w 0, .inr (4, [.int (iI it), .int (iI 1), .int (iI now), .ref (w 1), .ref (w 2), .int (iI gr), .int (iI md), .ref (w 3), .ref (w 4), .ref (w 5), .ref (w 6), .ref (w 7), .ref (w 8), .int (iI dO), .ref (w 9), .ref (w 10)])), (w 1, .inl (z.1, 64, .inl (aI ppo))), (w 2, .inl (z.2.1, 4096, .inl (aI pfr)))] H := hP
      have hD : va_D A [(w 0, .inr (4, [.int (iI it), .int (iI 1), .int (iI now), .ref (w 1), .ref (w 2), .int (iI gr), .int (iI md), .ref (w 3), .ref (w 4), .ref (w 5), .ref (w 6), .ref (w 7), .ref (w 8), .int (iI dO), .ref (w 9), .ref (w 10)])), (w 1, .inl (z.1, 64, .inl (aI ppo))), (w 2, .inl (z.2.1, 4096, .inl (aI pfr)))] := hD
      refine lv_aload_n hx hb d_M_friend_37 rfl (lv_at hl 0 rfl) ?_
      refine va_get (D := G) (ci := 4) (v := .int (iI 1)) (C := R_M) (T := T_M) (N := 16) hx hb hg iw_M hown hE.1 hP 0 rfl rfl 1 (by decide) (hg _ fl_M_48) (fun _ h9 => h9) rfl d_M_friend_38 ?_
      refine rv_if_le (tgt := 46) hx hb d_M_friend_41 (by decide) ⟨by decide, by decide⟩ (fun c_8 => ?_) (fun c_8 => ?_)
      · exact absurd c_8 (by decide)
      · skip
        refine lv_iconst (v := iI 0) hx hb d_M_friend_44 rfl ?_
        have hP9 : va_P G cls0 [(w 0, .inr (4, [.int (iI it), .int (iI 1), .int (iI now), .ref (w 1), .ref (w 2), .int (iI gr), .int (iI md), .ref (w 3), .ref (w 4), .ref (w 5), .ref (w 6), .ref (w 7), .ref (w 8), .int (iI dO), .ref (w 9), .ref (w 10)])), (w 1, .inl (z.1, 64, .inl (aI ppo))), (w 2, .inl (z.2.1, 4096, .inl (aI pfr)))] H := hP.sub [0, 1, 2] rfl
        have hD9 : va_D A [(w 0, .inr (4, [.int (iI it), .int (iI 1), .int (iI now), .ref (w 1), .ref (w 2), .int (iI gr), .int (iI md), .ref (w 3), .ref (w 4), .ref (w 5), .ref (w 6), .ref (w 7), .ref (w 8), .int (iI dO), .ref (w 9), .ref (w 10)])), (w 1, .inl (z.1, 64, .inl (aI ppo))), (w 2, .inl (z.2.1, 4096, .inl (aI pfr)))] := hD.sub [0, 1, 2] (by decide) rfl
        refine rv_iret hx hb hRt nar_b0 hlocks (Nat.le_of_ble_eq_true rfl) (Nat.le_of_ble_eq_true rfl) hP9 hD9 hS d_M_friend_45 ?_
        exact ⟨0, 1, pfr, rfl, rfl, (Or.inl ⟨by omega, rfl, rfl⟩)⟩
    · skip
      refine lv_iload_n hx hb d_M_friend_21 rfl (lv_at hl 1 rfl) ?_
      refine lv_aload_n hx hb d_M_friend_22 rfl (lv_at hl 0 rfl) ?_
      refine va_get (D := G) (ci := 4) (v := .int (iI it)) (C := R_M) (T := T_M) (N := 16) hx hb hg iw_M hown hE.1 hP 0 rfl rfl 0 (by decide) (hg _ fl_M_45) (fun _ h9 => h9) rfl d_M_friend_23 ?_
      refine rv_icmp_ne (tgt := 33) hx hb d_M_friend_26 (by decide) (by constructor <;> omega) (by constructor <;> omega) (fun c_9 => ?_) (fun c_9 => ?_)
      · skip
        refine lv_iconst (v := iI 0) hx hb d_M_friend_33 rfl ?_
        refine va_put (D := G) (ci := 4) (v := .int (iI 0)) (ty := .int) (C := R_M) (T := T_M) (N := 16) hx hb hg iw_M ty_M ty_M_ok nm_M hown hE.1 hP hD hS 0 rfl rfl 1 (by decide) (hg _ fl_M_48) (fun _ h9 => h9) rfl (by decide +kernel) rfl rfl (Nat.le_of_ble_eq_true rfl) d_M_friend_34 (fun H locs hP hD hS => ?_)
        have hP : va_P G cls0 [(w 0, .inr (4, [.int (iI it), .int (iI 0), .int (iI now), .ref (w 1), .ref (w 2), .int (iI gr), .int (iI md), .ref (w 3), .ref (w 4), .ref (w 5), .ref (w 6), .ref (w 7), .ref (w 8), .int (iI dO), .ref (w 9), .ref (w 10)])), (w 1, .inl (z.1, 64, .inl (aI ppo))), (w 2, .inl (z.2.1, 4096, .inl (aI pfr)))] H := hP
        have hD : va_D A [(w 0, .inr (4, [.int (iI it), .int (iI 0), .int (iI now), .ref (w 1), .ref (w 2), .int (iI gr), .int (iI md), .ref (w 3), .ref (w 4), .ref (w 5), .ref (w 6), .ref (w 7), .ref (w 8), .int (iI dO), .ref (w 9), .ref (w 10)])), (w 1, .inl (z.1, 64, .inl (aI ppo))), (w 2, .inl (z.2.1, 4096, .inl (aI pfr)))] := hD
        refine lv_aload_n hx hb d_M_friend_37 rfl (lv_at hl 0 rfl) ?_
        refine va_get (D := G) (ci := 4) (v := .int (iI 0)) (C := R_M) (T := T_M) (N := 16) hx hb hg iw_M hown hE.1 hP 0 rfl rfl 1 (by decide) (hg _ fl_M_48) (fun _ h9 => h9) rfl d_M_friend_38 ?_
        refine rv_if_le (tgt := 46) hx hb d_M_friend_41 (by decide) ⟨by decide, by decide⟩ (fun c_10 => ?_) (fun c_10 => ?_)
        · skip
          refine lv_aload_n hx hb d_M_friend_46 rfl (lv_at hl 0 rfl) ?_
          refine va_get (D := G) (ci := 4) (v := .ref (w 2)) (C := R_M) (T := T_M) (N := 16) hx hb hg iw_M hown hE.1 hP 0 rfl rfl 4 (by decide) (hg _ fl_M_13) (fun _ h9 => h9) rfl d_M_friend_47 ?_
          refine lv_bipush (v := iI 64) hx hb d_M_friend_50 (by decide +kernel) ?_
          refine lv_iload_n hx hb d_M_friend_52 rfl (lv_at hl 2 rfl) ?_
          refine rv_imul hx hb d_M_friend_53 ?_
          refine lv_iload_n hx hb d_M_friend_54 rfl (lv_at hl 1 rfl) ?_
          refine rv_iadd hx hb d_M_friend_55 ?_
          refine rv_zald hx hb hE hP 2 rfl (i := (64 * net) + router) (by omega) (by omega) (by decide) d_M_friend_56 ?_
          refine lv_istore (lv' := [(4, .int (iI (pfr ((64 * net) + router)))), (0, .ref (w 0)), (1, .int (iI router)), (2, .int (iI net)), (3, .int (iI iz))]) hx hb d_M_friend_57 hl (by decide) rfl (fun ls hl => ?_)
          refine lv_aload_n hx hb d_M_friend_59 rfl (lv_at hl 1 rfl) ?_
          refine lv_aload_n hx hb d_M_friend_60 rfl (lv_at hl 1 rfl) ?_
          refine va_get (D := G) (ci := 4) (v := .ref (w 1)) (C := R_M) (T := T_M) (N := 16) hx hb hg iw_M hown hE.1 hP 0 rfl rfl 3 (by decide) (hg _ fl_M_7) (fun _ h9 => h9) rfl d_M_friend_61 ?_
          refine lv_iload_n hx hb d_M_friend_64 rfl (lv_at hl 3 rfl) ?_
          refine rv_iald hx hb hE hP 1 rfl (i := net) (by omega) (by omega) (by decide) d_M_friend_65 ?_
          refine rv_if_eq (tgt := 87) hx hb d_M_friend_66 (by decide) (by (try have := rpo net); constructor <;> omega) (fun c_11 => ?_) (fun c_11 => ?_)
          · skip
            have hw2 : ppo net = 0 ∨ (ppo net ≠ 0 ∧ iz = 1 ∧ pfr (64 * net + router) = 0 ∧ cI pfr 4096 = 16) := Or.inl c_11
            refine lv_iconst (v := iI 2) hx hb d_M_friend_87 rfl ?_
            refine lv_goto (tgt := 92) hx hb d_M_friend_88 (by decide) ?_
            refine va_put (D := G) (ci := 4) (v := .int (iI 2)) (ty := .int) (C := R_M) (T := T_M) (N := 16) hx hb hg iw_M ty_M ty_M_ok nm_M hown hE.1 hP hD hS 0 rfl rfl 1 (by decide) (hg _ fl_M_48) (fun _ h9 => h9) rfl (by decide +kernel) rfl rfl (Nat.le_of_ble_eq_true rfl) d_M_friend_92 (fun H locs hP hD hS => ?_)
            have hP : va_P G cls0 [(w 0, .inr (4, [.int (iI it), .int (iI 2), .int (iI now), .ref (w 1), .ref (w 2), .int (iI gr), .int (iI md), .ref (w 3), .ref (w 4), .ref (w 5), .ref (w 6), .ref (w 7), .ref (w 8), .int (iI dO), .ref (w 9), .ref (w 10)])), (w 1, .inl (z.1, 64, .inl (aI ppo))), (w 2, .inl (z.2.1, 4096, .inl (aI pfr)))] H := hP
            have hD : va_D A [(w 0, .inr (4, [.int (iI it), .int (iI 2), .int (iI now), .ref (w 1), .ref (w 2), .int (iI gr), .int (iI md), .ref (w 3), .ref (w 4), .ref (w 5), .ref (w 6), .ref (w 7), .ref (w 8), .int (iI dO), .ref (w 9), .ref (w 10)])), (w 1, .inl (z.1, 64, .inl (aI ppo))), (w 2, .inl (z.2.1, 4096, .inl (aI pfr)))] := hD
            refine lv_aload_n hx hb d_M_friend_95 rfl (lv_at hl 1 rfl) ?_
            refine va_get (D := G) (ci := 4) (v := .int (iI 2)) (C := R_M) (T := T_M) (N := 16) hx hb hg iw_M hown hE.1 hP 0 rfl rfl 1 (by decide) (hg _ fl_M_48) (fun _ h9 => h9) rfl d_M_friend_96 ?_
            refine rv_if_le (tgt := 104) hx hb d_M_friend_99 (by decide) ⟨by decide, by decide⟩ (fun c_12 => ?_) (fun c_12 => ?_)
            · exact absurd c_12 (by decide)
            · skip
              refine lv_iconst (v := iI 0) hx hb d_M_friend_102 rfl ?_
              have hP9 : va_P G cls0 [(w 0, .inr (4, [.int (iI it), .int (iI 2), .int (iI now), .ref (w 1), .ref (w 2), .int (iI gr), .int (iI md), .ref (w 3), .ref (w 4), .ref (w 5), .ref (w 6), .ref (w 7), .ref (w 8), .int (iI dO), .ref (w 9), .ref (w 10)])), (w 1, .inl (z.1, 64, .inl (aI ppo))), (w 2, .inl (z.2.1, 4096, .inl (aI pfr)))] H := hP.sub [0, 1, 2] rfl
              have hD9 : va_D A [(w 0, .inr (4, [.int (iI it), .int (iI 2), .int (iI now), .ref (w 1), .ref (w 2), .int (iI gr), .int (iI md), .ref (w 3), .ref (w 4), .ref (w 5), .ref (w 6), .ref (w 7), .ref (w 8), .int (iI dO), .ref (w 9), .ref (w 10)])), (w 1, .inl (z.1, 64, .inl (aI ppo))), (w 2, .inl (z.2.1, 4096, .inl (aI pfr)))] := hD.sub [0, 1, 2] (by decide) rfl
              refine rv_iret hx hb hRt nar_b0 hlocks (Nat.le_of_ble_eq_true rfl) (Nat.le_of_ble_eq_true rfl) hP9 hD9 hS d_M_friend_103 ?_
              exact ⟨0, 2, pfr, rfl, rfl, (Or.inr (Or.inl ⟨by omega, hw2, rfl, rfl⟩))⟩
          · skip
            refine lv_iload_n hx hb d_M_friend_69 rfl (lv_at hl 4 rfl) ?_
            refine rv_if_eq (tgt := 91) hx hb d_M_friend_70 (by decide) (by constructor <;> omega) (fun c_13 => ?_) (fun c_13 => ?_)
            · skip
              have hw0 : ¬ (iz = 1 ∧ pfr (64 * net + router) = 0 ∧ cI pfr 4096 = 16) := fun q => by omega
              refine lv_iconst (v := iI 0) hx hb d_M_friend_91 rfl ?_
              refine va_put (D := G) (ci := 4) (v := .int (iI 0)) (ty := .int) (C := R_M) (T := T_M) (N := 16) hx hb hg iw_M ty_M ty_M_ok nm_M hown hE.1 hP hD hS 0 rfl rfl 1 (by decide) (hg _ fl_M_48) (fun _ h9 => h9) rfl (by decide +kernel) rfl rfl (Nat.le_of_ble_eq_true rfl) d_M_friend_92 (fun H locs hP hD hS => ?_)
              have hP : va_P G cls0 [(w 0, .inr (4, [.int (iI it), .int (iI 0), .int (iI now), .ref (w 1), .ref (w 2), .int (iI gr), .int (iI md), .ref (w 3), .ref (w 4), .ref (w 5), .ref (w 6), .ref (w 7), .ref (w 8), .int (iI dO), .ref (w 9), .ref (w 10)])), (w 1, .inl (z.1, 64, .inl (aI ppo))), (w 2, .inl (z.2.1, 4096, .inl (aI pfr)))] H := hP
              have hD : va_D A [(w 0, .inr (4, [.int (iI it), .int (iI 0), .int (iI now), .ref (w 1), .ref (w 2), .int (iI gr), .int (iI md), .ref (w 3), .ref (w 4), .ref (w 5), .ref (w 6), .ref (w 7), .ref (w 8), .int (iI dO), .ref (w 9), .ref (w 10)])), (w 1, .inl (z.1, 64, .inl (aI ppo))), (w 2, .inl (z.2.1, 4096, .inl (aI pfr)))] := hD
              refine lv_aload_n hx hb d_M_friend_95 rfl (lv_at hl 1 rfl) ?_
              refine va_get (D := G) (ci := 4) (v := .int (iI 0)) (C := R_M) (T := T_M) (N := 16) hx hb hg iw_M hown hE.1 hP 0 rfl rfl 1 (by decide) (hg _ fl_M_48) (fun _ h9 => h9) rfl d_M_friend_96 ?_
              refine rv_if_le (tgt := 104) hx hb d_M_friend_99 (by decide) ⟨by decide, by decide⟩ (fun c_14 => ?_) (fun c_14 => ?_)
              · skip
                refine lv_aload_n hx hb d_M_friend_104 rfl (lv_at hl 1 rfl) ?_
                refine va_get (D := G) (ci := 4) (v := .ref (w 2)) (C := R_M) (T := T_M) (N := 16) hx hb hg iw_M hown hE.1 hP 0 rfl rfl 4 (by decide) (hg _ fl_M_13) (fun _ h9 => h9) rfl d_M_friend_105 ?_
                refine lv_bipush (v := iI 64) hx hb d_M_friend_108 (by decide +kernel) ?_
                refine lv_iload_n hx hb d_M_friend_110 rfl (lv_at hl 3 rfl) ?_
                refine rv_imul hx hb d_M_friend_111 ?_
                refine lv_iload_n hx hb d_M_friend_112 rfl (lv_at hl 2 rfl) ?_
                refine rv_iadd hx hb d_M_friend_113 ?_
                refine lv_iload_n hx hb d_M_friend_114 rfl (lv_at hl 4 rfl) ?_
                refine rv_zast hx hb hE hP hD hS 2 rfl (i := (64 * net) + router) (x := iz) (by omega) (by omega) (by decide) (by omega) d_M_friend_115 (fun H locs hP hD hS => ?_)
                have hP : va_P G cls0 [(w 0, .inr (4, [.int (iI it), .int (iI 0), .int (iI now), .ref (w 1), .ref (w 2), .int (iI gr), .int (iI md), .ref (w 3), .ref (w 4), .ref (w 5), .ref (w 6), .ref (w 7), .ref (w 8), .int (iI dO), .ref (w 9), .ref (w 10)])), (w 1, .inl (z.1, 64, .inl (aI ppo))), (w 2, .inl (z.2.1, 4096, .inl (aI (uZ pfr ((64 * net) + router) iz))))] H := hP
                have hD : va_D A [(w 0, .inr (4, [.int (iI it), .int (iI 0), .int (iI now), .ref (w 1), .ref (w 2), .int (iI gr), .int (iI md), .ref (w 3), .ref (w 4), .ref (w 5), .ref (w 6), .ref (w 7), .ref (w 8), .int (iI dO), .ref (w 9), .ref (w 10)])), (w 1, .inl (z.1, 64, .inl (aI ppo))), (w 2, .inl (z.2.1, 4096, .inl (aI (uZ pfr ((64 * net) + router) iz))))] := hD
                refine lv_iload hx hb d_M_friend_116 (lv_at hl 0 rfl) ?_
                refine lv_iload_n hx hb d_M_friend_118 rfl (lv_at hl 4 rfl) ?_
                refine rv_icmp_eq (tgt := 126) hx hb d_M_friend_119 (by decide) (by (try have := rfr ((64 * net) + router)); constructor <;> omega) (by constructor <;> omega) (fun c_15 => ?_) (fun c_15 => ?_)
                · skip
                  refine lv_iconst (v := iI 0) hx hb d_M_friend_126 rfl ?_
                  have hP9 : va_P G cls0 [(w 0, .inr (4, [.int (iI it), .int (iI 0), .int (iI now), .ref (w 1), .ref (w 2), .int (iI gr), .int (iI md), .ref (w 3), .ref (w 4), .ref (w 5), .ref (w 6), .ref (w 7), .ref (w 8), .int (iI dO), .ref (w 9), .ref (w 10)])), (w 1, .inl (z.1, 64, .inl (aI ppo))), (w 2, .inl (z.2.1, 4096, .inl (aI (uZ pfr ((64 * net) + router) iz))))] H := hP.sub [0, 1, 2] rfl
                  have hD9 : va_D A [(w 0, .inr (4, [.int (iI it), .int (iI 0), .int (iI now), .ref (w 1), .ref (w 2), .int (iI gr), .int (iI md), .ref (w 3), .ref (w 4), .ref (w 5), .ref (w 6), .ref (w 7), .ref (w 8), .int (iI dO), .ref (w 9), .ref (w 10)])), (w 1, .inl (z.1, 64, .inl (aI ppo))), (w 2, .inl (z.2.1, 4096, .inl (aI (uZ pfr ((64 * net) + router) iz))))] := hD.sub [0, 1, 2] (by decide) rfl
                  refine rv_iret hx hb hRt nar_b0 hlocks (Nat.le_of_ble_eq_true rfl) (Nat.le_of_ble_eq_true rfl) hP9 hD9 hS d_M_friend_127 ?_
                  exact ⟨0, 0, (uZ pfr ((64 * net) + router) iz), rfl, rfl, (Or.inr (Or.inr ⟨by omega, by omega, hw0, rfl, rfl, by omega⟩))⟩
                · skip
                  refine lv_iconst (v := iI 1) hx hb d_M_friend_122 rfl ?_
                  refine lv_goto (tgt := 127) hx hb d_M_friend_123 (by decide) ?_
                  have hP9 : va_P G cls0 [(w 0, .inr (4, [.int (iI it), .int (iI 0), .int (iI now), .ref (w 1), .ref (w 2), .int (iI gr), .int (iI md), .ref (w 3), .ref (w 4), .ref (w 5), .ref (w 6), .ref (w 7), .ref (w 8), .int (iI dO), .ref (w 9), .ref (w 10)])), (w 1, .inl (z.1, 64, .inl (aI ppo))), (w 2, .inl (z.2.1, 4096, .inl (aI (uZ pfr ((64 * net) + router) iz))))] H := hP.sub [0, 1, 2] rfl
                  have hD9 : va_D A [(w 0, .inr (4, [.int (iI it), .int (iI 0), .int (iI now), .ref (w 1), .ref (w 2), .int (iI gr), .int (iI md), .ref (w 3), .ref (w 4), .ref (w 5), .ref (w 6), .ref (w 7), .ref (w 8), .int (iI dO), .ref (w 9), .ref (w 10)])), (w 1, .inl (z.1, 64, .inl (aI ppo))), (w 2, .inl (z.2.1, 4096, .inl (aI (uZ pfr ((64 * net) + router) iz))))] := hD.sub [0, 1, 2] (by decide) rfl
                  refine rv_iret hx hb hRt nar_b1 hlocks (Nat.le_of_ble_eq_true rfl) (Nat.le_of_ble_eq_true rfl) hP9 hD9 hS d_M_friend_127 ?_
                  exact ⟨1, 0, (uZ pfr ((64 * net) + router) iz), rfl, rfl, (Or.inr (Or.inr ⟨by omega, by omega, hw0, rfl, rfl, by omega⟩))⟩
              · exact absurd c_14 (by decide)
            · skip
              refine lv_iload hx hb d_M_friend_73 (lv_at hl 0 rfl) ?_
              refine rv_if_ne (tgt := 91) hx hb d_M_friend_75 (by decide) (by (try have := rfr ((64 * net) + router)); constructor <;> omega) (fun c_16 => ?_) (fun c_16 => ?_)
              · skip
                have hw0 : ¬ (iz = 1 ∧ pfr (64 * net + router) = 0 ∧ cI pfr 4096 = 16) := fun q => by omega
                refine lv_iconst (v := iI 0) hx hb d_M_friend_91 rfl ?_
                refine va_put (D := G) (ci := 4) (v := .int (iI 0)) (ty := .int) (C := R_M) (T := T_M) (N := 16) hx hb hg iw_M ty_M ty_M_ok nm_M hown hE.1 hP hD hS 0 rfl rfl 1 (by decide) (hg _ fl_M_48) (fun _ h9 => h9) rfl (by decide +kernel) rfl rfl (Nat.le_of_ble_eq_true rfl) d_M_friend_92 (fun H locs hP hD hS => ?_)
                have hP : va_P G cls0 [(w 0, .inr (4, [.int (iI it), .int (iI 0), .int (iI now), .ref (w 1), .ref (w 2), .int (iI gr), .int (iI md), .ref (w 3), .ref (w 4), .ref (w 5), .ref (w 6), .ref (w 7), .ref (w 8), .int (iI dO), .ref (w 9), .ref (w 10)])), (w 1, .inl (z.1, 64, .inl (aI ppo))), (w 2, .inl (z.2.1, 4096, .inl (aI pfr)))] H := hP
                have hD : va_D A [(w 0, .inr (4, [.int (iI it), .int (iI 0), .int (iI now), .ref (w 1), .ref (w 2), .int (iI gr), .int (iI md), .ref (w 3), .ref (w 4), .ref (w 5), .ref (w 6), .ref (w 7), .ref (w 8), .int (iI dO), .ref (w 9), .ref (w 10)])), (w 1, .inl (z.1, 64, .inl (aI ppo))), (w 2, .inl (z.2.1, 4096, .inl (aI pfr)))] := hD
                refine lv_aload_n hx hb d_M_friend_95 rfl (lv_at hl 1 rfl) ?_
                refine va_get (D := G) (ci := 4) (v := .int (iI 0)) (C := R_M) (T := T_M) (N := 16) hx hb hg iw_M hown hE.1 hP 0 rfl rfl 1 (by decide) (hg _ fl_M_48) (fun _ h9 => h9) rfl d_M_friend_96 ?_
                refine rv_if_le (tgt := 104) hx hb d_M_friend_99 (by decide) ⟨by decide, by decide⟩ (fun c_17 => ?_) (fun c_17 => ?_)
                · skip
                  refine lv_aload_n hx hb d_M_friend_104 rfl (lv_at hl 1 rfl) ?_
                  refine va_get (D := G) (ci := 4) (v := .ref (w 2)) (C := R_M) (T := T_M) (N := 16) hx hb hg iw_M hown hE.1 hP 0 rfl rfl 4 (by decide) (hg _ fl_M_13) (fun _ h9 => h9) rfl d_M_friend_105 ?_
                  refine lv_bipush (v := iI 64) hx hb d_M_friend_108 (by decide +kernel) ?_
                  refine lv_iload_n hx hb d_M_friend_110 rfl (lv_at hl 3 rfl) ?_
                  refine rv_imul hx hb d_M_friend_111 ?_
                  refine lv_iload_n hx hb d_M_friend_112 rfl (lv_at hl 2 rfl) ?_
                  refine rv_iadd hx hb d_M_friend_113 ?_
                  refine lv_iload_n hx hb d_M_friend_114 rfl (lv_at hl 4 rfl) ?_
                  refine rv_zast hx hb hE hP hD hS 2 rfl (i := (64 * net) + router) (x := iz) (by omega) (by omega) (by decide) (by omega) d_M_friend_115 (fun H locs hP hD hS => ?_)
                  have hP : va_P G cls0 [(w 0, .inr (4, [.int (iI it), .int (iI 0), .int (iI now), .ref (w 1), .ref (w 2), .int (iI gr), .int (iI md), .ref (w 3), .ref (w 4), .ref (w 5), .ref (w 6), .ref (w 7), .ref (w 8), .int (iI dO), .ref (w 9), .ref (w 10)])), (w 1, .inl (z.1, 64, .inl (aI ppo))), (w 2, .inl (z.2.1, 4096, .inl (aI (uZ pfr ((64 * net) + router) iz))))] H := hP
                  have hD : va_D A [(w 0, .inr (4, [.int (iI it), .int (iI 0), .int (iI now), .ref (w 1), .ref (w 2), .int (iI gr), .int (iI md), .ref (w 3), .ref (w 4), .ref (w 5), .ref (w 6), .ref (w 7), .ref (w 8), .int (iI dO), .ref (w 9), .ref (w 10)])), (w 1, .inl (z.1, 64, .inl (aI ppo))), (w 2, .inl (z.2.1, 4096, .inl (aI (uZ pfr ((64 * net) + router) iz))))] := hD
                  refine lv_iload hx hb d_M_friend_116 (lv_at hl 0 rfl) ?_
                  refine lv_iload_n hx hb d_M_friend_118 rfl (lv_at hl 4 rfl) ?_
                  refine rv_icmp_eq (tgt := 126) hx hb d_M_friend_119 (by decide) (by (try have := rfr ((64 * net) + router)); constructor <;> omega) (by constructor <;> omega) (fun c_18 => ?_) (fun c_18 => ?_)
                  · skip
                    refine lv_iconst (v := iI 0) hx hb d_M_friend_126 rfl ?_
                    have hP9 : va_P G cls0 [(w 0, .inr (4, [.int (iI it), .int (iI 0), .int (iI now), .ref (w 1), .ref (w 2), .int (iI gr), .int (iI md), .ref (w 3), .ref (w 4), .ref (w 5), .ref (w 6), .ref (w 7), .ref (w 8), .int (iI dO), .ref (w 9), .ref (w 10)])), (w 1, .inl (z.1, 64, .inl (aI ppo))), (w 2, .inl (z.2.1, 4096, .inl (aI (uZ pfr ((64 * net) + router) iz))))] H := hP.sub [0, 1, 2] rfl
                    have hD9 : va_D A [(w 0, .inr (4, [.int (iI it), .int (iI 0), .int (iI now), .ref (w 1), .ref (w 2), .int (iI gr), .int (iI md), .ref (w 3), .ref (w 4), .ref (w 5), .ref (w 6), .ref (w 7), .ref (w 8), .int (iI dO), .ref (w 9), .ref (w 10)])), (w 1, .inl (z.1, 64, .inl (aI ppo))), (w 2, .inl (z.2.1, 4096, .inl (aI (uZ pfr ((64 * net) + router) iz))))] := hD.sub [0, 1, 2] (by decide) rfl
                    refine rv_iret hx hb hRt nar_b0 hlocks (Nat.le_of_ble_eq_true rfl) (Nat.le_of_ble_eq_true rfl) hP9 hD9 hS d_M_friend_127 ?_
                    exact ⟨0, 0, (uZ pfr ((64 * net) + router) iz), rfl, rfl, (Or.inr (Or.inr ⟨by omega, by omega, hw0, rfl, rfl, by omega⟩))⟩
                  · skip
                    refine lv_iconst (v := iI 1) hx hb d_M_friend_122 rfl ?_
                    refine lv_goto (tgt := 127) hx hb d_M_friend_123 (by decide) ?_
                    have hP9 : va_P G cls0 [(w 0, .inr (4, [.int (iI it), .int (iI 0), .int (iI now), .ref (w 1), .ref (w 2), .int (iI gr), .int (iI md), .ref (w 3), .ref (w 4), .ref (w 5), .ref (w 6), .ref (w 7), .ref (w 8), .int (iI dO), .ref (w 9), .ref (w 10)])), (w 1, .inl (z.1, 64, .inl (aI ppo))), (w 2, .inl (z.2.1, 4096, .inl (aI (uZ pfr ((64 * net) + router) iz))))] H := hP.sub [0, 1, 2] rfl
                    have hD9 : va_D A [(w 0, .inr (4, [.int (iI it), .int (iI 0), .int (iI now), .ref (w 1), .ref (w 2), .int (iI gr), .int (iI md), .ref (w 3), .ref (w 4), .ref (w 5), .ref (w 6), .ref (w 7), .ref (w 8), .int (iI dO), .ref (w 9), .ref (w 10)])), (w 1, .inl (z.1, 64, .inl (aI ppo))), (w 2, .inl (z.2.1, 4096, .inl (aI (uZ pfr ((64 * net) + router) iz))))] := hD.sub [0, 1, 2] (by decide) rfl
                    refine rv_iret hx hb hRt nar_b1 hlocks (Nat.le_of_ble_eq_true rfl) (Nat.le_of_ble_eq_true rfl) hP9 hD9 hS d_M_friend_127 ?_
                    exact ⟨1, 0, (uZ pfr ((64 * net) + router) iz), rfl, rfl, (Or.inr (Or.inr ⟨by omega, by omega, hw0, rfl, rfl, by omega⟩))⟩
                · exact absurd c_17 (by decide)
              · skip
                refine lv_aload_n hx hb d_M_friend_78 rfl (lv_at hl 1 rfl) ?_
                refine qV_i (As := []) (rest := [.ref (w 0)]) (wr := [(w 1, .inl (z.1, 64, .inl (aI ppo)))]) hx hb hml hown hg hE hA hS hP hD (k_M_friendCount l G z w it 0 now gr md dO pfr (by assumption)) [0, 2] [1] rfl rfl (by decide) (by decide) (by decide) (q0 := 0) rfl rfl ml_M_59 im_M_friendCount se_M_friendCount in_M co_M_friendCount ok_M_friendCount ⟨Nat.le_of_ble_eq_true rfl, Nat.le_of_ble_eq_true rfl⟩ hl.1 rfl (Nat.le_of_ble_eq_true rfl) d_M_friend_79 ⟨Nat.le_of_ble_eq_true rfl, Nat.le_of_ble_eq_true rfl⟩ (fun r9 u9 H locs hw hP hD hS => ?_)
                obtain ⟨fc, rfl, rfl, fp0, fp1⟩ := hw
                have hP : va_P G cls0 [(w 1, .inl (z.1, 64, .inl (aI ppo))), (w 0, .inr (4, [.int (iI it), .int (iI 0), .int (iI now), .ref (w 1), .ref (w 2), .int (iI gr), .int (iI md), .ref (w 3), .ref (w 4), .ref (w 5), .ref (w 6), .ref (w 7), .ref (w 8), .int (iI dO), .ref (w 9), .ref (w 10)])), (w 2, .inl (z.2.1, 4096, .inl (aI pfr)))] H := hP
                have hD : va_D A [(w 1, .inl (z.1, 64, .inl (aI ppo))), (w 0, .inr (4, [.int (iI it), .int (iI 0), .int (iI now), .ref (w 1), .ref (w 2), .int (iI gr), .int (iI md), .ref (w 3), .ref (w 4), .ref (w 5), .ref (w 6), .ref (w 7), .ref (w 8), .int (iI dO), .ref (w 9), .ref (w 10)])), (w 2, .inl (z.2.1, 4096, .inl (aI pfr)))] := hD
                refine lv_bipush (v := iI 16) hx hb d_M_friend_82 (by decide +kernel) ?_
                refine rv_icmp_ne (tgt := 91) hx hb d_M_friend_84 (by decide) (by constructor <;> omega) ⟨by decide, by decide⟩ (fun c_19 => ?_) (fun c_19 => ?_)
                · skip
                  have hw0 : ¬ (iz = 1 ∧ pfr (64 * net + router) = 0 ∧ cI pfr 4096 = 16) := fun q => by omega
                  refine lv_iconst (v := iI 0) hx hb d_M_friend_91 rfl ?_
                  refine va_put (D := G) (ci := 4) (v := .int (iI 0)) (ty := .int) (C := R_M) (T := T_M) (N := 16) hx hb hg iw_M ty_M ty_M_ok nm_M hown hE.1 hP hD hS 1 rfl rfl 1 (by decide) (hg _ fl_M_48) (fun _ h9 => h9) rfl (by decide +kernel) rfl rfl (Nat.le_of_ble_eq_true rfl) d_M_friend_92 (fun H locs hP hD hS => ?_)
                  have hP : va_P G cls0 [(w 1, .inl (z.1, 64, .inl (aI ppo))), (w 0, .inr (4, [.int (iI it), .int (iI 0), .int (iI now), .ref (w 1), .ref (w 2), .int (iI gr), .int (iI md), .ref (w 3), .ref (w 4), .ref (w 5), .ref (w 6), .ref (w 7), .ref (w 8), .int (iI dO), .ref (w 9), .ref (w 10)])), (w 2, .inl (z.2.1, 4096, .inl (aI pfr)))] H := hP
                  have hD : va_D A [(w 1, .inl (z.1, 64, .inl (aI ppo))), (w 0, .inr (4, [.int (iI it), .int (iI 0), .int (iI now), .ref (w 1), .ref (w 2), .int (iI gr), .int (iI md), .ref (w 3), .ref (w 4), .ref (w 5), .ref (w 6), .ref (w 7), .ref (w 8), .int (iI dO), .ref (w 9), .ref (w 10)])), (w 2, .inl (z.2.1, 4096, .inl (aI pfr)))] := hD
                  refine lv_aload_n hx hb d_M_friend_95 rfl (lv_at hl 1 rfl) ?_
                  refine va_get (D := G) (ci := 4) (v := .int (iI 0)) (C := R_M) (T := T_M) (N := 16) hx hb hg iw_M hown hE.1 hP 1 rfl rfl 1 (by decide) (hg _ fl_M_48) (fun _ h9 => h9) rfl d_M_friend_96 ?_
                  refine rv_if_le (tgt := 104) hx hb d_M_friend_99 (by decide) ⟨by decide, by decide⟩ (fun c_20 => ?_) (fun c_20 => ?_)
                  · skip
                    refine lv_aload_n hx hb d_M_friend_104 rfl (lv_at hl 1 rfl) ?_
                    refine va_get (D := G) (ci := 4) (v := .ref (w 2)) (C := R_M) (T := T_M) (N := 16) hx hb hg iw_M hown hE.1 hP 1 rfl rfl 4 (by decide) (hg _ fl_M_13) (fun _ h9 => h9) rfl d_M_friend_105 ?_
                    refine lv_bipush (v := iI 64) hx hb d_M_friend_108 (by decide +kernel) ?_
                    refine lv_iload_n hx hb d_M_friend_110 rfl (lv_at hl 3 rfl) ?_
                    refine rv_imul hx hb d_M_friend_111 ?_
                    refine lv_iload_n hx hb d_M_friend_112 rfl (lv_at hl 2 rfl) ?_
                    refine rv_iadd hx hb d_M_friend_113 ?_
                    refine lv_iload_n hx hb d_M_friend_114 rfl (lv_at hl 4 rfl) ?_
                    refine rv_zast hx hb hE hP hD hS 2 rfl (i := (64 * net) + router) (x := iz) (by omega) (by omega) (by decide) (by omega) d_M_friend_115 (fun H locs hP hD hS => ?_)
                    have hP : va_P G cls0 [(w 1, .inl (z.1, 64, .inl (aI ppo))), (w 0, .inr (4, [.int (iI it), .int (iI 0), .int (iI now), .ref (w 1), .ref (w 2), .int (iI gr), .int (iI md), .ref (w 3), .ref (w 4), .ref (w 5), .ref (w 6), .ref (w 7), .ref (w 8), .int (iI dO), .ref (w 9), .ref (w 10)])), (w 2, .inl (z.2.1, 4096, .inl (aI (uZ pfr ((64 * net) + router) iz))))] H := hP
                    have hD : va_D A [(w 1, .inl (z.1, 64, .inl (aI ppo))), (w 0, .inr (4, [.int (iI it), .int (iI 0), .int (iI now), .ref (w 1), .ref (w 2), .int (iI gr), .int (iI md), .ref (w 3), .ref (w 4), .ref (w 5), .ref (w 6), .ref (w 7), .ref (w 8), .int (iI dO), .ref (w 9), .ref (w 10)])), (w 2, .inl (z.2.1, 4096, .inl (aI (uZ pfr ((64 * net) + router) iz))))] := hD
                    refine lv_iload hx hb d_M_friend_116 (lv_at hl 0 rfl) ?_
                    refine lv_iload_n hx hb d_M_friend_118 rfl (lv_at hl 4 rfl) ?_
                    refine rv_icmp_eq (tgt := 126) hx hb d_M_friend_119 (by decide) (by (try have := rfr ((64 * net) + router)); constructor <;> omega) (by constructor <;> omega) (fun c_21 => ?_) (fun c_21 => ?_)
                    · skip
                      refine lv_iconst (v := iI 0) hx hb d_M_friend_126 rfl ?_
                      have hP9 : va_P G cls0 [(w 0, .inr (4, [.int (iI it), .int (iI 0), .int (iI now), .ref (w 1), .ref (w 2), .int (iI gr), .int (iI md), .ref (w 3), .ref (w 4), .ref (w 5), .ref (w 6), .ref (w 7), .ref (w 8), .int (iI dO), .ref (w 9), .ref (w 10)])), (w 1, .inl (z.1, 64, .inl (aI ppo))), (w 2, .inl (z.2.1, 4096, .inl (aI (uZ pfr ((64 * net) + router) iz))))] H := hP.sub [1, 0, 2] rfl
                      have hD9 : va_D A [(w 0, .inr (4, [.int (iI it), .int (iI 0), .int (iI now), .ref (w 1), .ref (w 2), .int (iI gr), .int (iI md), .ref (w 3), .ref (w 4), .ref (w 5), .ref (w 6), .ref (w 7), .ref (w 8), .int (iI dO), .ref (w 9), .ref (w 10)])), (w 1, .inl (z.1, 64, .inl (aI ppo))), (w 2, .inl (z.2.1, 4096, .inl (aI (uZ pfr ((64 * net) + router) iz))))] := hD.sub [1, 0, 2] (by decide) rfl
                      refine rv_iret hx hb hRt nar_b0 hlocks (Nat.le_of_ble_eq_true rfl) (Nat.le_of_ble_eq_true rfl) hP9 hD9 hS d_M_friend_127 ?_
                      exact ⟨0, 0, (uZ pfr ((64 * net) + router) iz), rfl, rfl, (Or.inr (Or.inr ⟨by omega, by omega, hw0, rfl, rfl, by omega⟩))⟩
                    · skip
                      refine lv_iconst (v := iI 1) hx hb d_M_friend_122 rfl ?_
                      refine lv_goto (tgt := 127) hx hb d_M_friend_123 (by decide) ?_
                      have hP9 : va_P G cls0 [(w 0, .inr (4, [.int (iI it), .int (iI 0), .int (iI now), .ref (w 1), .ref (w 2), .int (iI gr), .int (iI md), .ref (w 3), .ref (w 4), .ref (w 5), .ref (w 6), .ref (w 7), .ref (w 8), .int (iI dO), .ref (w 9), .ref (w 10)])), (w 1, .inl (z.1, 64, .inl (aI ppo))), (w 2, .inl (z.2.1, 4096, .inl (aI (uZ pfr ((64 * net) + router) iz))))] H := hP.sub [1, 0, 2] rfl
                      have hD9 : va_D A [(w 0, .inr (4, [.int (iI it), .int (iI 0), .int (iI now), .ref (w 1), .ref (w 2), .int (iI gr), .int (iI md), .ref (w 3), .ref (w 4), .ref (w 5), .ref (w 6), .ref (w 7), .ref (w 8), .int (iI dO), .ref (w 9), .ref (w 10)])), (w 1, .inl (z.1, 64, .inl (aI ppo))), (w 2, .inl (z.2.1, 4096, .inl (aI (uZ pfr ((64 * net) + router) iz))))] := hD.sub [1, 0, 2] (by decide) rfl
                      refine rv_iret hx hb hRt nar_b1 hlocks (Nat.le_of_ble_eq_true rfl) (Nat.le_of_ble_eq_true rfl) hP9 hD9 hS d_M_friend_127 ?_
                      exact ⟨1, 0, (uZ pfr ((64 * net) + router) iz), rfl, rfl, (Or.inr (Or.inr ⟨by omega, by omega, hw0, rfl, rfl, by omega⟩))⟩
                  · exact absurd c_20 (by decide)
                · skip
                  have hw2 : ppo net = 0 ∨ (ppo net ≠ 0 ∧ iz = 1 ∧ pfr (64 * net + router) = 0 ∧ cI pfr 4096 = 16) := Or.inr ⟨by omega, by omega, by omega, by omega⟩
                  refine lv_iconst (v := iI 2) hx hb d_M_friend_87 rfl ?_
                  refine lv_goto (tgt := 92) hx hb d_M_friend_88 (by decide) ?_
                  refine va_put (D := G) (ci := 4) (v := .int (iI 2)) (ty := .int) (C := R_M) (T := T_M) (N := 16) hx hb hg iw_M ty_M ty_M_ok nm_M hown hE.1 hP hD hS 1 rfl rfl 1 (by decide) (hg _ fl_M_48) (fun _ h9 => h9) rfl (by decide +kernel) rfl rfl (Nat.le_of_ble_eq_true rfl) d_M_friend_92 (fun H locs hP hD hS => ?_)
                  have hP : va_P G cls0 [(w 1, .inl (z.1, 64, .inl (aI ppo))), (w 0, .inr (4, [.int (iI it), .int (iI 2), .int (iI now), .ref (w 1), .ref (w 2), .int (iI gr), .int (iI md), .ref (w 3), .ref (w 4), .ref (w 5), .ref (w 6), .ref (w 7), .ref (w 8), .int (iI dO), .ref (w 9), .ref (w 10)])), (w 2, .inl (z.2.1, 4096, .inl (aI pfr)))] H := hP
                  have hD : va_D A [(w 1, .inl (z.1, 64, .inl (aI ppo))), (w 0, .inr (4, [.int (iI it), .int (iI 2), .int (iI now), .ref (w 1), .ref (w 2), .int (iI gr), .int (iI md), .ref (w 3), .ref (w 4), .ref (w 5), .ref (w 6), .ref (w 7), .ref (w 8), .int (iI dO), .ref (w 9), .ref (w 10)])), (w 2, .inl (z.2.1, 4096, .inl (aI pfr)))] := hD
                  refine lv_aload_n hx hb d_M_friend_95 rfl (lv_at hl 1 rfl) ?_
                  refine va_get (D := G) (ci := 4) (v := .int (iI 2)) (C := R_M) (T := T_M) (N := 16) hx hb hg iw_M hown hE.1 hP 1 rfl rfl 1 (by decide) (hg _ fl_M_48) (fun _ h9 => h9) rfl d_M_friend_96 ?_
                  refine rv_if_le (tgt := 104) hx hb d_M_friend_99 (by decide) ⟨by decide, by decide⟩ (fun c_22 => ?_) (fun c_22 => ?_)
                  · exact absurd c_22 (by decide)
                  · skip
                    refine lv_iconst (v := iI 0) hx hb d_M_friend_102 rfl ?_
                    have hP9 : va_P G cls0 [(w 0, .inr (4, [.int (iI it), .int (iI 2), .int (iI now), .ref (w 1), .ref (w 2), .int (iI gr), .int (iI md), .ref (w 3), .ref (w 4), .ref (w 5), .ref (w 6), .ref (w 7), .ref (w 8), .int (iI dO), .ref (w 9), .ref (w 10)])), (w 1, .inl (z.1, 64, .inl (aI ppo))), (w 2, .inl (z.2.1, 4096, .inl (aI pfr)))] H := hP.sub [1, 0, 2] rfl
                    have hD9 : va_D A [(w 0, .inr (4, [.int (iI it), .int (iI 2), .int (iI now), .ref (w 1), .ref (w 2), .int (iI gr), .int (iI md), .ref (w 3), .ref (w 4), .ref (w 5), .ref (w 6), .ref (w 7), .ref (w 8), .int (iI dO), .ref (w 9), .ref (w 10)])), (w 1, .inl (z.1, 64, .inl (aI ppo))), (w 2, .inl (z.2.1, 4096, .inl (aI pfr)))] := hD.sub [1, 0, 2] (by decide) rfl
                    refine rv_iret hx hb hRt nar_b0 hlocks (Nat.le_of_ble_eq_true rfl) (Nat.le_of_ble_eq_true rfl) hP9 hD9 hS d_M_friend_103 ?_
                    exact ⟨0, 2, pfr, rfl, rfl, (Or.inr (Or.inl ⟨by omega, hw2, rfl, rfl⟩))⟩
        · exact absurd c_10 (by decide)
      · skip
        refine lv_iconst (v := iI 1) hx hb d_M_friend_29 rfl ?_
        refine lv_goto (tgt := 34) hx hb d_M_friend_30 (by decide) ?_
        refine va_put (D := G) (ci := 4) (v := .int (iI 1)) (ty := .int) (C := R_M) (T := T_M) (N := 16) hx hb hg iw_M ty_M ty_M_ok nm_M hown hE.1 hP hD hS 0 rfl rfl 1 (by decide) (hg _ fl_M_48) (fun _ h9 => h9) rfl (by decide +kernel) rfl rfl (Nat.le_of_ble_eq_true rfl) d_M_friend_34 (fun H locs hP hD hS => ?_)
        have hP : va_P G cls0 [(w 0, .inr (4, [.int (iI it), .int (iI 1), .int (iI now), .ref (w 1), .ref (w 2), .int (iI gr), .int (iI md), .ref (w 3), .ref (w 4), .ref (w 5), .ref (w 6), .ref (w 7), .ref (w 8), .int (iI dO), .ref (w 9), .ref (w 10)])), (w 1, .inl (z.1, 64, .inl (aI ppo))), (w 2, .inl (z.2.1, 4096, .inl (aI pfr)))] H := hP
        have hD : va_D A [(w 0, .inr (4, [.int (iI it), .int (iI 1), .int (iI now), .ref (w 1), .ref (w 2), .int (iI gr), .int (iI md), .ref (w 3), .ref (w 4), .ref (w 5), .ref (w 6), .ref (w 7), .ref (w 8), .int (iI dO), .ref (w 9), .ref (w 10)])), (w 1, .inl (z.1, 64, .inl (aI ppo))), (w 2, .inl (z.2.1, 4096, .inl (aI pfr)))] := hD
        refine lv_aload_n hx hb d_M_friend_37 rfl (lv_at hl 0 rfl) ?_
        refine va_get (D := G) (ci := 4) (v := .int (iI 1)) (C := R_M) (T := T_M) (N := 16) hx hb hg iw_M hown hE.1 hP 0 rfl rfl 1 (by decide) (hg _ fl_M_48) (fun _ h9 => h9) rfl d_M_friend_38 ?_
        refine rv_if_le (tgt := 46) hx hb d_M_friend_41 (by decide) ⟨by decide, by decide⟩ (fun c_23 => ?_) (fun c_23 => ?_)
        · exact absurd c_23 (by decide)
        · skip
          refine lv_iconst (v := iI 0) hx hb d_M_friend_44 rfl ?_
          have hP9 : va_P G cls0 [(w 0, .inr (4, [.int (iI it), .int (iI 1), .int (iI now), .ref (w 1), .ref (w 2), .int (iI gr), .int (iI md), .ref (w 3), .ref (w 4), .ref (w 5), .ref (w 6), .ref (w 7), .ref (w 8), .int (iI dO), .ref (w 9), .ref (w 10)])), (w 1, .inl (z.1, 64, .inl (aI ppo))), (w 2, .inl (z.2.1, 4096, .inl (aI pfr)))] H := hP.sub [0, 1, 2] rfl
          have hD9 : va_D A [(w 0, .inr (4, [.int (iI it), .int (iI 1), .int (iI now), .ref (w 1), .ref (w 2), .int (iI gr), .int (iI md), .ref (w 3), .ref (w 4), .ref (w 5), .ref (w 6), .ref (w 7), .ref (w 8), .int (iI dO), .ref (w 9), .ref (w 10)])), (w 1, .inl (z.1, 64, .inl (aI ppo))), (w 2, .inl (z.2.1, 4096, .inl (aI pfr)))] := hD.sub [0, 1, 2] (by decide) rfl
          refine rv_iret hx hb hRt nar_b0 hlocks (Nat.le_of_ble_eq_true rfl) (Nat.le_of_ble_eq_true rfl) hP9 hD9 hS d_M_friend_45 ?_
          exact ⟨0, 1, pfr, rfl, rfl, (Or.inl ⟨by omega, rfl, rfl⟩)⟩
set_option maxHeartbeats 4000000 in
set_option maxRecDepth 100000 in
theorem k_M_find (l : Launch) (G : va_G) (z : tz3) (w : Nat → Nat) (it : Int) (cd : Int) (now : Int) (gr : Int) (md : Int) (dO : Int) (pcn : Int → Int) (prt : Int → Int) (pnt : Int → Int) (ad : Int) (router : Int) (net : Int) (rcn : ∀ i : Int, 0 ≤ pcn i ∧ pcn i ≤ 24) (rrt : ∀ i : Int, -1 ≤ prt i ∧ prt i ≤ 63) (rnt : ∀ i : Int, 0 ≤ pnt i ∧ pnt i ≤ 63) (had : 0 ≤ ad ∧ ad < 66) (hrr : inR router) (hnn : inR net) : Ki l y_M_find c_M_find 6 (some .int) (rmD 0) G z [.ref (w 0), .int (iI ad), .int (iI router), .int (iI net)] [(w 0, .inr (4, [.int (iI it), .int (iI cd), .int (iI now), .ref (w 1), .ref (w 2), .int (iI gr), .int (iI md), .ref (w 3), .ref (w 4), .ref (w 5), .ref (w 6), .ref (w 7), .ref (w 8), .int (iI dO), .ref (w 9), .ref (w 10)])), (w 5, .inl (z.1, 66, .inl (aI pcn))), (w 6, .inl (z.1, 1584, .inl (aI prt))), (w 7, .inl (z.1, 1584, .inl (aI pnt)))] (fun r9 u9 => ∃ (rv : Int), u9 = [(w 0, .inr (4, [.int (iI it), .int (iI cd), .int (iI now), .ref (w 1), .ref (w 2), .int (iI gr), .int (iI md), .ref (w 3), .ref (w 4), .ref (w 5), .ref (w 6), .ref (w 7), .ref (w 8), .int (iI dO), .ref (w 9), .ref (w 10)])), (w 5, .inl (z.1, 66, .inl (aI pcn))), (w 6, .inl (z.1, 1584, .inl (aI prt))), (w 7, .inl (z.1, 1584, .inl (aI pnt)))] ∧ r9 = iI rv ∧ (-1 ≤ rv ∧ rv < 1584) ∧ ((rv = -1 ∧ ∀ k : Int, 0 ≤ k → k < pcn ad → ¬ (prt (ad * 24 + k) = router ∧ pnt (ad * 24 + k) = net)) ∨ (∃ k : Int, 0 ≤ k ∧ k < pcn ad ∧ prt (ad * 24 + k) = router ∧ pnt (ad * 24 + k) = net ∧ rv = ad * 24 + k))) := by
  refine Ki.of (by decide) (Nat.le_of_ble_eq_true rfl) ?_
  intro p e s m below meth c A hB hP hD ls hl
  obtain ⟨hx, hb, hRt, hml, hown, hlocks, hg, hE, hA, hin⟩ := hB
  have hown : s.vm.findClass R_M = some m.cls := hown
  have hl : lv_has ls 6 [(0, .ref (w 0)), (1, .int (iI ad)), (2, .int (iI router)), (3, .int (iI net))] := hl
  obtain ⟨H, hH⟩ : ∃ H, H = s.heap := ⟨_, rfl⟩
  have hS : va_S A s.heap H [] := by rw [hH]; exact va_S.rf
  rw [← hH] at hP
  rw [← hH]
  have hP : va_P G cls0 [(w 0, .inr (4, [.int (iI it), .int (iI cd), .int (iI now), .ref (w 1), .ref (w 2), .int (iI gr), .int (iI md), .ref (w 3), .ref (w 4), .ref (w 5), .ref (w 6), .ref (w 7), .ref (w 8), .int (iI dO), .ref (w 9), .ref (w 10)])), (w 5, .inl (z.1, 66, .inl (aI pcn))), (w 6, .inl (z.1, 1584, .inl (aI prt))), (w 7, .inl (z.1, 1584, .inl (aI pnt)))] H := hP
  have hD : va_D A [(w 0, .inr (4, [.int (iI it), .int (iI cd), .int (iI now), .ref (w 1), .ref (w 2), .int (iI gr), .int (iI md), .ref (w 3), .ref (w 4), .ref (w 5), .ref (w 6), .ref (w 7), .ref (w 8), .int (iI dO), .ref (w 9), .ref (w 10)])), (w 5, .inl (z.1, 66, .inl (aI pcn))), (w 6, .inl (z.1, 1584, .inl (aI prt))), (w 7, .inl (z.1, 1584, .inl (aI pnt)))] := hD
  refine lv_iconst (v := iI (-1)) hx hb d_M_find_0 rfl ?_
  refine lv_istore (lv' := [(4, .int (iI ((-1)))), (0, .ref (w 0)), (1, .int (iI ad)), (2, .int (iI router)), (3, .int (iI net))]) hx hb d_M_find_1 hl (by decide) rfl (fun ls hl => ?_)
  refine lv_bipush (v := iI 24) hx hb d_M_find_3 (by decide +kernel) ?_
  refine lv_iload_n hx hb d_M_find_5 rfl (lv_at hl 2 rfl) ?_
  refine rv_imul hx hb d_M_find_6 ?_
  refine lv_istore (lv' := [(5, .int (iI (24 * ad))), (4, .int (iI ((-1)))), (0, .ref (w 0)), (1, .int (iI ad)), (2, .int (iI router)), (3, .int (iI net))]) hx hb d_M_find_7 hl (by decide) rfl (fun ls hl => ?_)
  have L9 : ∀ n9 : Nat, ∀ (bt : Int) (ix : Int), (24 * ad + pcn ad - ix : Int).toNat < n9 → (24 * ad ≤ ix ∧ ix ≤ 24 * ad + pcn ad ∧ -1 ≤ bt ∧ bt < 1584) → ((bt = -1 ∧ ∀ k : Int, 0 ≤ k → ad * 24 + k < ix → ¬ (prt (ad * 24 + k) = router ∧ pnt (ad * 24 + k) = net)) ∨ (∃ k : Int, 0 ≤ k ∧ k < pcn ad ∧ ad * 24 + k < ix ∧ prt (ad * 24 + k) = router ∧ pnt (ad * 24 + k) = net ∧ bt = ad * 24 + k)) → ∀ (H : Heap) (locs : List Loc), va_P G cls0 [(w 0, .inr (4, [.int (iI it), .int (iI cd), .int (iI now), .ref (w 1), .ref (w 2), .int (iI gr), .int (iI md), .ref (w 3), .ref (w 4), .ref (w 5), .ref (w 6), .ref (w 7), .ref (w 8), .int (iI dO), .ref (w 9), .ref (w 10)])), (w 5, .inl (z.1, 66, .inl (aI pcn))), (w 6, .inl (z.1, 1584, .inl (aI prt))), (w 7, .inl (z.1, 1584, .inl (aI pnt)))] H → va_D A [(w 0, .inr (4, [.int (iI it), .int (iI cd), .int (iI now), .ref (w 1), .ref (w 2), .int (iI gr), .int (iI md), .ref (w 3), .ref (w 4), .ref (w 5), .ref (w 6), .ref (w 7), .ref (w 8), .int (iI dO), .ref (w 9), .ref (w 10)])), (w 5, .inl (z.1, 66, .inl (aI pcn))), (w 6, .inl (z.1, 1584, .inl (aI prt))), (w 7, .inl (z.1, 1584, .inl (aI pnt)))] → va_S A s.heap H locs → ∀ ls : Array Slot, lv_has ls 6 [(0, .ref (w 0)), (1, .int (iI ad)), (2, .int (iI router)), (3, .int (iI net)), (4, .int (iI bt)), (5, .int (iI ix))] → W p l e (rmD 0) s m [.ref (w 0), .int (iI ad), .int (iI router), .int (iI net)].toArray below meth c H locs 0 0 (Zi below [.ref (w 0), .int (iI ad), .int (iI router), .int (iI net)].toArray s (rmD 0) G A (fun r9 u9 => ∃ (rv : Int), u9 = [(w 0, .inr (4, [.int (iI it), .int (iI cd), .int (iI now), .ref (w 1), .ref (w 2), .int (iI gr), .int (iI md), .ref (w 3), .ref (w 4), .ref (w 5), .ref (w 6), .ref (w 7), .ref (w 8), .int (iI dO), .ref (w 9), .ref (w 10)])), (w 5, .inl (z.1, 66, .inl (aI pcn))), (w 6, .inl (z.1, 1584, .inl (aI prt))), (w 7, .inl (z.1, 1584, .inl (aI pnt)))] ∧ r9 = iI rv ∧ (-1 ≤ rv ∧ rv < 1584) ∧ ((rv = -1 ∧ ∀ k : Int, 0 ≤ k → k < pcn ad → ¬ (prt (ad * 24 + k) = router ∧ pnt (ad * 24 + k) = net)) ∨ (∃ k : Int, 0 ≤ k ∧ k < pcn ad ∧ prt (ad * 24 + k) = router ∧ pnt (ad * 24 + k) = net ∧ rv = ad * 24 + k)))) (F0 m 9 ls []) := by
    intro n9
    induction n9 with
    | zero => intro bt ix hmu; exact absurd hmu (Nat.not_lt_zero _)
    | succ n9 ih9 =>
      intro bt ix hmu h1 hb0 H locs hP hD hS ls hl
      refine lv_iload hx hb d_M_find_9 (lv_at hl 5 rfl) ?_
      refine lv_bipush (v := iI 24) hx hb d_M_find_11 (by decide +kernel) ?_
      refine lv_iload_n hx hb d_M_find_13 rfl (lv_at hl 1 rfl) ?_
      refine rv_imul hx hb d_M_find_14 ?_
      refine lv_aload_n hx hb d_M_find_15 rfl (lv_at hl 0 rfl) ?_
      refine va_get (D := G) (ci := 4) (v := .ref (w 5)) (C := R_M) (T := T_M) (N := 16) hx hb hg iw_M hown hE.1 hP 0 rfl rfl 9 (by decide) (hg _ fl_M_27) (fun _ h9 => h9) rfl d_M_find_16 ?_
      refine lv_iload_n hx hb d_M_find_19 rfl (lv_at hl 1 rfl) ?_
      refine rv_iald hx hb hE hP 1 rfl (i := ad) (by clear hb0; (try have := rcn ad); omega) (by clear hb0; (try have := rcn ad); omega) (by decide) d_M_find_20 ?_
      refine rv_iadd hx hb d_M_find_21 ?_
      refine rv_icmp_ge (tgt := 62) hx hb d_M_find_22 (by decide) (by clear hb0; (try have := rcn ad); constructor <;> omega) (by clear hb0; (try have := rcn ad); (try have := rcn ad); constructor <;> omega) (fun c_1 => ?_) (fun c_1 => ?_)
      · skip
        refine lv_iload hx hb d_M_find_62 (lv_at hl 4 rfl) ?_
        have hP9 : va_P G cls0 [(w 0, .inr (4, [.int (iI it), .int (iI cd), .int (iI now), .ref (w 1), .ref (w 2), .int (iI gr), .int (iI md), .ref (w 3), .ref (w 4), .ref (w 5), .ref (w 6), .ref (w 7), .ref (w 8), .int (iI dO), .ref (w 9), .ref (w 10)])), (w 5, .inl (z.1, 66, .inl (aI pcn))), (w 6, .inl (z.1, 1584, .inl (aI prt))), (w 7, .inl (z.1, 1584, .inl (aI pnt)))] H := hP.sub [0, 1, 2, 3] rfl
        have hD9 : va_D A [(w 0, .inr (4, [.int (iI it), .int (iI cd), .int (iI now), .ref (w 1), .ref (w 2), .int (iI gr), .int (iI md), .ref (w 3), .ref (w 4), .ref (w 5), .ref (w 6), .ref (w 7), .ref (w 8), .int (iI dO), .ref (w 9), .ref (w 10)])), (w 5, .inl (z.1, 66, .inl (aI pcn))), (w 6, .inl (z.1, 1584, .inl (aI prt))), (w 7, .inl (z.1, 1584, .inl (aI pnt)))] := hD.sub [0, 1, 2, 3] (by decide) rfl
        refine rv_iret hx hb hRt (nar_int _) hlocks (Nat.le_of_ble_eq_true rfl) (Nat.le_of_ble_eq_true rfl) hP9 hD9 hS d_M_find_64 ?_
        exact ⟨bt, rfl, rfl, (by clear hb0; omega), (by rcases hb0 with ⟨a, b⟩ | ⟨k, k0, k1, k2, k3⟩; exact Or.inl ⟨a, fun k k0 k1 => b k k0 (by omega)⟩; exact Or.inr ⟨k, k0, k1, k3⟩)⟩
      · skip
        refine lv_aload_n hx hb d_M_find_25 rfl (lv_at hl 0 rfl) ?_
        refine va_get (D := G) (ci := 4) (v := .ref (w 6)) (C := R_M) (T := T_M) (N := 16) hx hb hg iw_M hown hE.1 hP 0 rfl rfl 10 (by decide) (hg _ fl_M_30) (fun _ h9 => h9) rfl d_M_find_26 ?_
        refine lv_iload hx hb d_M_find_29 (lv_at hl 5 rfl) ?_
        refine rv_iald hx hb hE hP 2 rfl (i := ix) (by clear hb0; (try have := rcn ad); omega) (by clear hb0; (try have := rcn ad); omega) (by decide) d_M_find_31 ?_
        refine lv_iload_n hx hb d_M_find_32 rfl (lv_at hl 2 rfl) ?_
        refine rv_icmp_ne (tgt := 52) hx hb d_M_find_33 (by decide) (by clear hb0; (try have := rcn ad); (try have := rrt ix); constructor <;> omega) (by clear hb0; (try have := rcn ad); constructor <;> omega) (fun c_2 => ?_) (fun c_2 => ?_)
        · skip
          have mno : ¬ (prt ix = router ∧ pnt ix = net) := fun q => c_2 q.1
          refine lv_iload hx hb d_M_find_52 (lv_at hl 4 rfl) ?_
          refine lv_istore (lv' := [(4, .int (iI bt)), (0, .ref (w 0)), (1, .int (iI ad)), (2, .int (iI router)), (3, .int (iI net)), (5, .int (iI ix))]) hx hb d_M_find_54 hl (by decide) rfl (fun ls hl => ?_)
          refine lv_iinc (v := iI (ix + 1)) (lv' := [(5, .int (iI (ix + 1))), (4, .int (iI bt)), (0, .ref (w 0)), (1, .int (iI ad)), (2, .int (iI router)), (3, .int (iI net))]) hx hb d_M_find_56 hl (k := 5) rfl (iI_add _ _) (by decide) rfl (fun ls hl => ?_)
          refine lv_goto (tgt := 9) hx hb d_M_find_59 (by decide) ?_
          exact ih9 _ (ix + 1) (by clear hb0; omega) (by clear hb0; have := rcn ad; omega) (by first | exact Or.inr ⟨ix - 24 * ad, by clear hb0; omega, by clear hb0; omega, by clear hb0; omega, by rw [show ad * 24 + (ix - 24 * ad) = ix by clear hb0; omega]; exact m1, by rw [show ad * 24 + (ix - 24 * ad) = ix by clear hb0; omega]; exact m2, by clear hb0; omega⟩ | exact (by rcases hb0 with ⟨a, b⟩ | ⟨k, k0, k1, k2, k3⟩; exact Or.inl ⟨a, fun k k0 k1 => if e : ad * 24 + k = ix then (by rw [e]; exact mno) else b k k0 (by omega)⟩; exact Or.inr ⟨k, k0, k1, by omega, k3⟩)) H _ (hP.sub [0, 1, 2, 3] rfl) (hD.sub [0, 1, 2, 3] (by decide) rfl) hS ls (lv_sub hl [2, 3, 4, 5, 1, 0] rfl)
        · skip
          have m1 := c_2
          refine lv_aload_n hx hb d_M_find_36 rfl (lv_at hl 0 rfl) ?_
          refine va_get (D := G) (ci := 4) (v := .ref (w 7)) (C := R_M) (T := T_M) (N := 16) hx hb hg iw_M hown hE.1 hP 0 rfl rfl 11 (by decide) (hg _ fl_M_33) (fun _ h9 => h9) rfl d_M_find_37 ?_
          refine lv_iload hx hb d_M_find_40 (lv_at hl 5 rfl) ?_
          refine rv_iald hx hb hE hP 3 rfl (i := ix) (by clear hb0; (try have := rcn ad); omega) (by clear hb0; (try have := rcn ad); omega) (by decide) d_M_find_42 ?_
          refine lv_iload_n hx hb d_M_find_43 rfl (lv_at hl 3 rfl) ?_
          refine rv_icmp_ne (tgt := 52) hx hb d_M_find_44 (by decide) (by clear hb0; (try have := rcn ad); (try have := rnt ix); constructor <;> omega) (by clear hb0; (try have := rcn ad); constructor <;> omega) (fun c_3 => ?_) (fun c_3 => ?_)
          · skip
            have mno : ¬ (prt ix = router ∧ pnt ix = net) := fun q => c_3 q.2
            refine lv_iload hx hb d_M_find_52 (lv_at hl 4 rfl) ?_
            refine lv_istore (lv' := [(4, .int (iI bt)), (0, .ref (w 0)), (1, .int (iI ad)), (2, .int (iI router)), (3, .int (iI net)), (5, .int (iI ix))]) hx hb d_M_find_54 hl (by decide) rfl (fun ls hl => ?_)
            refine lv_iinc (v := iI (ix + 1)) (lv' := [(5, .int (iI (ix + 1))), (4, .int (iI bt)), (0, .ref (w 0)), (1, .int (iI ad)), (2, .int (iI router)), (3, .int (iI net))]) hx hb d_M_find_56 hl (k := 5) rfl (iI_add _ _) (by decide) rfl (fun ls hl => ?_)
            refine lv_goto (tgt := 9) hx hb d_M_find_59 (by decide) ?_
            exact ih9 _ (ix + 1) (by clear hb0; omega) (by clear hb0; have := rcn ad; omega) (by first | exact Or.inr ⟨ix - 24 * ad, by clear hb0; omega, by clear hb0; omega, by clear hb0; omega, by rw [show ad * 24 + (ix - 24 * ad) = ix by clear hb0; omega]; exact m1, by rw [show ad * 24 + (ix - 24 * ad) = ix by clear hb0; omega]; exact m2, by clear hb0; omega⟩ | exact (by rcases hb0 with ⟨a, b⟩ | ⟨k, k0, k1, k2, k3⟩; exact Or.inl ⟨a, fun k k0 k1 => if e : ad * 24 + k = ix then (by rw [e]; exact mno) else b k k0 (by omega)⟩; exact Or.inr ⟨k, k0, k1, by omega, k3⟩)) H _ (hP.sub [0, 1, 2, 3] rfl) (hD.sub [0, 1, 2, 3] (by decide) rfl) hS ls (lv_sub hl [2, 3, 4, 5, 1, 0] rfl)
          · skip
            have m2 := c_3
            refine lv_iload hx hb d_M_find_47 (lv_at hl 5 rfl) ?_
            refine lv_goto (tgt := 54) hx hb d_M_find_49 (by decide) ?_
            refine lv_istore (lv' := [(4, .int (iI ix)), (0, .ref (w 0)), (1, .int (iI ad)), (2, .int (iI router)), (3, .int (iI net)), (5, .int (iI ix))]) hx hb d_M_find_54 hl (by decide) rfl (fun ls hl => ?_)
            refine lv_iinc (v := iI (ix + 1)) (lv' := [(5, .int (iI (ix + 1))), (4, .int (iI ix)), (0, .ref (w 0)), (1, .int (iI ad)), (2, .int (iI router)), (3, .int (iI net))]) hx hb d_M_find_56 hl (k := 5) rfl (iI_add _ _) (by decide) rfl (fun ls hl => ?_)
            refine lv_goto (tgt := 9) hx hb d_M_find_59 (by decide) ?_
            exact ih9 _ (ix + 1) (by clear hb0; omega) (by clear hb0; have := rcn ad; omega) (by first | exact Or.inr ⟨ix - 24 * ad, by clear hb0; omega, by clear hb0; omega, by clear hb0; omega, by rw [show ad * 24 + (ix - 24 * ad) = ix by clear hb0; omega]; exact m1, by rw [show ad * 24 + (ix - 24 * ad) = ix by clear hb0; omega]; exact m2, by clear hb0; omega⟩ | exact (by rcases hb0 with ⟨a, b⟩ | ⟨k, k0, k1, k2, k3⟩; exact Or.inl ⟨a, fun k k0 k1 => if e : ad * 24 + k = ix then (by rw [e]; exact mno) else b k k0 (by omega)⟩; exact Or.inr ⟨k, k0, k1, by omega, k3⟩)) H _ (hP.sub [0, 1, 2, 3] rfl) (hD.sub [0, 1, 2, 3] (by decide) rfl) hS ls (lv_sub hl [2, 3, 4, 5, 1, 0] rfl)
  exact L9 ((24 * ad + pcn ad - (24 * ad) : Int).toNat + 1) (-1) (24 * ad) (Nat.lt_succ_self _) (by (try have := rcn ad); (try have := rcn ad); omega) (Or.inl ⟨rfl, fun k k0 k1 => absurd k1 (by omega)⟩) H _ (hP.sub [0, 1, 2, 3] rfl) (hD.sub [0, 1, 2, 3] (by decide) rfl) hS ls (lv_sub hl [2, 3, 4, 5, 1, 0] rfl)
set_option maxHeartbeats 4000000 in
set_option maxRecDepth 100000 in
theorem k_M_add (l : Launch) (G : va_G) (z : tz3) (w : Nat → Nat) (it : Int) (cd : Int) (now : Int) (gr : Int) (md : Int) (dO : Int) (pcn : Int → Int) (prt : Int → Int) (pnt : Int → Int) (pco : Int → Int) (ad : Int) (router : Int) (net : Int) (cost : Int) (rcn : ∀ i : Int, 0 ≤ pcn i ∧ pcn i ≤ 24) (had : 0 ≤ ad ∧ ad < 66) (hroom : pcn ad < 24) : Kv l y_M_add c_M_add 6 (rmD 0) G z [.ref (w 0), .int (iI ad), .int (iI router), .int (iI net), .int (iI cost)] [(w 0, .inr (4, [.int (iI it), .int (iI cd), .int (iI now), .ref (w 1), .ref (w 2), .int (iI gr), .int (iI md), .ref (w 3), .ref (w 4), .ref (w 5), .ref (w 6), .ref (w 7), .ref (w 8), .int (iI dO), .ref (w 9), .ref (w 10)])), (w 5, .inl (z.1, 66, .inl (aI pcn))), (w 6, .inl (z.1, 1584, .inl (aI prt))), (w 7, .inl (z.1, 1584, .inl (aI pnt))), (w 8, .inl (z.1, 1584, .inl (aI pco)))] (fun u9 => u9 = [(w 0, .inr (4, [.int (iI it), .int (iI cd), .int (iI now), .ref (w 1), .ref (w 2), .int (iI gr), .int (iI md), .ref (w 3), .ref (w 4), .ref (w 5), .ref (w 6), .ref (w 7), .ref (w 8), .int (iI dO), .ref (w 9), .ref (w 10)])), (w 5, .inl (z.1, 66, .inl (aI (uZ pcn ad (pcn ad + 1))))), (w 6, .inl (z.1, 1584, .inl (aI (uZ prt (24 * ad + pcn ad) router)))), (w 7, .inl (z.1, 1584, .inl (aI (uZ pnt (24 * ad + pcn ad) net)))), (w 8, .inl (z.1, 1584, .inl (aI (uZ pco (24 * ad + pcn ad) cost))))]) := by
  refine Kv.of (by decide) (Nat.le_of_ble_eq_true rfl) ?_
  intro p e s m below meth c A hB hP hD ls hl
  obtain ⟨hx, hb, hRt, hml, hown, hlocks, hg, hE, hA, hin⟩ := hB
  have hown : s.vm.findClass R_M = some m.cls := hown
  have hl : lv_has ls 6 [(0, .ref (w 0)), (1, .int (iI ad)), (2, .int (iI router)), (3, .int (iI net)), (4, .int (iI cost))] := hl
  obtain ⟨H, hH⟩ : ∃ H, H = s.heap := ⟨_, rfl⟩
  have hS : va_S A s.heap H [] := by rw [hH]; exact va_S.rf
  rw [← hH] at hP
  rw [← hH]
  have hP : va_P G cls0 [(w 0, .inr (4, [.int (iI it), .int (iI cd), .int (iI now), .ref (w 1), .ref (w 2), .int (iI gr), .int (iI md), .ref (w 3), .ref (w 4), .ref (w 5), .ref (w 6), .ref (w 7), .ref (w 8), .int (iI dO), .ref (w 9), .ref (w 10)])), (w 5, .inl (z.1, 66, .inl (aI pcn))), (w 6, .inl (z.1, 1584, .inl (aI prt))), (w 7, .inl (z.1, 1584, .inl (aI pnt))), (w 8, .inl (z.1, 1584, .inl (aI pco)))] H := hP
  have hD : va_D A [(w 0, .inr (4, [.int (iI it), .int (iI cd), .int (iI now), .ref (w 1), .ref (w 2), .int (iI gr), .int (iI md), .ref (w 3), .ref (w 4), .ref (w 5), .ref (w 6), .ref (w 7), .ref (w 8), .int (iI dO), .ref (w 9), .ref (w 10)])), (w 5, .inl (z.1, 66, .inl (aI pcn))), (w 6, .inl (z.1, 1584, .inl (aI prt))), (w 7, .inl (z.1, 1584, .inl (aI pnt))), (w 8, .inl (z.1, 1584, .inl (aI pco)))] := hD
  refine lv_bipush (v := iI 24) hx hb d_M_add_0 (by decide +kernel) ?_
  refine lv_iload_n hx hb d_M_add_2 rfl (lv_at hl 1 rfl) ?_
  refine rv_imul hx hb d_M_add_3 ?_
  refine lv_aload_n hx hb d_M_add_4 rfl (lv_at hl 0 rfl) ?_
  refine va_get (D := G) (ci := 4) (v := .ref (w 5)) (C := R_M) (T := T_M) (N := 16) hx hb hg iw_M hown hE.1 hP 0 rfl rfl 9 (by decide) (hg _ fl_M_27) (fun _ h9 => h9) rfl d_M_add_5 ?_
  refine lv_iload_n hx hb d_M_add_8 rfl (lv_at hl 1 rfl) ?_
  refine rv_iald hx hb hE hP 1 rfl (i := ad) (by omega) (by omega) (by decide) d_M_add_9 ?_
  refine rv_iadd hx hb d_M_add_10 ?_
  refine lv_istore (lv' := [(5, .int (iI ((24 * ad) + (pcn ad)))), (0, .ref (w 0)), (1, .int (iI ad)), (2, .int (iI router)), (3, .int (iI net)), (4, .int (iI cost))]) hx hb d_M_add_11 hl (by decide) rfl (fun ls hl => ?_)
  refine lv_aload_n hx hb d_M_add_13 rfl (lv_at hl 1 rfl) ?_
  refine va_get (D := G) (ci := 4) (v := .ref (w 6)) (C := R_M) (T := T_M) (N := 16) hx hb hg iw_M hown hE.1 hP 0 rfl rfl 10 (by decide) (hg _ fl_M_30) (fun _ h9 => h9) rfl d_M_add_14 ?_
  refine lv_iload hx hb d_M_add_17 (lv_at hl 0 rfl) ?_
  refine lv_iload_n hx hb d_M_add_19 rfl (lv_at hl 3 rfl) ?_
  refine rv_iast hx hb hE hP hD hS 2 rfl (i := (24 * ad) + (pcn ad)) (x := router) (by (try have := rcn ad); omega) (by (try have := rcn ad); omega) (by decide) d_M_add_20 (fun H locs hP hD hS => ?_)
  have hP : va_P G cls0 [(w 0, .inr (4, [.int (iI it), .int (iI cd), .int (iI now), .ref (w 1), .ref (w 2), .int (iI gr), .int (iI md), .ref (w 3), .ref (w 4), .ref (w 5), .ref (w 6), .ref (w 7), .ref (w 8), .int (iI dO), .ref (w 9), .ref (w 10)])), (w 5, .inl (z.1, 66, .inl (aI pcn))), (w 6, .inl (z.1, 1584, .inl (aI (uZ prt ((24 * ad) + (pcn ad)) router)))), (w 7, .inl (z.1, 1584, .inl (aI pnt))), (w 8, .inl (z.1, 1584, .inl (aI pco)))] H := hP
  have hD : va_D A [(w 0, .inr (4, [.int (iI it), .int (iI cd), .int (iI now), .ref (w 1), .ref (w 2), .int (iI gr), .int (iI md), .ref (w 3), .ref (w 4), .ref (w 5), .ref (w 6), .ref (w 7), .ref (w 8), .int (iI dO), .ref (w 9), .ref (w 10)])), (w 5, .inl (z.1, 66, .inl (aI pcn))), (w 6, .inl (z.1, 1584, .inl (aI (uZ prt ((24 * ad) + (pcn ad)) router)))), (w 7, .inl (z.1, 1584, .inl (aI pnt))), (w 8, .inl (z.1, 1584, .inl (aI pco)))] := hD
  refine lv_aload_n hx hb d_M_add_21 rfl (lv_at hl 1 rfl) ?_
  refine va_get (D := G) (ci := 4) (v := .ref (w 7)) (C := R_M) (T := T_M) (N := 16) hx hb hg iw_M hown hE.1 hP 0 rfl rfl 11 (by decide) (hg _ fl_M_33) (fun _ h9 => h9) rfl d_M_add_22 ?_
  refine lv_iload hx hb d_M_add_25 (lv_at hl 0 rfl) ?_
  refine lv_iload_n hx hb d_M_add_27 rfl (lv_at hl 4 rfl) ?_
  refine rv_iast hx hb hE hP hD hS 3 rfl (i := (24 * ad) + (pcn ad)) (x := net) (by (try have := rcn ad); omega) (by (try have := rcn ad); omega) (by decide) d_M_add_28 (fun H locs hP hD hS => ?_)
  have hP : va_P G cls0 [(w 0, .inr (4, [.int (iI it), .int (iI cd), .int (iI now), .ref (w 1), .ref (w 2), .int (iI gr), .int (iI md), .ref (w 3), .ref (w 4), .ref (w 5), .ref (w 6), .ref (w 7), .ref (w 8), .int (iI dO), .ref (w 9), .ref (w 10)])), (w 5, .inl (z.1, 66, .inl (aI pcn))), (w 6, .inl (z.1, 1584, .inl (aI (uZ prt ((24 * ad) + (pcn ad)) router)))), (w 7, .inl (z.1, 1584, .inl (aI (uZ pnt ((24 * ad) + (pcn ad)) net)))), (w 8, .inl (z.1, 1584, .inl (aI pco)))] H := hP
  have hD : va_D A [(w 0, .inr (4, [.int (iI it), .int (iI cd), .int (iI now), .ref (w 1), .ref (w 2), .int (iI gr), .int (iI md), .ref (w 3), .ref (w 4), .ref (w 5), .ref (w 6), .ref (w 7), .ref (w 8), .int (iI dO), .ref (w 9), .ref (w 10)])), (w 5, .inl (z.1, 66, .inl (aI pcn))), (w 6, .inl (z.1, 1584, .inl (aI (uZ prt ((24 * ad) + (pcn ad)) router)))), (w 7, .inl (z.1, 1584, .inl (aI (uZ pnt ((24 * ad) + (pcn ad)) net)))), (w 8, .inl (z.1, 1584, .inl (aI pco)))] := hD
  refine lv_aload_n hx hb d_M_add_29 rfl (lv_at hl 1 rfl) ?_
  refine va_get (D := G) (ci := 4) (v := .ref (w 8)) (C := R_M) (T := T_M) (N := 16) hx hb hg iw_M hown hE.1 hP 0 rfl rfl 12 (by decide) (hg _ fl_M_36) (fun _ h9 => h9) rfl d_M_add_30 ?_
  refine lv_iload hx hb d_M_add_33 (lv_at hl 0 rfl) ?_
  refine lv_iload hx hb d_M_add_35 (lv_at hl 5 rfl) ?_
  refine rv_iast hx hb hE hP hD hS 4 rfl (i := (24 * ad) + (pcn ad)) (x := cost) (by (try have := rcn ad); omega) (by (try have := rcn ad); omega) (by decide) d_M_add_37 (fun H locs hP hD hS => ?_)
  have hP : va_P G cls0 [(w 0, .inr (4, [.int (iI it), .int (iI cd), .int (iI now), .ref (w 1), .ref (w 2), .int (iI gr), .int (iI md), .ref (w 3), .ref (w 4), .ref (w 5), .ref (w 6), .ref (w 7), .ref (w 8), .int (iI dO), .ref (w 9), .ref (w 10)])), (w 5, .inl (z.1, 66, .inl (aI pcn))), (w 6, .inl (z.1, 1584, .inl (aI (uZ prt ((24 * ad) + (pcn ad)) router)))), (w 7, .inl (z.1, 1584, .inl (aI (uZ pnt ((24 * ad) + (pcn ad)) net)))), (w 8, .inl (z.1, 1584, .inl (aI (uZ pco ((24 * ad) + (pcn ad)) cost))))] H := hP
  have hD : va_D A [(w 0, .inr (4, [.int (iI it), .int (iI cd), .int (iI now), .ref (w 1), .ref (w 2), .int (iI gr), .int (iI md), .ref (w 3), .ref (w 4), .ref (w 5), .ref (w 6), .ref (w 7), .ref (w 8), .int (iI dO), .ref (w 9), .ref (w 10)])), (w 5, .inl (z.1, 66, .inl (aI pcn))), (w 6, .inl (z.1, 1584, .inl (aI (uZ prt ((24 * ad) + (pcn ad)) router)))), (w 7, .inl (z.1, 1584, .inl (aI (uZ pnt ((24 * ad) + (pcn ad)) net)))), (w 8, .inl (z.1, 1584, .inl (aI (uZ pco ((24 * ad) + (pcn ad)) cost))))] := hD
  refine lv_aload_n hx hb d_M_add_38 rfl (lv_at hl 1 rfl) ?_
  refine va_get (D := G) (ci := 4) (v := .ref (w 5)) (C := R_M) (T := T_M) (N := 16) hx hb hg iw_M hown hE.1 hP 0 rfl rfl 9 (by decide) (hg _ fl_M_27) (fun _ h9 => h9) rfl d_M_add_39 ?_
  refine lv_iload_n hx hb d_M_add_42 rfl (lv_at hl 2 rfl) ?_
  refine lv_dup2_11 hx hb d_M_add_43 rfl rfl ?_
  refine rv_iald hx hb hE hP 1 rfl (i := ad) (by omega) (by omega) (by decide) d_M_add_44 ?_
  refine lv_iconst (v := iI 1) hx hb d_M_add_45 rfl ?_
  refine rv_iadd hx hb d_M_add_46 ?_
  refine rv_iast hx hb hE hP hD hS 1 rfl (i := ad) (x := (pcn ad) + 1) (by omega) (by omega) (by decide) d_M_add_47 (fun H locs hP hD hS => ?_)
  have hP : va_P G cls0 [(w 0, .inr (4, [.int (iI it), .int (iI cd), .int (iI now), .ref (w 1), .ref (w 2), .int (iI gr), .int (iI md), .ref (w 3), .ref (w 4), .ref (w 5), .ref (w 6), .ref (w 7), .ref (w 8), .int (iI dO), .ref (w 9), .ref (w 10)])), (w 5, .inl (z.1, 66, .inl (aI (uZ pcn ad ((pcn ad) + 1))))), (w 6, .inl (z.1, 1584, .inl (aI (uZ prt ((24 * ad) + (pcn ad)) router)))), (w 7, .inl (z.1, 1584, .inl (aI (uZ pnt ((24 * ad) + (pcn ad)) net)))), (w 8, .inl (z.1, 1584, .inl (aI (uZ pco ((24 * ad) + (pcn ad)) cost))))] H := hP
  have hD : va_D A [(w 0, .inr (4, [.int (iI it), .int (iI cd), .int (iI now), .ref (w 1), .ref (w 2), .int (iI gr), .int (iI md), .ref (w 3), .ref (w 4), .ref (w 5), .ref (w 6), .ref (w 7), .ref (w 8), .int (iI dO), .ref (w 9), .ref (w 10)])), (w 5, .inl (z.1, 66, .inl (aI (uZ pcn ad ((pcn ad) + 1))))), (w 6, .inl (z.1, 1584, .inl (aI (uZ prt ((24 * ad) + (pcn ad)) router)))), (w 7, .inl (z.1, 1584, .inl (aI (uZ pnt ((24 * ad) + (pcn ad)) net)))), (w 8, .inl (z.1, 1584, .inl (aI (uZ pco ((24 * ad) + (pcn ad)) cost))))] := hD
  have hP9 : va_P G cls0 [(w 0, .inr (4, [.int (iI it), .int (iI cd), .int (iI now), .ref (w 1), .ref (w 2), .int (iI gr), .int (iI md), .ref (w 3), .ref (w 4), .ref (w 5), .ref (w 6), .ref (w 7), .ref (w 8), .int (iI dO), .ref (w 9), .ref (w 10)])), (w 5, .inl (z.1, 66, .inl (aI (uZ pcn ad ((pcn ad) + 1))))), (w 6, .inl (z.1, 1584, .inl (aI (uZ prt ((24 * ad) + (pcn ad)) router)))), (w 7, .inl (z.1, 1584, .inl (aI (uZ pnt ((24 * ad) + (pcn ad)) net)))), (w 8, .inl (z.1, 1584, .inl (aI (uZ pco ((24 * ad) + (pcn ad)) cost))))] H := hP.sub [0, 1, 2, 3, 4] rfl
  have hD9 : va_D A [(w 0, .inr (4, [.int (iI it), .int (iI cd), .int (iI now), .ref (w 1), .ref (w 2), .int (iI gr), .int (iI md), .ref (w 3), .ref (w 4), .ref (w 5), .ref (w 6), .ref (w 7), .ref (w 8), .int (iI dO), .ref (w 9), .ref (w 10)])), (w 5, .inl (z.1, 66, .inl (aI (uZ pcn ad ((pcn ad) + 1))))), (w 6, .inl (z.1, 1584, .inl (aI (uZ prt ((24 * ad) + (pcn ad)) router)))), (w 7, .inl (z.1, 1584, .inl (aI (uZ pnt ((24 * ad) + (pcn ad)) net)))), (w 8, .inl (z.1, 1584, .inl (aI (uZ pco ((24 * ad) + (pcn ad)) cost))))] := hD.sub [0, 1, 2, 3, 4] (by decide) rfl
  refine rv_vret hx hb hRt hlocks (Nat.le_of_ble_eq_true rfl) (Nat.le_of_ble_eq_true rfl) hP9 hD9 hS d_M_add_48 ?_
  exact rfl
set_option maxHeartbeats 4000000 in
set_option maxRecDepth 100000 in
theorem k_M_copy (l : Launch) (G : va_G) (z : tz3) (w : Nat → Nat) (it : Int) (cd : Int) (now : Int) (gr : Int) (md : Int) (dO : Int) (pcn : Int → Int) (prt : Int → Int) (pnt : Int → Int) (pco : Int → Int) (pa : Int) (pb : Int) (rcn : ∀ i : Int, 0 ≤ pcn i ∧ pcn i ≤ 24) (rrt : ∀ i : Int, -1 ≤ prt i ∧ prt i ≤ 63) (rnt : ∀ i : Int, 0 ≤ pnt i ∧ pnt i ≤ 63) (rco : ∀ i : Int, 0 ≤ pco i ∧ pco i ≤ 1000) (hpa : 0 ≤ pa ∧ pa < 66) (hpb : 0 ≤ pb ∧ pb < 66) (hne : pa ≠ pb) : Kv l y_M_copy c_M_copy 4 (rmD 1) G z [.ref (w 0), .int (iI pa), .int (iI pb)] [(w 0, .inr (4, [.int (iI it), .int (iI cd), .int (iI now), .ref (w 1), .ref (w 2), .int (iI gr), .int (iI md), .ref (w 3), .ref (w 4), .ref (w 5), .ref (w 6), .ref (w 7), .ref (w 8), .int (iI dO), .ref (w 9), .ref (w 10)])), (w 5, .inl (z.1, 66, .inl (aI pcn))), (w 6, .inl (z.1, 1584, .inl (aI prt))), (w 7, .inl (z.1, 1584, .inl (aI pnt))), (w 8, .inl (z.1, 1584, .inl (aI pco)))] (fun u9 => u9 = [(w 0, .inr (4, [.int (iI it), .int (iI cd), .int (iI now), .ref (w 1), .ref (w 2), .int (iI gr), .int (iI md), .ref (w 3), .ref (w 4), .ref (w 5), .ref (w 6), .ref (w 7), .ref (w 8), .int (iI dO), .ref (w 9), .ref (w 10)])), (w 5, .inl (z.1, 66, .inl (aI (uZ pcn pb (pcn pa))))), (w 6, .inl (z.1, 1584, .inl (aI (cZ prt (24 * pa) (24 * pb) (pcn pa))))), (w 7, .inl (z.1, 1584, .inl (aI (cZ pnt (24 * pa) (24 * pb) (pcn pa))))), (w 8, .inl (z.1, 1584, .inl (aI (cZ pco (24 * pa) (24 * pb) (pcn pa)))))]) := by
  refine Kv.of (by decide) (Nat.le_of_ble_eq_true rfl) ?_
  intro p e s m below meth c A hB hP hD ls hl
  obtain ⟨hx, hb, hRt, hml, hown, hlocks, hg, hE, hA, hin⟩ := hB
  have hown : s.vm.findClass R_M = some m.cls := hown
  have hl : lv_has ls 4 [(0, .ref (w 0)), (1, .int (iI pa)), (2, .int (iI pb))] := hl
  obtain ⟨H, hH⟩ : ∃ H, H = s.heap := ⟨_, rfl⟩
  have hS : va_S A s.heap H [] := by rw [hH]; exact va_S.rf
  rw [← hH] at hP
  rw [← hH]
  have hP : va_P G cls0 [(w 0, .inr (4, [.int (iI it), .int (iI cd), .int (iI now), .ref (w 1), .ref (w 2), .int (iI gr), .int (iI md), .ref (w 3), .ref (w 4), .ref (w 5), .ref (w 6), .ref (w 7), .ref (w 8), .int (iI dO), .ref (w 9), .ref (w 10)])), (w 5, .inl (z.1, 66, .inl (aI pcn))), (w 6, .inl (z.1, 1584, .inl (aI prt))), (w 7, .inl (z.1, 1584, .inl (aI pnt))), (w 8, .inl (z.1, 1584, .inl (aI pco)))] H := hP
  have hD : va_D A [(w 0, .inr (4, [.int (iI it), .int (iI cd), .int (iI now), .ref (w 1), .ref (w 2), .int (iI gr), .int (iI md), .ref (w 3), .ref (w 4), .ref (w 5), .ref (w 6), .ref (w 7), .ref (w 8), .int (iI dO), .ref (w 9), .ref (w 10)])), (w 5, .inl (z.1, 66, .inl (aI pcn))), (w 6, .inl (z.1, 1584, .inl (aI prt))), (w 7, .inl (z.1, 1584, .inl (aI pnt))), (w 8, .inl (z.1, 1584, .inl (aI pco)))] := hD
  refine lv_aload_n hx hb d_M_copy_0 rfl (lv_at hl 0 rfl) ?_
  refine va_get (D := G) (ci := 4) (v := .ref (w 5)) (C := R_M) (T := T_M) (N := 16) hx hb hg iw_M hown hE.1 hP 0 rfl rfl 9 (by decide) (hg _ fl_M_27) (fun _ h9 => h9) rfl d_M_copy_1 ?_
  refine lv_iload_n hx hb d_M_copy_4 rfl (lv_at hl 2 rfl) ?_
  refine lv_iconst (v := iI 0) hx hb d_M_copy_5 rfl ?_
  refine rv_iast hx hb hE hP hD hS 1 rfl (i := pb) (x := 0) (by omega) (by omega) (by decide) d_M_copy_6 (fun H locs hP hD hS => ?_)
  have hP : va_P G cls0 [(w 0, .inr (4, [.int (iI it), .int (iI cd), .int (iI now), .ref (w 1), .ref (w 2), .int (iI gr), .int (iI md), .ref (w 3), .ref (w 4), .ref (w 5), .ref (w 6), .ref (w 7), .ref (w 8), .int (iI dO), .ref (w 9), .ref (w 10)])), (w 5, .inl (z.1, 66, .inl (aI (uZ pcn pb 0)))), (w 6, .inl (z.1, 1584, .inl (aI prt))), (w 7, .inl (z.1, 1584, .inl (aI pnt))), (w 8, .inl (z.1, 1584, .inl (aI pco)))] H := hP
  have hD : va_D A [(w 0, .inr (4, [.int (iI it), .int (iI cd), .int (iI now), .ref (w 1), .ref (w 2), .int (iI gr), .int (iI md), .ref (w 3), .ref (w 4), .ref (w 5), .ref (w 6), .ref (w 7), .ref (w 8), .int (iI dO), .ref (w 9), .ref (w 10)])), (w 5, .inl (z.1, 66, .inl (aI (uZ pcn pb 0)))), (w 6, .inl (z.1, 1584, .inl (aI prt))), (w 7, .inl (z.1, 1584, .inl (aI pnt))), (w 8, .inl (z.1, 1584, .inl (aI pco)))] := hD
  refine lv_bipush (v := iI 24) hx hb d_M_copy_7 (by decide +kernel) ?_
  refine lv_iload_n hx hb d_M_copy_9 rfl (lv_at hl 1 rfl) ?_
  refine rv_imul hx hb d_M_copy_10 ?_
  refine lv_istore_n (lv' := [(3, .int (iI (24 * pa))), (0, .ref (w 0)), (1, .int (iI pa)), (2, .int (iI pb))]) hx hb d_M_copy_11 rfl hl (by decide) rfl (fun ls hl => ?_)
  have L12 : ∀ n9 : Nat, ∀ (gcn : Int → Int) (grt : Int → Int) (gnt : Int → Int) (gco : Int → Int) (ix : Int), (24 * pa + pcn pa - ix : Int).toNat < n9 → (24 * pa ≤ ix ∧ ix ≤ 24 * pa + pcn pa) → (gcn = uZ pcn pb (ix - 24 * pa)) → (grt = cZ prt (24 * pa) (24 * pb) (ix - 24 * pa)) → (gnt = cZ pnt (24 * pa) (24 * pb) (ix - 24 * pa)) → (gco = cZ pco (24 * pa) (24 * pb) (ix - 24 * pa)) → (gcn pa = pcn pa) → (gcn pb = ix - 24 * pa) → ∀ (H : Heap) (locs : List Loc), va_P G cls0 [(w 0, .inr (4, [.int (iI it), .int (iI cd), .int (iI now), .ref (w 1), .ref (w 2), .int (iI gr), .int (iI md), .ref (w 3), .ref (w 4), .ref (w 5), .ref (w 6), .ref (w 7), .ref (w 8), .int (iI dO), .ref (w 9), .ref (w 10)])), (w 5, .inl (z.1, 66, .inl (aI gcn))), (w 6, .inl (z.1, 1584, .inl (aI grt))), (w 7, .inl (z.1, 1584, .inl (aI gnt))), (w 8, .inl (z.1, 1584, .inl (aI gco)))] H → va_D A [(w 0, .inr (4, [.int (iI it), .int (iI cd), .int (iI now), .ref (w 1), .ref (w 2), .int (iI gr), .int (iI md), .ref (w 3), .ref (w 4), .ref (w 5), .ref (w 6), .ref (w 7), .ref (w 8), .int (iI dO), .ref (w 9), .ref (w 10)])), (w 5, .inl (z.1, 66, .inl (aI gcn))), (w 6, .inl (z.1, 1584, .inl (aI grt))), (w 7, .inl (z.1, 1584, .inl (aI gnt))), (w 8, .inl (z.1, 1584, .inl (aI gco)))] → va_S A s.heap H locs → ∀ ls : Array Slot, lv_has ls 4 [(0, .ref (w 0)), (1, .int (iI pa)), (2, .int (iI pb)), (3, .int (iI ix))] → W p l e (rmD 1) s m [.ref (w 0), .int (iI pa), .int (iI pb)].toArray below meth c H locs 0 0 (Zv below [.ref (w 0), .int (iI pa), .int (iI pb)].toArray s (rmD 1) G A (fun u9 => u9 = [(w 0, .inr (4, [.int (iI it), .int (iI cd), .int (iI now), .ref (w 1), .ref (w 2), .int (iI gr), .int (iI md), .ref (w 3), .ref (w 4), .ref (w 5), .ref (w 6), .ref (w 7), .ref (w 8), .int (iI dO), .ref (w 9), .ref (w 10)])), (w 5, .inl (z.1, 66, .inl (aI (uZ pcn pb (pcn pa))))), (w 6, .inl (z.1, 1584, .inl (aI (cZ prt (24 * pa) (24 * pb) (pcn pa))))), (w 7, .inl (z.1, 1584, .inl (aI (cZ pnt (24 * pa) (24 * pb) (pcn pa))))), (w 8, .inl (z.1, 1584, .inl (aI (cZ pco (24 * pa) (24 * pb) (pcn pa)))))])) (F0 m 12 ls []) := by
    intro n9
    induction n9 with
    | zero => intro gcn grt gnt gco ix hmu; exact absurd hmu (Nat.not_lt_zero _)
    | succ n9 ih12 =>
      intro gcn grt gnt gco ix hmu hk e1 e2 e3 e4 ecn ecb H locs hP hD hS ls hl
      refine lv_iload_n hx hb d_M_copy_12 rfl (lv_at hl 3 rfl) ?_
      refine lv_bipush (v := iI 24) hx hb d_M_copy_13 (by decide +kernel) ?_
      refine lv_iload_n hx hb d_M_copy_15 rfl (lv_at hl 1 rfl) ?_
      refine rv_imul hx hb d_M_copy_16 ?_
      refine lv_aload_n hx hb d_M_copy_17 rfl (lv_at hl 0 rfl) ?_
      refine va_get (D := G) (ci := 4) (v := .ref (w 5)) (C := R_M) (T := T_M) (N := 16) hx hb hg iw_M hown hE.1 hP 0 rfl rfl 9 (by decide) (hg _ fl_M_27) (fun _ h9 => h9) rfl d_M_copy_18 ?_
      refine lv_iload_n hx hb d_M_copy_21 rfl (lv_at hl 1 rfl) ?_
      refine rv_iald hx hb hE hP 1 rfl (i := pa) (by (try have := rcn pa); omega) (by (try have := rcn pa); omega) (by decide) d_M_copy_22 ?_
      refine rv_iadd hx hb d_M_copy_23 ?_
      refine rv_icmp_ge (tgt := 56) hx hb d_M_copy_24 (by decide) (by (try have := rcn pa); constructor <;> omega) (by (try have := rcn pa); (try have := rgcn pa); constructor <;> omega) (fun c_1 => ?_) (fun c_1 => ?_)
      · skip
        have hP9 : va_P G cls0 [(w 0, .inr (4, [.int (iI it), .int (iI cd), .int (iI now), .ref (w 1), .ref (w 2), .int (iI gr), .int (iI md), .ref (w 3), .ref (w 4), .ref (w 5), .ref (w 6), .ref (w 7), .ref (w 8), .int (iI dO), .ref (w 9), .ref (w 10)])), (w 5, .inl (z.1, 66, .inl (aI gcn))), (w 6, .inl (z.1, 1584, .inl (aI grt))), (w 7, .inl (z.1, 1584, .inl (aI gnt))), (w 8, .inl (z.1, 1584, .inl (aI gco)))] H := hP.sub [0, 1, 2, 3, 4] rfl
        have hD9 : va_D A [(w 0, .inr (4, [.int (iI it), .int (iI cd), .int (iI now), .ref (w 1), .ref (w 2), .int (iI gr), .int (iI md), .ref (w 3), .ref (w 4), .ref (w 5), .ref (w 6), .ref (w 7), .ref (w 8), .int (iI dO), .ref (w 9), .ref (w 10)])), (w 5, .inl (z.1, 66, .inl (aI gcn))), (w 6, .inl (z.1, 1584, .inl (aI grt))), (w 7, .inl (z.1, 1584, .inl (aI gnt))), (w 8, .inl (z.1, 1584, .inl (aI gco)))] := hD.sub [0, 1, 2, 3, 4] (by decide) rfl
        refine rv_vret hx hb hRt hlocks (Nat.le_of_ble_eq_true rfl) (Nat.le_of_ble_eq_true rfl) hP9 hD9 hS d_M_copy_56 ?_
        exact (by have hk2 : pcn pa = ix - 24 * pa := (by omega); rw [e1, e2, e3, e4, hk2])
      · skip
        refine lv_aload_n hx hb d_M_copy_27 rfl (lv_at hl 0 rfl) ?_
        refine lv_iload_n hx hb d_M_copy_28 rfl (lv_at hl 2 rfl) ?_
        refine lv_aload_n hx hb d_M_copy_29 rfl (lv_at hl 0 rfl) ?_
        refine va_get (D := G) (ci := 4) (v := .ref (w 6)) (C := R_M) (T := T_M) (N := 16) hx hb hg iw_M hown hE.1 hP 0 rfl rfl 10 (by decide) (hg _ fl_M_30) (fun _ h9 => h9) rfl d_M_copy_30 ?_
        refine lv_iload_n hx hb d_M_copy_33 rfl (lv_at hl 3 rfl) ?_
        refine rv_iald hx hb hE hP 2 rfl (i := ix) (by (try have := rcn pa); omega) (by (try have := rcn pa); omega) (by decide) d_M_copy_34 ?_
        refine lv_aload_n hx hb d_M_copy_35 rfl (lv_at hl 0 rfl) ?_
        refine va_get (D := G) (ci := 4) (v := .ref (w 7)) (C := R_M) (T := T_M) (N := 16) hx hb hg iw_M hown hE.1 hP 0 rfl rfl 11 (by decide) (hg _ fl_M_33) (fun _ h9 => h9) rfl d_M_copy_36 ?_
        refine lv_iload_n hx hb d_M_copy_39 rfl (lv_at hl 3 rfl) ?_
        refine rv_iald hx hb hE hP 3 rfl (i := ix) (by (try have := rcn pa); omega) (by (try have := rcn pa); omega) (by decide) d_M_copy_40 ?_
        refine lv_aload_n hx hb d_M_copy_41 rfl (lv_at hl 0 rfl) ?_
        refine va_get (D := G) (ci := 4) (v := .ref (w 8)) (C := R_M) (T := T_M) (N := 16) hx hb hg iw_M hown hE.1 hP 0 rfl rfl 12 (by decide) (hg _ fl_M_36) (fun _ h9 => h9) rfl d_M_copy_42 ?_
        refine lv_iload_n hx hb d_M_copy_45 rfl (lv_at hl 3 rfl) ?_
        refine rv_iald hx hb hE hP 4 rfl (i := ix) (by (try have := rcn pa); omega) (by (try have := rcn pa); omega) (by decide) d_M_copy_46 ?_
        refine qV_v (As := [.int (iI pb), .int (iI (grt ix)), .int (iI (gnt ix)), .int (iI (gco ix))]) (rest := []) (wr := []) hx hb hml hown hg hE hA hS hP hD (k_M_add l G z w it cd now gr md dO gcn grt gnt gco pb (grt ix) (gnt ix) (gco ix) (by rw [e1]; exact uZ_rng rcn (by have := rcn pa; omega)) (by (try have := rcn pa); omega) (by (try have := rcn pa); (try have := rgcn pb); omega)) [0, 1, 2, 3, 4] [] rfl rfl (by decide) (by decide) (by decide) (q0 := 0) rfl rfl ml_M_62 im_M_add se_M_add in_M co_M_add ok_M_add ⟨Nat.le_of_ble_eq_true rfl, Nat.le_of_ble_eq_true rfl⟩ hl.1 rfl (Nat.le_of_ble_eq_true rfl) d_M_copy_47 ⟨Nat.le_of_ble_eq_true rfl, Nat.le_of_ble_eq_true rfl⟩ (fun u9 H locs hw hP hD hS => ?_)
        subst hw
        have hP : va_P G cls0 [(w 0, .inr (4, [.int (iI it), .int (iI cd), .int (iI now), .ref (w 1), .ref (w 2), .int (iI gr), .int (iI md), .ref (w 3), .ref (w 4), .ref (w 5), .ref (w 6), .ref (w 7), .ref (w 8), .int (iI dO), .ref (w 9), .ref (w 10)])), (w 5, .inl (z.1, 66, .inl (aI (uZ gcn pb (gcn pb + 1))))), (w 6, .inl (z.1, 1584, .inl (aI (uZ grt (24 * pb + gcn pb) (grt ix))))), (w 7, .inl (z.1, 1584, .inl (aI (uZ gnt (24 * pb + gcn pb) (gnt ix))))), (w 8, .inl (z.1, 1584, .inl (aI (uZ gco (24 * pb + gcn pb) (gco ix)))))] H := hP
        have hD : va_D A [(w 0, .inr (4, [.int (iI it), .int (iI cd), .int (iI now), .ref (w 1), .ref (w 2), .int (iI gr), .int (iI md), .ref (w 3), .ref (w 4), .ref (w 5), .ref (w 6), .ref (w 7), .ref (w 8), .int (iI dO), .ref (w 9), .ref (w 10)])), (w 5, .inl (z.1, 66, .inl (aI (uZ gcn pb (gcn pb + 1))))), (w 6, .inl (z.1, 1584, .inl (aI (uZ grt (24 * pb + gcn pb) (grt ix))))), (w 7, .inl (z.1, 1584, .inl (aI (uZ gnt (24 * pb + gcn pb) (gnt ix))))), (w 8, .inl (z.1, 1584, .inl (aI (uZ gco (24 * pb + gcn pb) (gco ix)))))] := hD
        have hz : ∀ g : Int → Int, uZ (cZ g (24 * pa) (24 * pb) (ix - 24 * pa)) (24 * pb + (ix - 24 * pa)) (cZ g (24 * pa) (24 * pb) (ix - 24 * pa) ix) = cZ g (24 * pa) (24 * pb) (ix + 1 - 24 * pa) := fun g => by
          have h := cZ_succ (g := g) (f := 24 * pa) (t := 24 * pb) (k := ix - 24 * pa) (by omega) (by have := rcn pa; omega)
          rw [show 24 * pa + (ix - 24 * pa) = ix by omega, show ix - 24 * pa + 1 = ix + 1 - 24 * pa by omega] at h
          exact h
        refine lv_iinc (v := iI (ix + 1)) (lv' := [(3, .int (iI (ix + 1))), (0, .ref (w 0)), (1, .int (iI pa)), (2, .int (iI pb))]) hx hb d_M_copy_50 hl (k := 3) rfl (iI_add _ _) (by decide) rfl (fun ls hl => ?_)
        refine lv_goto (tgt := 12) hx hb d_M_copy_53 (by decide) ?_
        exact ih12 _ _ _ _ (ix + 1) (by (try have := rcn pa); (try have := rcn pa); omega) (by (try have := rcn pa); (try have := rcn pa); omega) (by rw [ecb, e1, uZ_uZ, show ix - 24 * pa + 1 = ix + 1 - 24 * pa by omega]) (by rw [ecb, e2]; exact hz prt) (by rw [ecb, e3]; exact hz pnt) (by rw [ecb, e4]; exact hz pco) (by rw [uZ_n hne]; exact ecn) (by rw [uZ_s, ecb]; omega) H _ (hP.sub [0, 1, 2, 3, 4] rfl) (hD.sub [0, 1, 2, 3, 4] (by decide) rfl) hS ls (lv_sub hl [1, 2, 3, 0] rfl)
  exact L12 ((24 * pa + pcn pa - (24 * pa) : Int).toNat + 1) (uZ pcn pb 0) prt pnt pco (24 * pa) (Nat.lt_succ_self _) (by (try have := rcn pa); (try have := rcn pa); omega) (by rw [show 24 * pa - 24 * pa = 0 by omega]) (by rw [show 24 * pa - 24 * pa = 0 by omega, cZ_0]) (by rw [show 24 * pa - 24 * pa = 0 by omega, cZ_0]) (by rw [show 24 * pa - 24 * pa = 0 by omega, cZ_0]) (uZ_n hne) (by rw [uZ_s]; omega) H _ (hP.sub [0, 1, 2, 3, 4] rfl) (hD.sub [0, 1, 2, 3, 4] (by decide) rfl) hS ls (lv_sub hl [1, 2, 3, 0] rfl)
set_option maxHeartbeats 4000000 in
set_option maxRecDepth 100000 in
theorem k_M_begin (l : Launch) (G : va_G) (z : tz3) (w : Nat → Nat) (it : Int) (cd : Int) (now : Int) (gr : Int) (md : Int) (dO : Int) (pnu : Int → Int) (pcn : Int → Int) (o : Int) (num : Int) (ho : inR o) (hnu : inR num) : Kv l y_M_begin c_M_begin 3 (rmD 1) G z [.ref (w 0), .int (iI o), .int (iI num)] [(w 0, .inr (4, [.int (iI it), .int (iI cd), .int (iI now), .ref (w 1), .ref (w 2), .int (iI gr), .int (iI md), .ref (w 3), .ref (w 4), .ref (w 5), .ref (w 6), .ref (w 7), .ref (w 8), .int (iI dO), .ref (w 9), .ref (w 10)])), (w 3, .inl (z.1, 66, .inl (aI pnu))), (w 5, .inl (z.1, 66, .inl (aI pcn)))] (fun u9 => ∃ (c2 : Int) (dO2 : Int) (gnu : Int → Int) (gcn : Int → Int), u9 = [(w 0, .inr (4, [.int (iI it), .int (iI c2), .int (iI now), .ref (w 1), .ref (w 2), .int (iI gr), .int (iI md), .ref (w 3), .ref (w 4), .ref (w 5), .ref (w 6), .ref (w 7), .ref (w 8), .int (iI dO2), .ref (w 9), .ref (w 10)])), (w 3, .inl (z.1, 66, .inl (aI gnu))), (w 5, .inl (z.1, 66, .inl (aI gcn)))] ∧ ((¬ (0 ≤ o ∧ o < 64 ∧ 1 ≤ num ∧ num ≤ 1000000000) ∧ c2 = 1 ∧ dO2 = dO ∧ gnu = pnu ∧ gcn = pcn) ∨ ((0 ≤ o ∧ o < 64 ∧ 1 ≤ num ∧ num ≤ 1000000000) ∧ c2 = 0 ∧ dO2 = o ∧ gnu = uZ pnu 64 num ∧ gcn = uZ pcn 64 0))) := by
  refine Kv.of (by decide) (Nat.le_of_ble_eq_true rfl) ?_
  intro p e s m below meth c A hB hP hD ls hl
  obtain ⟨hx, hb, hRt, hml, hown, hlocks, hg, hE, hA, hin⟩ := hB
  have hown : s.vm.findClass R_M = some m.cls := hown
  have hl : lv_has ls 3 [(0, .ref (w 0)), (1, .int (iI o)), (2, .int (iI num))] := hl
  obtain ⟨H, hH⟩ : ∃ H, H = s.heap := ⟨_, rfl⟩
  have hS : va_S A s.heap H [] := by rw [hH]; exact va_S.rf
  rw [← hH] at hP
  rw [← hH]
  have hP : va_P G cls0 [(w 0, .inr (4, [.int (iI it), .int (iI cd), .int (iI now), .ref (w 1), .ref (w 2), .int (iI gr), .int (iI md), .ref (w 3), .ref (w 4), .ref (w 5), .ref (w 6), .ref (w 7), .ref (w 8), .int (iI dO), .ref (w 9), .ref (w 10)])), (w 3, .inl (z.1, 66, .inl (aI pnu))), (w 5, .inl (z.1, 66, .inl (aI pcn)))] H := hP
  have hD : va_D A [(w 0, .inr (4, [.int (iI it), .int (iI cd), .int (iI now), .ref (w 1), .ref (w 2), .int (iI gr), .int (iI md), .ref (w 3), .ref (w 4), .ref (w 5), .ref (w 6), .ref (w 7), .ref (w 8), .int (iI dO), .ref (w 9), .ref (w 10)])), (w 3, .inl (z.1, 66, .inl (aI pnu))), (w 5, .inl (z.1, 66, .inl (aI pcn)))] := hD
  refine lv_aload_n hx hb d_M_begin_0 rfl (lv_at hl 0 rfl) ?_
  refine lv_iload_n hx hb d_M_begin_1 rfl (lv_at hl 1 rfl) ?_
  refine lv_iconst (v := iI 0) hx hb d_M_begin_2 rfl ?_
  refine lv_bipush (v := iI 63) hx hb d_M_begin_3 (by decide +kernel) ?_
  refine qS_i (As := [.int (iI o), .int (iI 0), .int (iI 63)]) (rest := [.ref (w 0)]) (wr := [(w 0, .inr (4, [.int (iI it), .int (iI cd), .int (iI now), .ref (w 1), .ref (w 2), .int (iI gr), .int (iI md), .ref (w 3), .ref (w 4), .ref (w 5), .ref (w 6), .ref (w 7), .ref (w 8), .int (iI dO), .ref (w 9), .ref (w 10)])), (w 3, .inl (z.1, 66, .inl (aI pnu))), (w 5, .inl (z.1, 66, .inl (aI pcn)))]) hx hb hml hown hg hE hA hS hP hD (k_M_in l G z o 0 63 (by omega) (by omega) (by omega)) [] [0, 1, 2] rfl rfl (by decide) (by decide) (by decide) ml_M_51 st_M_in in_M co_M_in ok_M_in ⟨Nat.le_of_ble_eq_true rfl, Nat.le_of_ble_eq_true rfl⟩ hl.1 rfl (Nat.le_of_ble_eq_true rfl) d_M_begin_5 ⟨Nat.le_of_ble_eq_true rfl, Nat.le_of_ble_eq_true rfl⟩ (fun r9 u9 H locs hw hP hD hS => ?_)
  obtain ⟨rb_1, rfl, rfl, fb_2⟩ := hw
  have hP : va_P G cls0 [(w 0, .inr (4, [.int (iI it), .int (iI cd), .int (iI now), .ref (w 1), .ref (w 2), .int (iI gr), .int (iI md), .ref (w 3), .ref (w 4), .ref (w 5), .ref (w 6), .ref (w 7), .ref (w 8), .int (iI dO), .ref (w 9), .ref (w 10)])), (w 3, .inl (z.1, 66, .inl (aI pnu))), (w 5, .inl (z.1, 66, .inl (aI pcn)))] H := hP
  have hD : va_D A [(w 0, .inr (4, [.int (iI it), .int (iI cd), .int (iI now), .ref (w 1), .ref (w 2), .int (iI gr), .int (iI md), .ref (w 3), .ref (w 4), .ref (w 5), .ref (w 6), .ref (w 7), .ref (w 8), .int (iI dO), .ref (w 9), .ref (w 10)])), (w 3, .inl (z.1, 66, .inl (aI pnu))), (w 5, .inl (z.1, 66, .inl (aI pcn)))] := hD
  refine rv_if_eq (tgt := 25) hx hb d_M_begin_8 (by decide) (by constructor <;> omega) (fun c_3 => ?_) (fun c_3 => ?_)
  · skip
    refine lv_iconst (v := iI 1) hx hb d_M_begin_25 rfl ?_
    refine va_put (D := G) (ci := 4) (v := .int (iI 1)) (ty := .int) (C := R_M) (T := T_M) (N := 16) hx hb hg iw_M ty_M ty_M_ok nm_M hown hE.1 hP hD hS 0 rfl rfl 1 (by decide) (hg _ fl_M_48) (fun _ h9 => h9) rfl (by decide +kernel) rfl rfl (Nat.le_of_ble_eq_true rfl) d_M_begin_26 (fun H locs hP hD hS => ?_)
    have hP : va_P G cls0 [(w 0, .inr (4, [.int (iI it), .int (iI 1), .int (iI now), .ref (w 1), .ref (w 2), .int (iI gr), .int (iI md), .ref (w 3), .ref (w 4), .ref (w 5), .ref (w 6), .ref (w 7), .ref (w 8), .int (iI dO), .ref (w 9), .ref (w 10)])), (w 3, .inl (z.1, 66, .inl (aI pnu))), (w 5, .inl (z.1, 66, .inl (aI pcn)))] H := hP
    have hD : va_D A [(w 0, .inr (4, [.int (iI it), .int (iI 1), .int (iI now), .ref (w 1), .ref (w 2), .int (iI gr), .int (iI md), .ref (w 3), .ref (w 4), .ref (w 5), .ref (w 6), .ref (w 7), .ref (w 8), .int (iI dO), .ref (w 9), .ref (w 10)])), (w 3, .inl (z.1, 66, .inl (aI pnu))), (w 5, .inl (z.1, 66, .inl (aI pcn)))] := hD
    refine lv_aload_n hx hb d_M_begin_29 rfl (lv_at hl 0 rfl) ?_
    refine va_get (D := G) (ci := 4) (v := .int (iI 1)) (C := R_M) (T := T_M) (N := 16) hx hb hg iw_M hown hE.1 hP 0 rfl rfl 1 (by decide) (hg _ fl_M_48) (fun _ h9 => h9) rfl d_M_begin_30 ?_
    refine rv_if_ne (tgt := 57) hx hb d_M_begin_33 (by decide) ⟨by decide, by decide⟩ (fun c_4 => ?_) (fun c_4 => ?_)
    · skip
      have hP9 : va_P G cls0 [(w 0, .inr (4, [.int (iI it), .int (iI 1), .int (iI now), .ref (w 1), .ref (w 2), .int (iI gr), .int (iI md), .ref (w 3), .ref (w 4), .ref (w 5), .ref (w 6), .ref (w 7), .ref (w 8), .int (iI dO), .ref (w 9), .ref (w 10)])), (w 3, .inl (z.1, 66, .inl (aI pnu))), (w 5, .inl (z.1, 66, .inl (aI pcn)))] H := hP.sub [0, 1, 2] rfl
      have hD9 : va_D A [(w 0, .inr (4, [.int (iI it), .int (iI 1), .int (iI now), .ref (w 1), .ref (w 2), .int (iI gr), .int (iI md), .ref (w 3), .ref (w 4), .ref (w 5), .ref (w 6), .ref (w 7), .ref (w 8), .int (iI dO), .ref (w 9), .ref (w 10)])), (w 3, .inl (z.1, 66, .inl (aI pnu))), (w 5, .inl (z.1, 66, .inl (aI pcn)))] := hD.sub [0, 1, 2] (by decide) rfl
      refine rv_vret hx hb hRt hlocks (Nat.le_of_ble_eq_true rfl) (Nat.le_of_ble_eq_true rfl) hP9 hD9 hS d_M_begin_57 ?_
      exact ⟨1, dO, pnu, pcn, rfl, (by first | exact Or.inr ⟨by omega, rfl, rfl, rfl, rfl⟩ | exact Or.inl ⟨by omega, rfl, rfl, rfl, rfl⟩)⟩
    · exact absurd c_4 (by decide)
  · skip
    refine lv_iload_n hx hb d_M_begin_11 rfl (lv_at hl 2 rfl) ?_
    refine lv_iconst (v := iI 1) hx hb d_M_begin_12 rfl ?_
    refine lv_ldc (v := iI 1000000000) hx hb hown (hg _ cn_M_66) d_M_begin_13 ?_
    refine qS_i (As := [.int (iI num), .int (iI 1), .int (iI 1000000000)]) (rest := [.ref (w 0)]) (wr := [(w 0, .inr (4, [.int (iI it), .int (iI cd), .int (iI now), .ref (w 1), .ref (w 2), .int (iI gr), .int (iI md), .ref (w 3), .ref (w 4), .ref (w 5), .ref (w 6), .ref (w 7), .ref (w 8), .int (iI dO), .ref (w 9), .ref (w 10)])), (w 3, .inl (z.1, 66, .inl (aI pnu))), (w 5, .inl (z.1, 66, .inl (aI pcn)))]) hx hb hml hown hg hE hA hS hP hD (k_M_in l G z num 1 1000000000 (by omega) (by omega) (by omega)) [] [0, 1, 2] rfl rfl (by decide) (by decide) (by decide) ml_M_51 st_M_in in_M co_M_in ok_M_in ⟨Nat.le_of_ble_eq_true rfl, Nat.le_of_ble_eq_true rfl⟩ hl.1 rfl (Nat.le_of_ble_eq_true rfl) d_M_begin_15 ⟨Nat.le_of_ble_eq_true rfl, Nat.le_of_ble_eq_true rfl⟩ (fun r9 u9 H locs hw hP hD hS => ?_)
    obtain ⟨rb_5, rfl, rfl, fb_6⟩ := hw
    have hP : va_P G cls0 [(w 0, .inr (4, [.int (iI it), .int (iI cd), .int (iI now), .ref (w 1), .ref (w 2), .int (iI gr), .int (iI md), .ref (w 3), .ref (w 4), .ref (w 5), .ref (w 6), .ref (w 7), .ref (w 8), .int (iI dO), .ref (w 9), .ref (w 10)])), (w 3, .inl (z.1, 66, .inl (aI pnu))), (w 5, .inl (z.1, 66, .inl (aI pcn)))] H := hP
    have hD : va_D A [(w 0, .inr (4, [.int (iI it), .int (iI cd), .int (iI now), .ref (w 1), .ref (w 2), .int (iI gr), .int (iI md), .ref (w 3), .ref (w 4), .ref (w 5), .ref (w 6), .ref (w 7), .ref (w 8), .int (iI dO), .ref (w 9), .ref (w 10)])), (w 3, .inl (z.1, 66, .inl (aI pnu))), (w 5, .inl (z.1, 66, .inl (aI pcn)))] := hD
    refine rv_if_eq (tgt := 25) hx hb d_M_begin_18 (by decide) (by constructor <;> omega) (fun c_7 => ?_) (fun c_7 => ?_)
    · skip
      refine lv_iconst (v := iI 1) hx hb d_M_begin_25 rfl ?_
      refine va_put (D := G) (ci := 4) (v := .int (iI 1)) (ty := .int) (C := R_M) (T := T_M) (N := 16) hx hb hg iw_M ty_M ty_M_ok nm_M hown hE.1 hP hD hS 0 rfl rfl 1 (by decide) (hg _ fl_M_48) (fun _ h9 => h9) rfl (by decide +kernel) rfl rfl (Nat.le_of_ble_eq_true rfl) d_M_begin_26 (fun H locs hP hD hS => ?_)
      have hP : va_P G cls0 [(w 0, .inr (4, [.int (iI it), .int (iI 1), .int (iI now), .ref (w 1), .ref (w 2), .int (iI gr), .int (iI md), .ref (w 3), .ref (w 4), .ref (w 5), .ref (w 6), .ref (w 7), .ref (w 8), .int (iI dO), .ref (w 9), .ref (w 10)])), (w 3, .inl (z.1, 66, .inl (aI pnu))), (w 5, .inl (z.1, 66, .inl (aI pcn)))] H := hP
      have hD : va_D A [(w 0, .inr (4, [.int (iI it), .int (iI 1), .int (iI now), .ref (w 1), .ref (w 2), .int (iI gr), .int (iI md), .ref (w 3), .ref (w 4), .ref (w 5), .ref (w 6), .ref (w 7), .ref (w 8), .int (iI dO), .ref (w 9), .ref (w 10)])), (w 3, .inl (z.1, 66, .inl (aI pnu))), (w 5, .inl (z.1, 66, .inl (aI pcn)))] := hD
      refine lv_aload_n hx hb d_M_begin_29 rfl (lv_at hl 0 rfl) ?_
      refine va_get (D := G) (ci := 4) (v := .int (iI 1)) (C := R_M) (T := T_M) (N := 16) hx hb hg iw_M hown hE.1 hP 0 rfl rfl 1 (by decide) (hg _ fl_M_48) (fun _ h9 => h9) rfl d_M_begin_30 ?_
      refine rv_if_ne (tgt := 57) hx hb d_M_begin_33 (by decide) ⟨by decide, by decide⟩ (fun c_8 => ?_) (fun c_8 => ?_)
      · skip
        have hP9 : va_P G cls0 [(w 0, .inr (4, [.int (iI it), .int (iI 1), .int (iI now), .ref (w 1), .ref (w 2), .int (iI gr), .int (iI md), .ref (w 3), .ref (w 4), .ref (w 5), .ref (w 6), .ref (w 7), .ref (w 8), .int (iI dO), .ref (w 9), .ref (w 10)])), (w 3, .inl (z.1, 66, .inl (aI pnu))), (w 5, .inl (z.1, 66, .inl (aI pcn)))] H := hP.sub [0, 1, 2] rfl
        have hD9 : va_D A [(w 0, .inr (4, [.int (iI it), .int (iI 1), .int (iI now), .ref (w 1), .ref (w 2), .int (iI gr), .int (iI md), .ref (w 3), .ref (w 4), .ref (w 5), .ref (w 6), .ref (w 7), .ref (w 8), .int (iI dO), .ref (w 9), .ref (w 10)])), (w 3, .inl (z.1, 66, .inl (aI pnu))), (w 5, .inl (z.1, 66, .inl (aI pcn)))] := hD.sub [0, 1, 2] (by decide) rfl
        refine rv_vret hx hb hRt hlocks (Nat.le_of_ble_eq_true rfl) (Nat.le_of_ble_eq_true rfl) hP9 hD9 hS d_M_begin_57 ?_
        exact ⟨1, dO, pnu, pcn, rfl, (by first | exact Or.inr ⟨by omega, rfl, rfl, rfl, rfl⟩ | exact Or.inl ⟨by omega, rfl, rfl, rfl, rfl⟩)⟩
      · exact absurd c_8 (by decide)
    · skip
      refine lv_iconst (v := iI 0) hx hb d_M_begin_21 rfl ?_
      refine lv_goto (tgt := 26) hx hb d_M_begin_22 (by decide) ?_
      refine va_put (D := G) (ci := 4) (v := .int (iI 0)) (ty := .int) (C := R_M) (T := T_M) (N := 16) hx hb hg iw_M ty_M ty_M_ok nm_M hown hE.1 hP hD hS 0 rfl rfl 1 (by decide) (hg _ fl_M_48) (fun _ h9 => h9) rfl (by decide +kernel) rfl rfl (Nat.le_of_ble_eq_true rfl) d_M_begin_26 (fun H locs hP hD hS => ?_)
      have hP : va_P G cls0 [(w 0, .inr (4, [.int (iI it), .int (iI 0), .int (iI now), .ref (w 1), .ref (w 2), .int (iI gr), .int (iI md), .ref (w 3), .ref (w 4), .ref (w 5), .ref (w 6), .ref (w 7), .ref (w 8), .int (iI dO), .ref (w 9), .ref (w 10)])), (w 3, .inl (z.1, 66, .inl (aI pnu))), (w 5, .inl (z.1, 66, .inl (aI pcn)))] H := hP
      have hD : va_D A [(w 0, .inr (4, [.int (iI it), .int (iI 0), .int (iI now), .ref (w 1), .ref (w 2), .int (iI gr), .int (iI md), .ref (w 3), .ref (w 4), .ref (w 5), .ref (w 6), .ref (w 7), .ref (w 8), .int (iI dO), .ref (w 9), .ref (w 10)])), (w 3, .inl (z.1, 66, .inl (aI pnu))), (w 5, .inl (z.1, 66, .inl (aI pcn)))] := hD
      refine lv_aload_n hx hb d_M_begin_29 rfl (lv_at hl 0 rfl) ?_
      refine va_get (D := G) (ci := 4) (v := .int (iI 0)) (C := R_M) (T := T_M) (N := 16) hx hb hg iw_M hown hE.1 hP 0 rfl rfl 1 (by decide) (hg _ fl_M_48) (fun _ h9 => h9) rfl d_M_begin_30 ?_
      refine rv_if_ne (tgt := 57) hx hb d_M_begin_33 (by decide) ⟨by decide, by decide⟩ (fun c_9 => ?_) (fun c_9 => ?_)
      · exact absurd c_9 (by decide)
      · skip
        refine lv_aload_n hx hb d_M_begin_36 rfl (lv_at hl 0 rfl) ?_
        refine lv_iload_n hx hb d_M_begin_37 rfl (lv_at hl 1 rfl) ?_
        refine va_put (D := G) (ci := 4) (v := .int (iI o)) (ty := .int) (C := R_M) (T := T_M) (N := 16) hx hb hg iw_M ty_M ty_M_ok nm_M hown hE.1 hP hD hS 0 rfl rfl 13 (by decide) (hg _ fl_M_67) (fun _ h9 => h9) rfl (by decide +kernel) rfl rfl (Nat.le_of_ble_eq_true rfl) d_M_begin_38 (fun H locs hP hD hS => ?_)
        have hP : va_P G cls0 [(w 0, .inr (4, [.int (iI it), .int (iI 0), .int (iI now), .ref (w 1), .ref (w 2), .int (iI gr), .int (iI md), .ref (w 3), .ref (w 4), .ref (w 5), .ref (w 6), .ref (w 7), .ref (w 8), .int (iI o), .ref (w 9), .ref (w 10)])), (w 3, .inl (z.1, 66, .inl (aI pnu))), (w 5, .inl (z.1, 66, .inl (aI pcn)))] H := hP
        have hD : va_D A [(w 0, .inr (4, [.int (iI it), .int (iI 0), .int (iI now), .ref (w 1), .ref (w 2), .int (iI gr), .int (iI md), .ref (w 3), .ref (w 4), .ref (w 5), .ref (w 6), .ref (w 7), .ref (w 8), .int (iI o), .ref (w 9), .ref (w 10)])), (w 3, .inl (z.1, 66, .inl (aI pnu))), (w 5, .inl (z.1, 66, .inl (aI pcn)))] := hD
        refine lv_aload_n hx hb d_M_begin_41 rfl (lv_at hl 0 rfl) ?_
        refine va_get (D := G) (ci := 4) (v := .ref (w 3)) (C := R_M) (T := T_M) (N := 16) hx hb hg iw_M hown hE.1 hP 0 rfl rfl 7 (by decide) (hg _ fl_M_21) (fun _ h9 => h9) rfl d_M_begin_42 ?_
        refine lv_bipush (v := iI 64) hx hb d_M_begin_45 (by decide +kernel) ?_
        refine lv_iload_n hx hb d_M_begin_47 rfl (lv_at hl 2 rfl) ?_
        refine rv_iast hx hb hE hP hD hS 1 rfl (i := 64) (x := num) (by omega) (by omega) (by decide) d_M_begin_48 (fun H locs hP hD hS => ?_)
        have hP : va_P G cls0 [(w 0, .inr (4, [.int (iI it), .int (iI 0), .int (iI now), .ref (w 1), .ref (w 2), .int (iI gr), .int (iI md), .ref (w 3), .ref (w 4), .ref (w 5), .ref (w 6), .ref (w 7), .ref (w 8), .int (iI o), .ref (w 9), .ref (w 10)])), (w 3, .inl (z.1, 66, .inl (aI (uZ pnu 64 num)))), (w 5, .inl (z.1, 66, .inl (aI pcn)))] H := hP
        have hD : va_D A [(w 0, .inr (4, [.int (iI it), .int (iI 0), .int (iI now), .ref (w 1), .ref (w 2), .int (iI gr), .int (iI md), .ref (w 3), .ref (w 4), .ref (w 5), .ref (w 6), .ref (w 7), .ref (w 8), .int (iI o), .ref (w 9), .ref (w 10)])), (w 3, .inl (z.1, 66, .inl (aI (uZ pnu 64 num)))), (w 5, .inl (z.1, 66, .inl (aI pcn)))] := hD
        refine lv_aload_n hx hb d_M_begin_49 rfl (lv_at hl 0 rfl) ?_
        refine va_get (D := G) (ci := 4) (v := .ref (w 5)) (C := R_M) (T := T_M) (N := 16) hx hb hg iw_M hown hE.1 hP 0 rfl rfl 9 (by decide) (hg _ fl_M_27) (fun _ h9 => h9) rfl d_M_begin_50 ?_
        refine lv_bipush (v := iI 64) hx hb d_M_begin_53 (by decide +kernel) ?_
        refine lv_iconst (v := iI 0) hx hb d_M_begin_55 rfl ?_
        refine rv_iast hx hb hE hP hD hS 2 rfl (i := 64) (x := 0) (by omega) (by omega) (by decide) d_M_begin_56 (fun H locs hP hD hS => ?_)
        have hP : va_P G cls0 [(w 0, .inr (4, [.int (iI it), .int (iI 0), .int (iI now), .ref (w 1), .ref (w 2), .int (iI gr), .int (iI md), .ref (w 3), .ref (w 4), .ref (w 5), .ref (w 6), .ref (w 7), .ref (w 8), .int (iI o), .ref (w 9), .ref (w 10)])), (w 3, .inl (z.1, 66, .inl (aI (uZ pnu 64 num)))), (w 5, .inl (z.1, 66, .inl (aI (uZ pcn 64 0))))] H := hP
        have hD : va_D A [(w 0, .inr (4, [.int (iI it), .int (iI 0), .int (iI now), .ref (w 1), .ref (w 2), .int (iI gr), .int (iI md), .ref (w 3), .ref (w 4), .ref (w 5), .ref (w 6), .ref (w 7), .ref (w 8), .int (iI o), .ref (w 9), .ref (w 10)])), (w 3, .inl (z.1, 66, .inl (aI (uZ pnu 64 num)))), (w 5, .inl (z.1, 66, .inl (aI (uZ pcn 64 0))))] := hD
        have hP9 : va_P G cls0 [(w 0, .inr (4, [.int (iI it), .int (iI 0), .int (iI now), .ref (w 1), .ref (w 2), .int (iI gr), .int (iI md), .ref (w 3), .ref (w 4), .ref (w 5), .ref (w 6), .ref (w 7), .ref (w 8), .int (iI o), .ref (w 9), .ref (w 10)])), (w 3, .inl (z.1, 66, .inl (aI (uZ pnu 64 num)))), (w 5, .inl (z.1, 66, .inl (aI (uZ pcn 64 0))))] H := hP.sub [0, 1, 2] rfl
        have hD9 : va_D A [(w 0, .inr (4, [.int (iI it), .int (iI 0), .int (iI now), .ref (w 1), .ref (w 2), .int (iI gr), .int (iI md), .ref (w 3), .ref (w 4), .ref (w 5), .ref (w 6), .ref (w 7), .ref (w 8), .int (iI o), .ref (w 9), .ref (w 10)])), (w 3, .inl (z.1, 66, .inl (aI (uZ pnu 64 num)))), (w 5, .inl (z.1, 66, .inl (aI (uZ pcn 64 0))))] := hD.sub [0, 1, 2] (by decide) rfl
        refine rv_vret hx hb hRt hlocks (Nat.le_of_ble_eq_true rfl) (Nat.le_of_ble_eq_true rfl) hP9 hD9 hS d_M_begin_57 ?_
        exact ⟨0, o, (uZ pnu 64 num), (uZ pcn 64 0), rfl, (by first | exact Or.inr ⟨by omega, rfl, rfl, rfl, rfl⟩ | exact Or.inl ⟨by omega, rfl, rfl, rfl, rfl⟩)⟩
