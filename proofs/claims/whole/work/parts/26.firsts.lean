set_option maxHeartbeats 4000000 in
set_option maxRecDepth 100000 in
theorem k_J_bitCount (l : Launch) (G : va_G) (z : tz3) (mk : Int) (hmk : 0 ≤ mk ∧ mk < 16777216) : Ki l y_J_bitCount c_J_bitCount 1 (some .int) (rmD 0) G z [.int (iI mk)] [] (fun r9 u9 => u9 = [] ∧ r9 = iI (popI mk)) := by
  refine Ki.of (by decide) (Nat.le_of_ble_eq_true rfl) ?_
  intro p e s m below meth c A hB hP hD ls hl
  obtain ⟨hx, hb, hRt, hml, hown, hlocks, hg, hE, hA, hin⟩ := hB
  have hown : s.vm.findClass R_J = some m.cls := hown
  have hl : lv_has ls 1 [(0, .int (iI mk))] := hl
  obtain ⟨H, hH⟩ : ∃ H, H = s.heap := ⟨_, rfl⟩
  have hS : va_S A s.heap H [] := by rw [hH]; exact va_S.rf
  rw [← hH] at hP
  rw [← hH]
  have hP : va_P G cls0 [] H := hP
  have hD : va_D A [] := hD
  obtain ⟨n, rfl⟩ : ∃ n : Nat, mk = (n : Int) := ⟨mk.toNat, by omega⟩
  have hn : n < 16777216 := by omega
  rw [iI_n] at hl
  have key : ∀ a1 a2 a3 a4 a5 : Nat, a1 = n - ((n / 2) &&& 1431655765) → a2 = (a1 &&& 858993459) + ((a1 / 4) &&& 858993459) → a3 = (a2 + a2 / 16) &&& 252645135 → a4 = a3 + a3 / 256 → a5 = a4 + a4 / 65536 → (n / 2) &&& 1431655765 ≤ n ∧ a1 < 16777216 ∧ a2 < 16777216 ∧ a3 < 16777216 ∧ a4 < 16777216 ∧ nI (a5 &&& 63) = iI (popI n) := by
    intro a1 a2 a3 a4 a5 e1 e2 e3 e4 e5
    have hs : n = 256 * (256 * (n / 65536) + n / 256 % 256) + n % 256 := by omega
    have h := pcN (b2 := n / 65536) (b1 := n / 256 % 256) (b0 := n % 256) (by omega) (by omega) (by omega) hs e1 e2 e3 e4 e5
    have h2 := pop_split (b2 := n / 65536) (b1 := n / 256 % 256) (b0 := n % 256) (by omega) (by omega) (by omega)
    rw [← hs] at h2
    refine ⟨h.1, h.2.1, h.2.2.1, h.2.2.2.1, h.2.2.2.2.1, ?_⟩
    rw [← iI_n, h.2.2.2.2.2]
    unfold popI cI
    exact congrArg iI h2.symm
  have hle := (key _ _ _ _ _ rfl rfl rfl rfl rfl).1
  refine lv_iload_n hx hb d_J_bitCount_0 rfl (lv_at hl 0 rfl) ?_
  refine lv_iload_n hx hb d_J_bitCount_1 rfl (lv_at hl 0 rfl) ?_
  refine lv_iconst (v := nI 1) hx hb d_J_bitCount_2 rfl ?_
  refine rn_iushr (n := n) hx hb 1 (by decide +kernel) d_J_bitCount_3 (by omega) ?_
  refine lv_ldcw (v := nI 1431655765) hx hb hown (hg _ cn_J_265) d_J_bitCount_4 ?_
  refine rn_iand hx hb d_J_bitCount_7 ?_
  refine rn_isub hx hb d_J_bitCount_8 hle ?_
  refine rn_top (fun a1 e1 => ?_)
  have q1 := (key a1 _ _ _ _ e1 rfl rfl rfl rfl).2.1
  refine lv_istore_n (lv' := [(0, .int (nI a1))]) hx hb d_J_bitCount_9 rfl hl (by decide) rfl (fun ls hl => ?_)
  refine lv_iload_n hx hb d_J_bitCount_10 rfl (lv_at hl 0 rfl) ?_
  refine lv_ldcw (v := nI 858993459) hx hb hown (hg _ cn_J_266) d_J_bitCount_11 ?_
  refine rn_iand hx hb d_J_bitCount_14 ?_
  refine lv_iload_n hx hb d_J_bitCount_15 rfl (lv_at hl 0 rfl) ?_
  refine lv_iconst (v := nI 2) hx hb d_J_bitCount_16 rfl ?_
  refine rn_iushr (n := a1) hx hb 2 (by decide +kernel) d_J_bitCount_17 (by omega) ?_
  refine lv_ldcw (v := nI 858993459) hx hb hown (hg _ cn_J_266) d_J_bitCount_18 ?_
  refine rn_iand hx hb d_J_bitCount_21 ?_
  refine rn_iadd hx hb d_J_bitCount_22 ?_
  refine rn_top (fun a2 e2 => ?_)
  have q2 := (key a1 a2 _ _ _ e1 e2 rfl rfl rfl).2.2.1
  refine lv_istore_n (lv' := [(0, .int (nI a2))]) hx hb d_J_bitCount_23 rfl hl (by decide) rfl (fun ls hl => ?_)
  refine lv_iload_n hx hb d_J_bitCount_24 rfl (lv_at hl 0 rfl) ?_
  refine lv_iload_n hx hb d_J_bitCount_25 rfl (lv_at hl 0 rfl) ?_
  refine lv_iconst (v := nI 4) hx hb d_J_bitCount_26 rfl ?_
  refine rn_iushr (n := a2) hx hb 4 (by decide +kernel) d_J_bitCount_27 (by omega) ?_
  refine rn_iadd hx hb d_J_bitCount_28 ?_
  refine lv_ldcw (v := nI 252645135) hx hb hown (hg _ cn_J_267) d_J_bitCount_29 ?_
  refine rn_iand hx hb d_J_bitCount_32 ?_
  refine rn_top (fun a3 e3 => ?_)
  have q3 := (key a1 a2 a3 _ _ e1 e2 e3 rfl rfl).2.2.2.1
  refine lv_istore_n (lv' := [(0, .int (nI a3))]) hx hb d_J_bitCount_33 rfl hl (by decide) rfl (fun ls hl => ?_)
  refine lv_iload_n hx hb d_J_bitCount_34 rfl (lv_at hl 0 rfl) ?_
  refine lv_iload_n hx hb d_J_bitCount_35 rfl (lv_at hl 0 rfl) ?_
  refine lv_bipush (v := nI 8) hx hb d_J_bitCount_36 (by decide +kernel) ?_
  refine rn_iushr (n := a3) hx hb 8 (by decide +kernel) d_J_bitCount_38 (by omega) ?_
  refine rn_iadd hx hb d_J_bitCount_39 ?_
  refine rn_top (fun a4 e4 => ?_)
  have q4 := (key a1 a2 a3 a4 _ e1 e2 e3 e4 rfl).2.2.2.2.1
  refine lv_istore_n (lv' := [(0, .int (nI a4))]) hx hb d_J_bitCount_40 rfl hl (by decide) rfl (fun ls hl => ?_)
  refine lv_iload_n hx hb d_J_bitCount_41 rfl (lv_at hl 0 rfl) ?_
  refine lv_iload_n hx hb d_J_bitCount_42 rfl (lv_at hl 0 rfl) ?_
  refine lv_bipush (v := nI 16) hx hb d_J_bitCount_43 (by decide +kernel) ?_
  refine rn_iushr (n := a4) hx hb 16 (by decide +kernel) d_J_bitCount_45 (by omega) ?_
  refine rn_iadd hx hb d_J_bitCount_46 ?_
  refine rn_top (fun a5 e5 => ?_)
  refine lv_istore_n (lv' := [(0, .int (nI a5))]) hx hb d_J_bitCount_47 rfl hl (by decide) rfl (fun ls hl => ?_)
  refine lv_iload_n hx hb d_J_bitCount_48 rfl (lv_at hl 0 rfl) ?_
  refine lv_bipush (v := nI 63) hx hb d_J_bitCount_49 (by decide +kernel) ?_
  refine rn_iand hx hb d_J_bitCount_51 ?_
  have hP9 : va_P G cls0 [] H := hP
  have hD9 : va_D A [] := hD
  refine rv_iret hx hb hRt (nar_int _) hlocks (Nat.le_of_ble_eq_true rfl) (Nat.le_of_ble_eq_true rfl) hP9 hD9 hS d_J_bitCount_52 ?_
  exact ⟨rfl, (key a1 a2 a3 a4 a5 e1 e2 e3 e4 e5).2.2.2.2.2⟩
set_option maxHeartbeats 4000000 in
set_option maxRecDepth 100000 in
theorem k_J_numberOfTrailingZeros (l : Launch) (G : va_G) (z : tz3) (mk : Int) (t : Nat) (qq : Nat) (hmk : 0 ≤ mk ∧ mk < 16777216) (hlow : mk.toNat = 2 ^ (t + 1) * qq + 2 ^ t) (ht : t < 24) : Ki l y_J_numberOfTrailingZeros c_J_numberOfTrailingZeros 2 (some .int) (rmD 0) G z [.int (iI mk)] [] (fun r9 u9 => u9 = [] ∧ r9 = iI ((t : Int))) := by
  refine Ki.of (by decide) (Nat.le_of_ble_eq_true rfl) ?_
  intro p e s m below meth c A hB hP hD ls hl
  obtain ⟨hx, hb, hRt, hml, hown, hlocks, hg, hE, hA, hin⟩ := hB
  have hown : s.vm.findClass R_J = some m.cls := hown
  have hl : lv_has ls 2 [(0, .int (iI mk))] := hl
  obtain ⟨H, hH⟩ : ∃ H, H = s.heap := ⟨_, rfl⟩
  have hS : va_S A s.heap H [] := by rw [hH]; exact va_S.rf
  rw [← hH] at hP
  rw [← hH]
  have hP : va_P G cls0 [] H := hP
  have hD : va_D A [] := hD
  obtain ⟨v0, hv0⟩ : ∃ v : Int, ((2 ^ t - 1 : Nat) : Int) = v := ⟨_, rfl⟩
  have hv1 : 0 ≤ v0 ∧ v0 ≤ 8388607 := by
    have h1 : 2 ^ t ≤ 2 ^ 23 := Nat.pow_le_pow_right (by omega) (by omega)
    have h2 : 0 < 2 ^ t := Nat.two_pow_pos t
    generalize 2 ^ t = w9 at h1 h2 hv0
    omega
  refine lv_iload_n hx hb d_J_numberOfTrailingZeros_0 rfl (lv_at hl 0 rfl) ?_
  refine lv_iconst (v := iI (-1)) hx hb d_J_numberOfTrailingZeros_1 rfl ?_
  refine lv_ixor hx hb d_J_numberOfTrailingZeros_2 ?_
  refine lv_iload_n hx hb d_J_numberOfTrailingZeros_3 rfl (lv_at hl 0 rfl) ?_
  refine lv_iconst (v := iI 1) hx hb d_J_numberOfTrailingZeros_4 rfl ?_
  refine rv_isub hx hb d_J_numberOfTrailingZeros_5 ?_
  refine rv_low hx hb (iI_low (t := t) (q := qq) hmk.1 (by omega) hlow) d_J_numberOfTrailingZeros_6 ?_
  have hw0 : ((2 ^ t - 1 : Nat) : Int) = v0 := hv0
  rw [hw0]
  refine lv_istore_n (lv' := [(0, .int (iI v0))]) hx hb d_J_numberOfTrailingZeros_7 rfl hl (by decide) rfl (fun ls hl => ?_)
  refine lv_iload_n hx hb d_J_numberOfTrailingZeros_8 rfl (lv_at hl 0 rfl) ?_
  refine rv_if_gt (tgt := 17) hx hb d_J_numberOfTrailingZeros_9 (by decide) (by constructor <;> omega) (fun c_1 => ?_) (fun c_1 => ?_)
  · skip
    refine lv_iconst (v := iI 1) hx hb d_J_numberOfTrailingZeros_17 rfl ?_
    refine lv_istore_n (lv' := [(1, .int (iI 1)), (0, .int (iI v0))]) hx hb d_J_numberOfTrailingZeros_18 rfl hl (by decide) rfl (fun ls hl => ?_)
    refine lv_iload_n hx hb d_J_numberOfTrailingZeros_19 rfl (lv_at hl 1 rfl) ?_
    refine lv_ldcw (v := iI 65536) hx hb hown (hg _ cn_J_264) d_J_numberOfTrailingZeros_20 ?_
    refine rv_icmp_le (tgt := 34) hx hb d_J_numberOfTrailingZeros_23 (by decide) (by constructor <;> omega) ⟨by decide, by decide⟩ (fun c_2 => ?_) (fun c_2 => ?_)
    · skip
      refine lv_iload_n hx hb d_J_numberOfTrailingZeros_34 rfl (lv_at hl 1 rfl) ?_
      refine lv_sipush (v := iI 256) hx hb d_J_numberOfTrailingZeros_35 (by decide +kernel) ?_
      refine rv_icmp_le (tgt := 49) hx hb d_J_numberOfTrailingZeros_38 (by decide) (by constructor <;> omega) ⟨by decide, by decide⟩ (fun c_3 => ?_) (fun c_3 => ?_)
      · skip
        refine lv_iload_n hx hb d_J_numberOfTrailingZeros_49 rfl (lv_at hl 1 rfl) ?_
        refine lv_bipush (v := iI 16) hx hb d_J_numberOfTrailingZeros_50 (by decide +kernel) ?_
        refine rv_icmp_le (tgt := 62) hx hb d_J_numberOfTrailingZeros_52 (by decide) (by constructor <;> omega) ⟨by decide, by decide⟩ (fun c_4 => ?_) (fun c_4 => ?_)
        · skip
          refine lv_iload_n hx hb d_J_numberOfTrailingZeros_62 rfl (lv_at hl 1 rfl) ?_
          refine lv_iconst (v := iI 4) hx hb d_J_numberOfTrailingZeros_63 rfl ?_
          refine rv_icmp_le (tgt := 74) hx hb d_J_numberOfTrailingZeros_64 (by decide) (by constructor <;> omega) ⟨by decide, by decide⟩ (fun c_5 => ?_) (fun c_5 => ?_)
          · skip
            refine lv_iload_n hx hb d_J_numberOfTrailingZeros_74 rfl (lv_at hl 0 rfl) ?_
            refine lv_iload_n hx hb d_J_numberOfTrailingZeros_75 rfl (lv_at hl 1 rfl) ?_
            refine lv_iconst (v := iI 1) hx hb d_J_numberOfTrailingZeros_76 rfl ?_
            refine rv_iushr (x := v0) hx hb 1 (by decide +kernel) d_J_numberOfTrailingZeros_77 (by omega) (by omega) ?_
            refine rv_iadd hx hb d_J_numberOfTrailingZeros_78 ?_
            have hP9 : va_P G cls0 [] H := hP
            have hD9 : va_D A [] := hD
            refine rv_iret hx hb hRt (nar_int _) hlocks (Nat.le_of_ble_eq_true rfl) (Nat.le_of_ble_eq_true rfl) hP9 hD9 hS d_J_numberOfTrailingZeros_79 ?_
            refine ⟨rfl, congrArg iI ?_⟩
            clear hlow hmk
            rcases (show t = 0 ∨ t = 1 ∨ t = 2 ∨ t = 3 ∨ t = 4 ∨ t = 5 ∨ t = 6 ∨ t = 7 ∨ t = 8 ∨ t = 9 ∨ t = 10 ∨ t = 11 ∨ t = 12 ∨ t = 13 ∨ t = 14 ∨ t = 15 ∨ t = 16 ∨ t = 17 ∨ t = 18 ∨ t = 19 ∨ t = 20 ∨ t = 21 ∨ t = 22 ∨ t = 23 by omega) with rfl | rfl | rfl | rfl | rfl | rfl | rfl | rfl | rfl | rfl | rfl | rfl | rfl | rfl | rfl | rfl | rfl | rfl | rfl | rfl | rfl | rfl | rfl | rfl <;> simp at hv0 <;> omega
          · skip
            refine lv_iinc (v := iI (1 + 2)) (lv' := [(1, .int (iI (1 + 2))), (0, .int (iI v0))]) hx hb d_J_numberOfTrailingZeros_67 hl (k := 0) rfl (iI_add _ _) (by decide) rfl (fun ls hl => ?_)
            refine lv_iload_n hx hb d_J_numberOfTrailingZeros_70 rfl (lv_at hl 1 rfl) ?_
            refine lv_iconst (v := iI 2) hx hb d_J_numberOfTrailingZeros_71 rfl ?_
            refine rv_iushr (x := v0) hx hb 2 (by decide +kernel) d_J_numberOfTrailingZeros_72 (by omega) (by omega) ?_
            refine lv_istore_n (lv' := [(0, .int (iI (v0 / 4))), (1, .int (iI (1 + 2)))]) hx hb d_J_numberOfTrailingZeros_73 rfl hl (by decide) rfl (fun ls hl => ?_)
            refine lv_iload_n hx hb d_J_numberOfTrailingZeros_74 rfl (lv_at hl 1 rfl) ?_
            refine lv_iload_n hx hb d_J_numberOfTrailingZeros_75 rfl (lv_at hl 0 rfl) ?_
            refine lv_iconst (v := iI 1) hx hb d_J_numberOfTrailingZeros_76 rfl ?_
            refine rv_iushr (x := v0 / 4) hx hb 1 (by decide +kernel) d_J_numberOfTrailingZeros_77 (by omega) (by omega) ?_
            refine rv_iadd hx hb d_J_numberOfTrailingZeros_78 ?_
            have hP9 : va_P G cls0 [] H := hP
            have hD9 : va_D A [] := hD
            refine rv_iret hx hb hRt (nar_int _) hlocks (Nat.le_of_ble_eq_true rfl) (Nat.le_of_ble_eq_true rfl) hP9 hD9 hS d_J_numberOfTrailingZeros_79 ?_
            refine ⟨rfl, congrArg iI ?_⟩
            clear hlow hmk
            rcases (show t = 0 ∨ t = 1 ∨ t = 2 ∨ t = 3 ∨ t = 4 ∨ t = 5 ∨ t = 6 ∨ t = 7 ∨ t = 8 ∨ t = 9 ∨ t = 10 ∨ t = 11 ∨ t = 12 ∨ t = 13 ∨ t = 14 ∨ t = 15 ∨ t = 16 ∨ t = 17 ∨ t = 18 ∨ t = 19 ∨ t = 20 ∨ t = 21 ∨ t = 22 ∨ t = 23 by omega) with rfl | rfl | rfl | rfl | rfl | rfl | rfl | rfl | rfl | rfl | rfl | rfl | rfl | rfl | rfl | rfl | rfl | rfl | rfl | rfl | rfl | rfl | rfl | rfl <;> simp at hv0 <;> omega
        · skip
          refine lv_iinc (v := iI (1 + 4)) (lv' := [(1, .int (iI (1 + 4))), (0, .int (iI v0))]) hx hb d_J_numberOfTrailingZeros_55 hl (k := 0) rfl (iI_add _ _) (by decide) rfl (fun ls hl => ?_)
          refine lv_iload_n hx hb d_J_numberOfTrailingZeros_58 rfl (lv_at hl 1 rfl) ?_
          refine lv_iconst (v := iI 4) hx hb d_J_numberOfTrailingZeros_59 rfl ?_
          refine rv_iushr (x := v0) hx hb 4 (by decide +kernel) d_J_numberOfTrailingZeros_60 (by omega) (by omega) ?_
          refine lv_istore_n (lv' := [(0, .int (iI (v0 / 16))), (1, .int (iI (1 + 4)))]) hx hb d_J_numberOfTrailingZeros_61 rfl hl (by decide) rfl (fun ls hl => ?_)
          refine lv_iload_n hx hb d_J_numberOfTrailingZeros_62 rfl (lv_at hl 0 rfl) ?_
          refine lv_iconst (v := iI 4) hx hb d_J_numberOfTrailingZeros_63 rfl ?_
          refine rv_icmp_le (tgt := 74) hx hb d_J_numberOfTrailingZeros_64 (by decide) (by constructor <;> omega) ⟨by decide, by decide⟩ (fun c_6 => ?_) (fun c_6 => ?_)
          · skip
            refine lv_iload_n hx hb d_J_numberOfTrailingZeros_74 rfl (lv_at hl 1 rfl) ?_
            refine lv_iload_n hx hb d_J_numberOfTrailingZeros_75 rfl (lv_at hl 0 rfl) ?_
            refine lv_iconst (v := iI 1) hx hb d_J_numberOfTrailingZeros_76 rfl ?_
            refine rv_iushr (x := v0 / 16) hx hb 1 (by decide +kernel) d_J_numberOfTrailingZeros_77 (by omega) (by omega) ?_
            refine rv_iadd hx hb d_J_numberOfTrailingZeros_78 ?_
            have hP9 : va_P G cls0 [] H := hP
            have hD9 : va_D A [] := hD
            refine rv_iret hx hb hRt (nar_int _) hlocks (Nat.le_of_ble_eq_true rfl) (Nat.le_of_ble_eq_true rfl) hP9 hD9 hS d_J_numberOfTrailingZeros_79 ?_
            refine ⟨rfl, congrArg iI ?_⟩
            clear hlow hmk
            rcases (show t = 0 ∨ t = 1 ∨ t = 2 ∨ t = 3 ∨ t = 4 ∨ t = 5 ∨ t = 6 ∨ t = 7 ∨ t = 8 ∨ t = 9 ∨ t = 10 ∨ t = 11 ∨ t = 12 ∨ t = 13 ∨ t = 14 ∨ t = 15 ∨ t = 16 ∨ t = 17 ∨ t = 18 ∨ t = 19 ∨ t = 20 ∨ t = 21 ∨ t = 22 ∨ t = 23 by omega) with rfl | rfl | rfl | rfl | rfl | rfl | rfl | rfl | rfl | rfl | rfl | rfl | rfl | rfl | rfl | rfl | rfl | rfl | rfl | rfl | rfl | rfl | rfl | rfl <;> simp at hv0 <;> omega
          · skip
            refine lv_iinc (v := iI (1 + 4 + 2)) (lv' := [(1, .int (iI (1 + 4 + 2))), (0, .int (iI (v0 / 16)))]) hx hb d_J_numberOfTrailingZeros_67 hl (k := 1) rfl (iI_add _ _) (by decide) rfl (fun ls hl => ?_)
            refine lv_iload_n hx hb d_J_numberOfTrailingZeros_70 rfl (lv_at hl 1 rfl) ?_
            refine lv_iconst (v := iI 2) hx hb d_J_numberOfTrailingZeros_71 rfl ?_
            refine rv_iushr (x := v0 / 16) hx hb 2 (by decide +kernel) d_J_numberOfTrailingZeros_72 (by omega) (by omega) ?_
            refine lv_istore_n (lv' := [(0, .int (iI ((v0 / 16) / 4))), (1, .int (iI (1 + 4 + 2)))]) hx hb d_J_numberOfTrailingZeros_73 rfl hl (by decide) rfl (fun ls hl => ?_)
            refine lv_iload_n hx hb d_J_numberOfTrailingZeros_74 rfl (lv_at hl 1 rfl) ?_
            refine lv_iload_n hx hb d_J_numberOfTrailingZeros_75 rfl (lv_at hl 0 rfl) ?_
            refine lv_iconst (v := iI 1) hx hb d_J_numberOfTrailingZeros_76 rfl ?_
            refine rv_iushr (x := (v0 / 16) / 4) hx hb 1 (by decide +kernel) d_J_numberOfTrailingZeros_77 (by omega) (by omega) ?_
            refine rv_iadd hx hb d_J_numberOfTrailingZeros_78 ?_
            have hP9 : va_P G cls0 [] H := hP
            have hD9 : va_D A [] := hD
            refine rv_iret hx hb hRt (nar_int _) hlocks (Nat.le_of_ble_eq_true rfl) (Nat.le_of_ble_eq_true rfl) hP9 hD9 hS d_J_numberOfTrailingZeros_79 ?_
            refine ⟨rfl, congrArg iI ?_⟩
            clear hlow hmk
            rcases (show t = 0 ∨ t = 1 ∨ t = 2 ∨ t = 3 ∨ t = 4 ∨ t = 5 ∨ t = 6 ∨ t = 7 ∨ t = 8 ∨ t = 9 ∨ t = 10 ∨ t = 11 ∨ t = 12 ∨ t = 13 ∨ t = 14 ∨ t = 15 ∨ t = 16 ∨ t = 17 ∨ t = 18 ∨ t = 19 ∨ t = 20 ∨ t = 21 ∨ t = 22 ∨ t = 23 by omega) with rfl | rfl | rfl | rfl | rfl | rfl | rfl | rfl | rfl | rfl | rfl | rfl | rfl | rfl | rfl | rfl | rfl | rfl | rfl | rfl | rfl | rfl | rfl | rfl <;> simp at hv0 <;> omega
      · skip
        refine lv_iinc (v := iI (1 + 8)) (lv' := [(1, .int (iI (1 + 8))), (0, .int (iI v0))]) hx hb d_J_numberOfTrailingZeros_41 hl (k := 0) rfl (iI_add _ _) (by decide) rfl (fun ls hl => ?_)
        refine lv_iload_n hx hb d_J_numberOfTrailingZeros_44 rfl (lv_at hl 1 rfl) ?_
        refine lv_bipush (v := iI 8) hx hb d_J_numberOfTrailingZeros_45 (by decide +kernel) ?_
        refine rv_iushr (x := v0) hx hb 8 (by decide +kernel) d_J_numberOfTrailingZeros_47 (by omega) (by omega) ?_
        refine lv_istore_n (lv' := [(0, .int (iI (v0 / 256))), (1, .int (iI (1 + 8)))]) hx hb d_J_numberOfTrailingZeros_48 rfl hl (by decide) rfl (fun ls hl => ?_)
        refine lv_iload_n hx hb d_J_numberOfTrailingZeros_49 rfl (lv_at hl 0 rfl) ?_
        refine lv_bipush (v := iI 16) hx hb d_J_numberOfTrailingZeros_50 (by decide +kernel) ?_
        refine rv_icmp_le (tgt := 62) hx hb d_J_numberOfTrailingZeros_52 (by decide) (by constructor <;> omega) ⟨by decide, by decide⟩ (fun c_7 => ?_) (fun c_7 => ?_)
        · skip
          refine lv_iload_n hx hb d_J_numberOfTrailingZeros_62 rfl (lv_at hl 0 rfl) ?_
          refine lv_iconst (v := iI 4) hx hb d_J_numberOfTrailingZeros_63 rfl ?_
          refine rv_icmp_le (tgt := 74) hx hb d_J_numberOfTrailingZeros_64 (by decide) (by constructor <;> omega) ⟨by decide, by decide⟩ (fun c_8 => ?_) (fun c_8 => ?_)
          · skip
            refine lv_iload_n hx hb d_J_numberOfTrailingZeros_74 rfl (lv_at hl 1 rfl) ?_
            refine lv_iload_n hx hb d_J_numberOfTrailingZeros_75 rfl (lv_at hl 0 rfl) ?_
            refine lv_iconst (v := iI 1) hx hb d_J_numberOfTrailingZeros_76 rfl ?_
            refine rv_iushr (x := v0 / 256) hx hb 1 (by decide +kernel) d_J_numberOfTrailingZeros_77 (by omega) (by omega) ?_
            refine rv_iadd hx hb d_J_numberOfTrailingZeros_78 ?_
            have hP9 : va_P G cls0 [] H := hP
            have hD9 : va_D A [] := hD
            refine rv_iret hx hb hRt (nar_int _) hlocks (Nat.le_of_ble_eq_true rfl) (Nat.le_of_ble_eq_true rfl) hP9 hD9 hS d_J_numberOfTrailingZeros_79 ?_
            refine ⟨rfl, congrArg iI ?_⟩
            clear hlow hmk
            rcases (show t = 0 ∨ t = 1 ∨ t = 2 ∨ t = 3 ∨ t = 4 ∨ t = 5 ∨ t = 6 ∨ t = 7 ∨ t = 8 ∨ t = 9 ∨ t = 10 ∨ t = 11 ∨ t = 12 ∨ t = 13 ∨ t = 14 ∨ t = 15 ∨ t = 16 ∨ t = 17 ∨ t = 18 ∨ t = 19 ∨ t = 20 ∨ t = 21 ∨ t = 22 ∨ t = 23 by omega) with rfl | rfl | rfl | rfl | rfl | rfl | rfl | rfl | rfl | rfl | rfl | rfl | rfl | rfl | rfl | rfl | rfl | rfl | rfl | rfl | rfl | rfl | rfl | rfl <;> simp at hv0 <;> omega
          · skip
            refine lv_iinc (v := iI (1 + 8 + 2)) (lv' := [(1, .int (iI (1 + 8 + 2))), (0, .int (iI (v0 / 256)))]) hx hb d_J_numberOfTrailingZeros_67 hl (k := 1) rfl (iI_add _ _) (by decide) rfl (fun ls hl => ?_)
            refine lv_iload_n hx hb d_J_numberOfTrailingZeros_70 rfl (lv_at hl 1 rfl) ?_
            refine lv_iconst (v := iI 2) hx hb d_J_numberOfTrailingZeros_71 rfl ?_
            refine rv_iushr (x := v0 / 256) hx hb 2 (by decide +kernel) d_J_numberOfTrailingZeros_72 (by omega) (by omega) ?_
            refine lv_istore_n (lv' := [(0, .int (iI ((v0 / 256) / 4))), (1, .int (iI (1 + 8 + 2)))]) hx hb d_J_numberOfTrailingZeros_73 rfl hl (by decide) rfl (fun ls hl => ?_)
            refine lv_iload_n hx hb d_J_numberOfTrailingZeros_74 rfl (lv_at hl 1 rfl) ?_
            refine lv_iload_n hx hb d_J_numberOfTrailingZeros_75 rfl (lv_at hl 0 rfl) ?_
            refine lv_iconst (v := iI 1) hx hb d_J_numberOfTrailingZeros_76 rfl ?_
            refine rv_iushr (x := (v0 / 256) / 4) hx hb 1 (by decide +kernel) d_J_numberOfTrailingZeros_77 (by omega) (by omega) ?_
            refine rv_iadd hx hb d_J_numberOfTrailingZeros_78 ?_
            have hP9 : va_P G cls0 [] H := hP
            have hD9 : va_D A [] := hD
            refine rv_iret hx hb hRt (nar_int _) hlocks (Nat.le_of_ble_eq_true rfl) (Nat.le_of_ble_eq_true rfl) hP9 hD9 hS d_J_numberOfTrailingZeros_79 ?_
            refine ⟨rfl, congrArg iI ?_⟩
            clear hlow hmk
            rcases (show t = 0 ∨ t = 1 ∨ t = 2 ∨ t = 3 ∨ t = 4 ∨ t = 5 ∨ t = 6 ∨ t = 7 ∨ t = 8 ∨ t = 9 ∨ t = 10 ∨ t = 11 ∨ t = 12 ∨ t = 13 ∨ t = 14 ∨ t = 15 ∨ t = 16 ∨ t = 17 ∨ t = 18 ∨ t = 19 ∨ t = 20 ∨ t = 21 ∨ t = 22 ∨ t = 23 by omega) with rfl | rfl | rfl | rfl | rfl | rfl | rfl | rfl | rfl | rfl | rfl | rfl | rfl | rfl | rfl | rfl | rfl | rfl | rfl | rfl | rfl | rfl | rfl | rfl <;> simp at hv0 <;> omega
        · skip
          refine lv_iinc (v := iI (1 + 8 + 4)) (lv' := [(1, .int (iI (1 + 8 + 4))), (0, .int (iI (v0 / 256)))]) hx hb d_J_numberOfTrailingZeros_55 hl (k := 1) rfl (iI_add _ _) (by decide) rfl (fun ls hl => ?_)
          refine lv_iload_n hx hb d_J_numberOfTrailingZeros_58 rfl (lv_at hl 1 rfl) ?_
          refine lv_iconst (v := iI 4) hx hb d_J_numberOfTrailingZeros_59 rfl ?_
          refine rv_iushr (x := v0 / 256) hx hb 4 (by decide +kernel) d_J_numberOfTrailingZeros_60 (by omega) (by omega) ?_
          refine lv_istore_n (lv' := [(0, .int (iI ((v0 / 256) / 16))), (1, .int (iI (1 + 8 + 4)))]) hx hb d_J_numberOfTrailingZeros_61 rfl hl (by decide) rfl (fun ls hl => ?_)
          refine lv_iload_n hx hb d_J_numberOfTrailingZeros_62 rfl (lv_at hl 0 rfl) ?_
          refine lv_iconst (v := iI 4) hx hb d_J_numberOfTrailingZeros_63 rfl ?_
          refine rv_icmp_le (tgt := 74) hx hb d_J_numberOfTrailingZeros_64 (by decide) (by constructor <;> omega) ⟨by decide, by decide⟩ (fun c_9 => ?_) (fun c_9 => ?_)
          · skip
            refine lv_iload_n hx hb d_J_numberOfTrailingZeros_74 rfl (lv_at hl 1 rfl) ?_
            refine lv_iload_n hx hb d_J_numberOfTrailingZeros_75 rfl (lv_at hl 0 rfl) ?_
            refine lv_iconst (v := iI 1) hx hb d_J_numberOfTrailingZeros_76 rfl ?_
            refine rv_iushr (x := (v0 / 256) / 16) hx hb 1 (by decide +kernel) d_J_numberOfTrailingZeros_77 (by omega) (by omega) ?_
            refine rv_iadd hx hb d_J_numberOfTrailingZeros_78 ?_
            have hP9 : va_P G cls0 [] H := hP
            have hD9 : va_D A [] := hD
            refine rv_iret hx hb hRt (nar_int _) hlocks (Nat.le_of_ble_eq_true rfl) (Nat.le_of_ble_eq_true rfl) hP9 hD9 hS d_J_numberOfTrailingZeros_79 ?_
            refine ⟨rfl, congrArg iI ?_⟩
            clear hlow hmk
            rcases (show t = 0 ∨ t = 1 ∨ t = 2 ∨ t = 3 ∨ t = 4 ∨ t = 5 ∨ t = 6 ∨ t = 7 ∨ t = 8 ∨ t = 9 ∨ t = 10 ∨ t = 11 ∨ t = 12 ∨ t = 13 ∨ t = 14 ∨ t = 15 ∨ t = 16 ∨ t = 17 ∨ t = 18 ∨ t = 19 ∨ t = 20 ∨ t = 21 ∨ t = 22 ∨ t = 23 by omega) with rfl | rfl | rfl | rfl | rfl | rfl | rfl | rfl | rfl | rfl | rfl | rfl | rfl | rfl | rfl | rfl | rfl | rfl | rfl | rfl | rfl | rfl | rfl | rfl <;> simp at hv0 <;> omega
          · skip
            refine lv_iinc (v := iI (1 + 8 + 4 + 2)) (lv' := [(1, .int (iI (1 + 8 + 4 + 2))), (0, .int (iI ((v0 / 256) / 16)))]) hx hb d_J_numberOfTrailingZeros_67 hl (k := 1) rfl (iI_add _ _) (by decide) rfl (fun ls hl => ?_)
            refine lv_iload_n hx hb d_J_numberOfTrailingZeros_70 rfl (lv_at hl 1 rfl) ?_
            refine lv_iconst (v := iI 2) hx hb d_J_numberOfTrailingZeros_71 rfl ?_
            refine rv_iushr (x := (v0 / 256) / 16) hx hb 2 (by decide +kernel) d_J_numberOfTrailingZeros_72 (by omega) (by omega) ?_
            refine lv_istore_n (lv' := [(0, .int (iI (((v0 / 256) / 16) / 4))), (1, .int (iI (1 + 8 + 4 + 2)))]) hx hb d_J_numberOfTrailingZeros_73 rfl hl (by decide) rfl (fun ls hl => ?_)
            refine lv_iload_n hx hb d_J_numberOfTrailingZeros_74 rfl (lv_at hl 1 rfl) ?_
            refine lv_iload_n hx hb d_J_numberOfTrailingZeros_75 rfl (lv_at hl 0 rfl) ?_
            refine lv_iconst (v := iI 1) hx hb d_J_numberOfTrailingZeros_76 rfl ?_
            refine rv_iushr (x := ((v0 / 256) / 16) / 4) hx hb 1 (by decide +kernel) d_J_numberOfTrailingZeros_77 (by omega) (by omega) ?_
            refine rv_iadd hx hb d_J_numberOfTrailingZeros_78 ?_
            have hP9 : va_P G cls0 [] H := hP
            have hD9 : va_D A [] := hD
            refine rv_iret hx hb hRt (nar_int _) hlocks (Nat.le_of_ble_eq_true rfl) (Nat.le_of_ble_eq_true rfl) hP9 hD9 hS d_J_numberOfTrailingZeros_79 ?_
            refine ⟨rfl, congrArg iI ?_⟩
            clear hlow hmk
            rcases (show t = 0 ∨ t = 1 ∨ t = 2 ∨ t = 3 ∨ t = 4 ∨ t = 5 ∨ t = 6 ∨ t = 7 ∨ t = 8 ∨ t = 9 ∨ t = 10 ∨ t = 11 ∨ t = 12 ∨ t = 13 ∨ t = 14 ∨ t = 15 ∨ t = 16 ∨ t = 17 ∨ t = 18 ∨ t = 19 ∨ t = 20 ∨ t = 21 ∨ t = 22 ∨ t = 23 by omega) with rfl | rfl | rfl | rfl | rfl | rfl | rfl | rfl | rfl | rfl | rfl | rfl | rfl | rfl | rfl | rfl | rfl | rfl | rfl | rfl | rfl | rfl | rfl | rfl <;> simp at hv0 <;> omega
    · skip
      refine lv_iinc (v := iI (1 + 16)) (lv' := [(1, .int (iI (1 + 16))), (0, .int (iI v0))]) hx hb d_J_numberOfTrailingZeros_26 hl (k := 0) rfl (iI_add _ _) (by decide) rfl (fun ls hl => ?_)
      refine lv_iload_n hx hb d_J_numberOfTrailingZeros_29 rfl (lv_at hl 1 rfl) ?_
      refine lv_bipush (v := iI 16) hx hb d_J_numberOfTrailingZeros_30 (by decide +kernel) ?_
      refine rv_iushr (x := v0) hx hb 16 (by decide +kernel) d_J_numberOfTrailingZeros_32 (by omega) (by omega) ?_
      refine lv_istore_n (lv' := [(0, .int (iI (v0 / 65536))), (1, .int (iI (1 + 16)))]) hx hb d_J_numberOfTrailingZeros_33 rfl hl (by decide) rfl (fun ls hl => ?_)
      refine lv_iload_n hx hb d_J_numberOfTrailingZeros_34 rfl (lv_at hl 0 rfl) ?_
      refine lv_sipush (v := iI 256) hx hb d_J_numberOfTrailingZeros_35 (by decide +kernel) ?_
      refine rv_icmp_le (tgt := 49) hx hb d_J_numberOfTrailingZeros_38 (by decide) (by constructor <;> omega) ⟨by decide, by decide⟩ (fun c_10 => ?_) (fun c_10 => ?_)
      · skip
        refine lv_iload_n hx hb d_J_numberOfTrailingZeros_49 rfl (lv_at hl 0 rfl) ?_
        refine lv_bipush (v := iI 16) hx hb d_J_numberOfTrailingZeros_50 (by decide +kernel) ?_
        refine rv_icmp_le (tgt := 62) hx hb d_J_numberOfTrailingZeros_52 (by decide) (by constructor <;> omega) ⟨by decide, by decide⟩ (fun c_11 => ?_) (fun c_11 => ?_)
        · skip
          refine lv_iload_n hx hb d_J_numberOfTrailingZeros_62 rfl (lv_at hl 0 rfl) ?_
          refine lv_iconst (v := iI 4) hx hb d_J_numberOfTrailingZeros_63 rfl ?_
          refine rv_icmp_le (tgt := 74) hx hb d_J_numberOfTrailingZeros_64 (by decide) (by constructor <;> omega) ⟨by decide, by decide⟩ (fun c_12 => ?_) (fun c_12 => ?_)
          · skip
            refine lv_iload_n hx hb d_J_numberOfTrailingZeros_74 rfl (lv_at hl 1 rfl) ?_
            refine lv_iload_n hx hb d_J_numberOfTrailingZeros_75 rfl (lv_at hl 0 rfl) ?_
            refine lv_iconst (v := iI 1) hx hb d_J_numberOfTrailingZeros_76 rfl ?_
            refine rv_iushr (x := v0 / 65536) hx hb 1 (by decide +kernel) d_J_numberOfTrailingZeros_77 (by omega) (by omega) ?_
            refine rv_iadd hx hb d_J_numberOfTrailingZeros_78 ?_
            have hP9 : va_P G cls0 [] H := hP
            have hD9 : va_D A [] := hD
            refine rv_iret hx hb hRt (nar_int _) hlocks (Nat.le_of_ble_eq_true rfl) (Nat.le_of_ble_eq_true rfl) hP9 hD9 hS d_J_numberOfTrailingZeros_79 ?_
            refine ⟨rfl, congrArg iI ?_⟩
            clear hlow hmk
            rcases (show t = 0 ∨ t = 1 ∨ t = 2 ∨ t = 3 ∨ t = 4 ∨ t = 5 ∨ t = 6 ∨ t = 7 ∨ t = 8 ∨ t = 9 ∨ t = 10 ∨ t = 11 ∨ t = 12 ∨ t = 13 ∨ t = 14 ∨ t = 15 ∨ t = 16 ∨ t = 17 ∨ t = 18 ∨ t = 19 ∨ t = 20 ∨ t = 21 ∨ t = 22 ∨ t = 23 by omega) with rfl | rfl | rfl | rfl | rfl | rfl | rfl | rfl | rfl | rfl | rfl | rfl | rfl | rfl | rfl | rfl | rfl | rfl | rfl | rfl | rfl | rfl | rfl | rfl <;> simp at hv0 <;> omega
          · skip
            refine lv_iinc (v := iI (1 + 16 + 2)) (lv' := [(1, .int (iI (1 + 16 + 2))), (0, .int (iI (v0 / 65536)))]) hx hb d_J_numberOfTrailingZeros_67 hl (k := 1) rfl (iI_add _ _) (by decide) rfl (fun ls hl => ?_)
            refine lv_iload_n hx hb d_J_numberOfTrailingZeros_70 rfl (lv_at hl 1 rfl) ?_
            refine lv_iconst (v := iI 2) hx hb d_J_numberOfTrailingZeros_71 rfl ?_
            refine rv_iushr (x := v0 / 65536) hx hb 2 (by decide +kernel) d_J_numberOfTrailingZeros_72 (by omega) (by omega) ?_
            refine lv_istore_n (lv' := [(0, .int (iI ((v0 / 65536) / 4))), (1, .int (iI (1 + 16 + 2)))]) hx hb d_J_numberOfTrailingZeros_73 rfl hl (by decide) rfl (fun ls hl => ?_)
            refine lv_iload_n hx hb d_J_numberOfTrailingZeros_74 rfl (lv_at hl 1 rfl) ?_
            refine lv_iload_n hx hb d_J_numberOfTrailingZeros_75 rfl (lv_at hl 0 rfl) ?_
            refine lv_iconst (v := iI 1) hx hb d_J_numberOfTrailingZeros_76 rfl ?_
            refine rv_iushr (x := (v0 / 65536) / 4) hx hb 1 (by decide +kernel) d_J_numberOfTrailingZeros_77 (by omega) (by omega) ?_
            refine rv_iadd hx hb d_J_numberOfTrailingZeros_78 ?_
            have hP9 : va_P G cls0 [] H := hP
            have hD9 : va_D A [] := hD
            refine rv_iret hx hb hRt (nar_int _) hlocks (Nat.le_of_ble_eq_true rfl) (Nat.le_of_ble_eq_true rfl) hP9 hD9 hS d_J_numberOfTrailingZeros_79 ?_
            refine ⟨rfl, congrArg iI ?_⟩
            clear hlow hmk
            rcases (show t = 0 ∨ t = 1 ∨ t = 2 ∨ t = 3 ∨ t = 4 ∨ t = 5 ∨ t = 6 ∨ t = 7 ∨ t = 8 ∨ t = 9 ∨ t = 10 ∨ t = 11 ∨ t = 12 ∨ t = 13 ∨ t = 14 ∨ t = 15 ∨ t = 16 ∨ t = 17 ∨ t = 18 ∨ t = 19 ∨ t = 20 ∨ t = 21 ∨ t = 22 ∨ t = 23 by omega) with rfl | rfl | rfl | rfl | rfl | rfl | rfl | rfl | rfl | rfl | rfl | rfl | rfl | rfl | rfl | rfl | rfl | rfl | rfl | rfl | rfl | rfl | rfl | rfl <;> simp at hv0 <;> omega
        · skip
          refine lv_iinc (v := iI (1 + 16 + 4)) (lv' := [(1, .int (iI (1 + 16 + 4))), (0, .int (iI (v0 / 65536)))]) hx hb d_J_numberOfTrailingZeros_55 hl (k := 1) rfl (iI_add _ _) (by decide) rfl (fun ls hl => ?_)
          refine lv_iload_n hx hb d_J_numberOfTrailingZeros_58 rfl (lv_at hl 1 rfl) ?_
          refine lv_iconst (v := iI 4) hx hb d_J_numberOfTrailingZeros_59 rfl ?_
          refine rv_iushr (x := v0 / 65536) hx hb 4 (by decide +kernel) d_J_numberOfTrailingZeros_60 (by omega) (by omega) ?_
          refine lv_istore_n (lv' := [(0, .int (iI ((v0 / 65536) / 16))), (1, .int (iI (1 + 16 + 4)))]) hx hb d_J_numberOfTrailingZeros_61 rfl hl (by decide) rfl (fun ls hl => ?_)
          refine lv_iload_n hx hb d_J_numberOfTrailingZeros_62 rfl (lv_at hl 0 rfl) ?_
          refine lv_iconst (v := iI 4) hx hb d_J_numberOfTrailingZeros_63 rfl ?_
          refine rv_icmp_le (tgt := 74) hx hb d_J_numberOfTrailingZeros_64 (by decide) (by constructor <;> omega) ⟨by decide, by decide⟩ (fun c_13 => ?_) (fun c_13 => ?_)
          · skip
            refine lv_iload_n hx hb d_J_numberOfTrailingZeros_74 rfl (lv_at hl 1 rfl) ?_
            refine lv_iload_n hx hb d_J_numberOfTrailingZeros_75 rfl (lv_at hl 0 rfl) ?_
            refine lv_iconst (v := iI 1) hx hb d_J_numberOfTrailingZeros_76 rfl ?_
            refine rv_iushr (x := (v0 / 65536) / 16) hx hb 1 (by decide +kernel) d_J_numberOfTrailingZeros_77 (by omega) (by omega) ?_
            refine rv_iadd hx hb d_J_numberOfTrailingZeros_78 ?_
            have hP9 : va_P G cls0 [] H := hP
            have hD9 : va_D A [] := hD
            refine rv_iret hx hb hRt (nar_int _) hlocks (Nat.le_of_ble_eq_true rfl) (Nat.le_of_ble_eq_true rfl) hP9 hD9 hS d_J_numberOfTrailingZeros_79 ?_
            refine ⟨rfl, congrArg iI ?_⟩
            clear hlow hmk
            rcases (show t = 0 ∨ t = 1 ∨ t = 2 ∨ t = 3 ∨ t = 4 ∨ t = 5 ∨ t = 6 ∨ t = 7 ∨ t = 8 ∨ t = 9 ∨ t = 10 ∨ t = 11 ∨ t = 12 ∨ t = 13 ∨ t = 14 ∨ t = 15 ∨ t = 16 ∨ t = 17 ∨ t = 18 ∨ t = 19 ∨ t = 20 ∨ t = 21 ∨ t = 22 ∨ t = 23 by omega) with rfl | rfl | rfl | rfl | rfl | rfl | rfl | rfl | rfl | rfl | rfl | rfl | rfl | rfl | rfl | rfl | rfl | rfl | rfl | rfl | rfl | rfl | rfl | rfl <;> simp at hv0 <;> omega
          · skip
            refine lv_iinc (v := iI (1 + 16 + 4 + 2)) (lv' := [(1, .int (iI (1 + 16 + 4 + 2))), (0, .int (iI ((v0 / 65536) / 16)))]) hx hb d_J_numberOfTrailingZeros_67 hl (k := 1) rfl (iI_add _ _) (by decide) rfl (fun ls hl => ?_)
            refine lv_iload_n hx hb d_J_numberOfTrailingZeros_70 rfl (lv_at hl 1 rfl) ?_
            refine lv_iconst (v := iI 2) hx hb d_J_numberOfTrailingZeros_71 rfl ?_
            refine rv_iushr (x := (v0 / 65536) / 16) hx hb 2 (by decide +kernel) d_J_numberOfTrailingZeros_72 (by omega) (by omega) ?_
            refine lv_istore_n (lv' := [(0, .int (iI (((v0 / 65536) / 16) / 4))), (1, .int (iI (1 + 16 + 4 + 2)))]) hx hb d_J_numberOfTrailingZeros_73 rfl hl (by decide) rfl (fun ls hl => ?_)
            refine lv_iload_n hx hb d_J_numberOfTrailingZeros_74 rfl (lv_at hl 1 rfl) ?_
            refine lv_iload_n hx hb d_J_numberOfTrailingZeros_75 rfl (lv_at hl 0 rfl) ?_
            refine lv_iconst (v := iI 1) hx hb d_J_numberOfTrailingZeros_76 rfl ?_
            refine rv_iushr (x := ((v0 / 65536) / 16) / 4) hx hb 1 (by decide +kernel) d_J_numberOfTrailingZeros_77 (by omega) (by omega) ?_
            refine rv_iadd hx hb d_J_numberOfTrailingZeros_78 ?_
            have hP9 : va_P G cls0 [] H := hP
            have hD9 : va_D A [] := hD
            refine rv_iret hx hb hRt (nar_int _) hlocks (Nat.le_of_ble_eq_true rfl) (Nat.le_of_ble_eq_true rfl) hP9 hD9 hS d_J_numberOfTrailingZeros_79 ?_
            refine ⟨rfl, congrArg iI ?_⟩
            clear hlow hmk
            rcases (show t = 0 ∨ t = 1 ∨ t = 2 ∨ t = 3 ∨ t = 4 ∨ t = 5 ∨ t = 6 ∨ t = 7 ∨ t = 8 ∨ t = 9 ∨ t = 10 ∨ t = 11 ∨ t = 12 ∨ t = 13 ∨ t = 14 ∨ t = 15 ∨ t = 16 ∨ t = 17 ∨ t = 18 ∨ t = 19 ∨ t = 20 ∨ t = 21 ∨ t = 22 ∨ t = 23 by omega) with rfl | rfl | rfl | rfl | rfl | rfl | rfl | rfl | rfl | rfl | rfl | rfl | rfl | rfl | rfl | rfl | rfl | rfl | rfl | rfl | rfl | rfl | rfl | rfl <;> simp at hv0 <;> omega
      · skip
        refine lv_iinc (v := iI (1 + 16 + 8)) (lv' := [(1, .int (iI (1 + 16 + 8))), (0, .int (iI (v0 / 65536)))]) hx hb d_J_numberOfTrailingZeros_41 hl (k := 1) rfl (iI_add _ _) (by decide) rfl (fun ls hl => ?_)
        refine lv_iload_n hx hb d_J_numberOfTrailingZeros_44 rfl (lv_at hl 1 rfl) ?_
        refine lv_bipush (v := iI 8) hx hb d_J_numberOfTrailingZeros_45 (by decide +kernel) ?_
        refine rv_iushr (x := v0 / 65536) hx hb 8 (by decide +kernel) d_J_numberOfTrailingZeros_47 (by omega) (by omega) ?_
        refine lv_istore_n (lv' := [(0, .int (iI ((v0 / 65536) / 256))), (1, .int (iI (1 + 16 + 8)))]) hx hb d_J_numberOfTrailingZeros_48 rfl hl (by decide) rfl (fun ls hl => ?_)
        refine lv_iload_n hx hb d_J_numberOfTrailingZeros_49 rfl (lv_at hl 0 rfl) ?_
        refine lv_bipush (v := iI 16) hx hb d_J_numberOfTrailingZeros_50 (by decide +kernel) ?_
        refine rv_icmp_le (tgt := 62) hx hb d_J_numberOfTrailingZeros_52 (by decide) (by constructor <;> omega) ⟨by decide, by decide⟩ (fun c_14 => ?_) (fun c_14 => ?_)
        · skip
          refine lv_iload_n hx hb d_J_numberOfTrailingZeros_62 rfl (lv_at hl 0 rfl) ?_
          refine lv_iconst (v := iI 4) hx hb d_J_numberOfTrailingZeros_63 rfl ?_
          refine rv_icmp_le (tgt := 74) hx hb d_J_numberOfTrailingZeros_64 (by decide) (by constructor <;> omega) ⟨by decide, by decide⟩ (fun c_15 => ?_) (fun c_15 => ?_)
          · skip
            refine lv_iload_n hx hb d_J_numberOfTrailingZeros_74 rfl (lv_at hl 1 rfl) ?_
            refine lv_iload_n hx hb d_J_numberOfTrailingZeros_75 rfl (lv_at hl 0 rfl) ?_
            refine lv_iconst (v := iI 1) hx hb d_J_numberOfTrailingZeros_76 rfl ?_
            refine rv_iushr (x := (v0 / 65536) / 256) hx hb 1 (by decide +kernel) d_J_numberOfTrailingZeros_77 (by omega) (by omega) ?_
            refine rv_iadd hx hb d_J_numberOfTrailingZeros_78 ?_
            have hP9 : va_P G cls0 [] H := hP
            have hD9 : va_D A [] := hD
            refine rv_iret hx hb hRt (nar_int _) hlocks (Nat.le_of_ble_eq_true rfl) (Nat.le_of_ble_eq_true rfl) hP9 hD9 hS d_J_numberOfTrailingZeros_79 ?_
            refine ⟨rfl, congrArg iI ?_⟩
            clear hlow hmk
            rcases (show t = 0 ∨ t = 1 ∨ t = 2 ∨ t = 3 ∨ t = 4 ∨ t = 5 ∨ t = 6 ∨ t = 7 ∨ t = 8 ∨ t = 9 ∨ t = 10 ∨ t = 11 ∨ t = 12 ∨ t = 13 ∨ t = 14 ∨ t = 15 ∨ t = 16 ∨ t = 17 ∨ t = 18 ∨ t = 19 ∨ t = 20 ∨ t = 21 ∨ t = 22 ∨ t = 23 by omega) with rfl | rfl | rfl | rfl | rfl | rfl | rfl | rfl | rfl | rfl | rfl | rfl | rfl | rfl | rfl | rfl | rfl | rfl | rfl | rfl | rfl | rfl | rfl | rfl <;> simp at hv0 <;> omega
          · skip
            refine lv_iinc (v := iI (1 + 16 + 8 + 2)) (lv' := [(1, .int (iI (1 + 16 + 8 + 2))), (0, .int (iI ((v0 / 65536) / 256)))]) hx hb d_J_numberOfTrailingZeros_67 hl (k := 1) rfl (iI_add _ _) (by decide) rfl (fun ls hl => ?_)
            refine lv_iload_n hx hb d_J_numberOfTrailingZeros_70 rfl (lv_at hl 1 rfl) ?_
            refine lv_iconst (v := iI 2) hx hb d_J_numberOfTrailingZeros_71 rfl ?_
            refine rv_iushr (x := (v0 / 65536) / 256) hx hb 2 (by decide +kernel) d_J_numberOfTrailingZeros_72 (by omega) (by omega) ?_
            refine lv_istore_n (lv' := [(0, .int (iI (((v0 / 65536) / 256) / 4))), (1, .int (iI (1 + 16 + 8 + 2)))]) hx hb d_J_numberOfTrailingZeros_73 rfl hl (by decide) rfl (fun ls hl => ?_)
            refine lv_iload_n hx hb d_J_numberOfTrailingZeros_74 rfl (lv_at hl 1 rfl) ?_
            refine lv_iload_n hx hb d_J_numberOfTrailingZeros_75 rfl (lv_at hl 0 rfl) ?_
            refine lv_iconst (v := iI 1) hx hb d_J_numberOfTrailingZeros_76 rfl ?_
            refine rv_iushr (x := ((v0 / 65536) / 256) / 4) hx hb 1 (by decide +kernel) d_J_numberOfTrailingZeros_77 (by omega) (by omega) ?_
            refine rv_iadd hx hb d_J_numberOfTrailingZeros_78 ?_
            have hP9 : va_P G cls0 [] H := hP
            have hD9 : va_D A [] := hD
            refine rv_iret hx hb hRt (nar_int _) hlocks (Nat.le_of_ble_eq_true rfl) (Nat.le_of_ble_eq_true rfl) hP9 hD9 hS d_J_numberOfTrailingZeros_79 ?_
            refine ⟨rfl, congrArg iI ?_⟩
            clear hlow hmk
            rcases (show t = 0 ∨ t = 1 ∨ t = 2 ∨ t = 3 ∨ t = 4 ∨ t = 5 ∨ t = 6 ∨ t = 7 ∨ t = 8 ∨ t = 9 ∨ t = 10 ∨ t = 11 ∨ t = 12 ∨ t = 13 ∨ t = 14 ∨ t = 15 ∨ t = 16 ∨ t = 17 ∨ t = 18 ∨ t = 19 ∨ t = 20 ∨ t = 21 ∨ t = 22 ∨ t = 23 by omega) with rfl | rfl | rfl | rfl | rfl | rfl | rfl | rfl | rfl | rfl | rfl | rfl | rfl | rfl | rfl | rfl | rfl | rfl | rfl | rfl | rfl | rfl | rfl | rfl <;> simp at hv0 <;> omega
        · skip
          refine lv_iinc (v := iI (1 + 16 + 8 + 4)) (lv' := [(1, .int (iI (1 + 16 + 8 + 4))), (0, .int (iI ((v0 / 65536) / 256)))]) hx hb d_J_numberOfTrailingZeros_55 hl (k := 1) rfl (iI_add _ _) (by decide) rfl (fun ls hl => ?_)
          refine lv_iload_n hx hb d_J_numberOfTrailingZeros_58 rfl (lv_at hl 1 rfl) ?_
          refine lv_iconst (v := iI 4) hx hb d_J_numberOfTrailingZeros_59 rfl ?_
          refine rv_iushr (x := (v0 / 65536) / 256) hx hb 4 (by decide +kernel) d_J_numberOfTrailingZeros_60 (by omega) (by omega) ?_
          refine lv_istore_n (lv' := [(0, .int (iI (((v0 / 65536) / 256) / 16))), (1, .int (iI (1 + 16 + 8 + 4)))]) hx hb d_J_numberOfTrailingZeros_61 rfl hl (by decide) rfl (fun ls hl => ?_)
          refine lv_iload_n hx hb d_J_numberOfTrailingZeros_62 rfl (lv_at hl 0 rfl) ?_
          refine lv_iconst (v := iI 4) hx hb d_J_numberOfTrailingZeros_63 rfl ?_
          refine rv_icmp_le (tgt := 74) hx hb d_J_numberOfTrailingZeros_64 (by decide) (by constructor <;> omega) ⟨by decide, by decide⟩ (fun c_16 => ?_) (fun c_16 => ?_)
          · skip
            refine lv_iload_n hx hb d_J_numberOfTrailingZeros_74 rfl (lv_at hl 1 rfl) ?_
            refine lv_iload_n hx hb d_J_numberOfTrailingZeros_75 rfl (lv_at hl 0 rfl) ?_
            refine lv_iconst (v := iI 1) hx hb d_J_numberOfTrailingZeros_76 rfl ?_
            refine rv_iushr (x := ((v0 / 65536) / 256) / 16) hx hb 1 (by decide +kernel) d_J_numberOfTrailingZeros_77 (by omega) (by omega) ?_
            refine rv_iadd hx hb d_J_numberOfTrailingZeros_78 ?_
            have hP9 : va_P G cls0 [] H := hP
            have hD9 : va_D A [] := hD
            refine rv_iret hx hb hRt (nar_int _) hlocks (Nat.le_of_ble_eq_true rfl) (Nat.le_of_ble_eq_true rfl) hP9 hD9 hS d_J_numberOfTrailingZeros_79 ?_
            refine ⟨rfl, congrArg iI ?_⟩
            clear hlow hmk
            rcases (show t = 0 ∨ t = 1 ∨ t = 2 ∨ t = 3 ∨ t = 4 ∨ t = 5 ∨ t = 6 ∨ t = 7 ∨ t = 8 ∨ t = 9 ∨ t = 10 ∨ t = 11 ∨ t = 12 ∨ t = 13 ∨ t = 14 ∨ t = 15 ∨ t = 16 ∨ t = 17 ∨ t = 18 ∨ t = 19 ∨ t = 20 ∨ t = 21 ∨ t = 22 ∨ t = 23 by omega) with rfl | rfl | rfl | rfl | rfl | rfl | rfl | rfl | rfl | rfl | rfl | rfl | rfl | rfl | rfl | rfl | rfl | rfl | rfl | rfl | rfl | rfl | rfl | rfl <;> simp at hv0 <;> omega
          · skip
            refine lv_iinc (v := iI (1 + 16 + 8 + 4 + 2)) (lv' := [(1, .int (iI (1 + 16 + 8 + 4 + 2))), (0, .int (iI (((v0 / 65536) / 256) / 16)))]) hx hb d_J_numberOfTrailingZeros_67 hl (k := 1) rfl (iI_add _ _) (by decide) rfl (fun ls hl => ?_)
            refine lv_iload_n hx hb d_J_numberOfTrailingZeros_70 rfl (lv_at hl 1 rfl) ?_
            refine lv_iconst (v := iI 2) hx hb d_J_numberOfTrailingZeros_71 rfl ?_
            refine rv_iushr (x := ((v0 / 65536) / 256) / 16) hx hb 2 (by decide +kernel) d_J_numberOfTrailingZeros_72 (by omega) (by omega) ?_
            refine lv_istore_n (lv' := [(0, .int (iI ((((v0 / 65536) / 256) / 16) / 4))), (1, .int (iI (1 + 16 + 8 + 4 + 2)))]) hx hb d_J_numberOfTrailingZeros_73 rfl hl (by decide) rfl (fun ls hl => ?_)
            refine lv_iload_n hx hb d_J_numberOfTrailingZeros_74 rfl (lv_at hl 1 rfl) ?_
            refine lv_iload_n hx hb d_J_numberOfTrailingZeros_75 rfl (lv_at hl 0 rfl) ?_
            refine lv_iconst (v := iI 1) hx hb d_J_numberOfTrailingZeros_76 rfl ?_
            refine rv_iushr (x := (((v0 / 65536) / 256) / 16) / 4) hx hb 1 (by decide +kernel) d_J_numberOfTrailingZeros_77 (by omega) (by omega) ?_
            refine rv_iadd hx hb d_J_numberOfTrailingZeros_78 ?_
            have hP9 : va_P G cls0 [] H := hP
            have hD9 : va_D A [] := hD
            refine rv_iret hx hb hRt (nar_int _) hlocks (Nat.le_of_ble_eq_true rfl) (Nat.le_of_ble_eq_true rfl) hP9 hD9 hS d_J_numberOfTrailingZeros_79 ?_
            refine ⟨rfl, congrArg iI ?_⟩
            clear hlow hmk
            rcases (show t = 0 ∨ t = 1 ∨ t = 2 ∨ t = 3 ∨ t = 4 ∨ t = 5 ∨ t = 6 ∨ t = 7 ∨ t = 8 ∨ t = 9 ∨ t = 10 ∨ t = 11 ∨ t = 12 ∨ t = 13 ∨ t = 14 ∨ t = 15 ∨ t = 16 ∨ t = 17 ∨ t = 18 ∨ t = 19 ∨ t = 20 ∨ t = 21 ∨ t = 22 ∨ t = 23 by omega) with rfl | rfl | rfl | rfl | rfl | rfl | rfl | rfl | rfl | rfl | rfl | rfl | rfl | rfl | rfl | rfl | rfl | rfl | rfl | rfl | rfl | rfl | rfl | rfl <;> simp at hv0 <;> omega
  · skip
    refine lv_iload_n hx hb d_J_numberOfTrailingZeros_12 rfl (lv_at hl 0 rfl) ?_
    refine lv_bipush (v := iI 32) hx hb d_J_numberOfTrailingZeros_13 (by decide +kernel) ?_
    refine lv_iand hx hb d_J_numberOfTrailingZeros_15 ?_
    have hP9 : va_P G cls0 [] H := hP
    have hD9 : va_D A [] := hD
    refine rv_iret hx hb hRt (nar_int _) hlocks (Nat.le_of_ble_eq_true rfl) (Nat.le_of_ble_eq_true rfl) hP9 hD9 hS d_J_numberOfTrailingZeros_16 ?_
    refine ⟨rfl, ?_⟩
    have e0 : v0 = 0 := by omega
    have e1 : t = 0 := by
      rcases Nat.eq_zero_or_pos t with h | h
      · exact h
      · have h1 : 2 ^ 1 ≤ 2 ^ t := Nat.pow_le_pow_right (by omega) h
        generalize 2 ^ t = w9 at h1 hv0
        omega
    rw [e0, e1]; decide
set_option maxHeartbeats 4000000 in
set_option maxRecDepth 100000 in
theorem k_B_placeOfBit (l : Launch) (G : va_G) (z : tz3) (mk : Int) (k : Int) (hmk : 0 ≤ mk ∧ mk < 16777216) (hk : 0 ≤ k ∧ k < popI mk) : Ki l y_B_placeOfBit c_B_placeOfBit 4 (some .int) (rmD 1) G z [.int (iI mk), .int (iI k)] [] (fun r9 u9 => ∃ (rv : Int), u9 = [] ∧ r9 = iI rv ∧ (0 ≤ rv ∧ rv < 24) ∧ (tb mk rv) ∧ (cI (bF mk) rv = k)) := by
  refine Ki.of (by decide) (Nat.le_of_ble_eq_true rfl) ?_
  intro p e s m below meth c A hB hP hD ls hl
  obtain ⟨hx, hb, hRt, hml, hown, hlocks, hg, hE, hA, hin⟩ := hB
  have hown : s.vm.findClass R_B = some m.cls := hown
  have hl : lv_has ls 4 [(0, .int (iI mk)), (1, .int (iI k))] := hl
  obtain ⟨H, hH⟩ : ∃ H, H = s.heap := ⟨_, rfl⟩
  have hS : va_S A s.heap H [] := by rw [hH]; exact va_S.rf
  rw [← hH] at hP
  rw [← hH]
  have hP : va_P G cls0 [] H := hP
  have hD : va_D A [] := hD
  have hpb : popI mk ≤ 24 := (cI_b (bF mk) (show (0 : Int) ≤ 24 by omega)).2
  refine lv_iload_n hx hb d_B_placeOfBit_0 rfl (lv_at hl 0 rfl) ?_
  refine lv_istore_n (lv' := [(2, .int (iI mk)), (0, .int (iI mk)), (1, .int (iI k))]) hx hb d_B_placeOfBit_1 rfl hl (by decide) rfl (fun ls hl => ?_)
  refine lv_iconst (v := iI 0) hx hb d_B_placeOfBit_2 rfl ?_
  refine lv_istore_n (lv' := [(3, .int (iI 0)), (2, .int (iI mk)), (0, .int (iI mk)), (1, .int (iI k))]) hx hb d_B_placeOfBit_3 rfl hl (by decide) rfl (fun ls hl => ?_)
  have L4 : ∀ n9 : Nat, ∀ (v : Int) (i : Int), (k - i : Int).toNat < n9 → (0 ≤ i ∧ i ≤ k) → (LFT mk v i) → ∀ (H : Heap) (locs : List Loc), va_P G cls0 [] H → va_D A [] → va_S A s.heap H locs → ∀ ls : Array Slot, lv_has ls 4 [(0, .int (iI mk)), (1, .int (iI k)), (2, .int (iI v)), (3, .int (iI i))] → W p l e (rmD 1) s m [.int (iI mk), .int (iI k)].toArray below meth c H locs 0 0 (Zi below [.int (iI mk), .int (iI k)].toArray s (rmD 1) G A (fun r9 u9 => ∃ (rv : Int), u9 = [] ∧ r9 = iI rv ∧ (0 ≤ rv ∧ rv < 24) ∧ (tb mk rv) ∧ (cI (bF mk) rv = k))) (F0 m 4 ls []) := by
    intro n9
    induction n9 with
    | zero => intro v i hmu; exact absurd hmu (Nat.not_lt_zero _)
    | succ n9 ih4 =>
      intro v i hmu hi hL H locs hP hD hS ls hl
      refine lv_iload_n hx hb d_B_placeOfBit_4 rfl (lv_at hl 3 rfl) ?_
      refine lv_iload_n hx hb d_B_placeOfBit_5 rfl (lv_at hl 1 rfl) ?_
      refine rv_icmp_ge (tgt := 21) hx hb d_B_placeOfBit_6 (by decide) (by constructor <;> omega) (by constructor <;> omega) (fun c_1 => ?_) (fun c_1 => ?_)
      · skip
        have hik : i = k := by omega
        obtain ⟨t, qq, hlow, ht, hmt, hct⟩ := LFT_low hmk hi.1 hL (by omega)
        refine lv_iload_n hx hb d_B_placeOfBit_21 rfl (lv_at hl 2 rfl) ?_
        refine qS_i (As := [.int (iI v)]) (rest := []) (wr := []) hx hb hml hown hg hE hA hS hP hD (k_J_numberOfTrailingZeros l G z v t qq hL.1 hlow ht) [] [] rfl rfl (by decide) (by decide) (by decide) ml_B_235 st_J_numberOfTrailingZeros in_J co_J_numberOfTrailingZeros ok_J_numberOfTrailingZeros ⟨Nat.le_of_ble_eq_true rfl, Nat.le_of_ble_eq_true rfl⟩ hl.1 rfl (Nat.le_of_ble_eq_true rfl) d_B_placeOfBit_22 ⟨Nat.le_of_ble_eq_true rfl, Nat.le_of_ble_eq_true rfl⟩ (fun r9 u9 H locs hw hP hD hS => ?_)
        obtain ⟨rfl, rfl⟩ := hw
        have hP : va_P G cls0 [] H := hP
        have hD : va_D A [] := hD
        have hP9 : va_P G cls0 [] H := hP.sub [] rfl
        have hD9 : va_D A [] := hD.sub [] (by decide) rfl
        refine rv_iret hx hb hRt (nar_int _) hlocks (Nat.le_of_ble_eq_true rfl) (Nat.le_of_ble_eq_true rfl) hP9 hD9 hS d_B_placeOfBit_25 ?_
        exact ⟨((t : Int)), rfl, rfl, (by omega), hmt, (by rw [hct, hik])⟩
      · skip
        refine lv_iload_n hx hb d_B_placeOfBit_9 rfl (lv_at hl 2 rfl) ?_
        refine lv_iload_n hx hb d_B_placeOfBit_10 rfl (lv_at hl 2 rfl) ?_
        refine lv_iconst (v := iI 1) hx hb d_B_placeOfBit_11 rfl ?_
        refine rv_isub hx hb d_B_placeOfBit_12 ?_
        obtain ⟨t, qq, hlow, ht, hmt, hct⟩ := LFT_low hmk hi.1 hL (by omega)
        refine rv_clr hx hb (iI_clr (t := t) (q := qq) hL.1.1 hlow) d_B_placeOfBit_13 ?_
        have hL2 := LFT_clr hL hlow ht hmt hct
        generalize hv2 : ((2 ^ (t + 1) * qq : Nat) : Int) = v2 at hL2
        refine lv_istore_n (lv' := [(2, .int (iI v2)), (0, .int (iI mk)), (1, .int (iI k)), (3, .int (iI i))]) hx hb d_B_placeOfBit_14 rfl hl (by decide) rfl (fun ls hl => ?_)
        refine lv_iinc (v := iI (i + 1)) (lv' := [(3, .int (iI (i + 1))), (2, .int (iI v2)), (0, .int (iI mk)), (1, .int (iI k))]) hx hb d_B_placeOfBit_15 hl (k := 3) rfl (iI_add _ _) (by decide) rfl (fun ls hl => ?_)
        refine lv_goto (tgt := 4) hx hb d_B_placeOfBit_18 (by decide) ?_
        exact ih4 v2 (i + 1) (by omega) (by omega) hL2 H _ (hP.sub [] rfl) (hD.sub [] (by decide) rfl) hS ls (lv_sub hl [2, 3, 1, 0] rfl)
  exact L4 ((k - 0 : Int).toNat + 1) mk 0 (Nat.lt_succ_self _) (by omega) (LFT_0 hmk) H _ (hP.sub [] rfl) (hD.sub [] (by decide) rfl) hS ls (lv_sub hl [2, 3, 1, 0] rfl)
set_option maxHeartbeats 4000000 in
set_option maxRecDepth 100000 in
theorem k_B_firsts (l : Launch) (G : va_G) (z : tz3) (hlt : l.stackTraces = false) (q : Nat → Nat) (self : Int) (dO : Int) (dN : Int) (now : Int) (lm : Int) (go : Int) (fresh : Int) (fsu : Int → Int) (fsr : Int → Int) (fse : Int → Int) (fsz : Int → Int) (frt : Int → Int) (fnt : Int → Int) (fco : Int → Int) (a : Int) (ha : inR a) (rsu : ∀ i : Int, -1 ≤ fsu i ∧ fsu i ≤ 64000) (rsr : ∀ i : Int, 0 ≤ fsr i ∧ fsr i ≤ 16777215) (rse : ∀ i : Int, 0 ≤ fse i ∧ fse i ≤ 1) (rsz : ∀ i : Int, 0 ≤ fsz i ∧ fsz i ≤ 24) (rrt : ∀ i : Int, -1 ≤ frt i ∧ frt i ≤ 63) (rnt : ∀ i : Int, 0 ≤ fnt i ∧ fnt i ≤ 63) (rco : ∀ i : Int, 0 ≤ fco i ∧ fco i ≤ 1000) (hAK : AOK fsz frt fco) (hself : 0 ≤ self ∧ self < 64) (hfr : fresh = 0 ∨ fresh = 1) (hw : fresh = 1 → WAYS fsz frt fnt fco self fsu fsr) (hUQ : UNQ fsz frt fnt) : Xi l y_B_firsts c_B_firsts 2 (some .int) (rmX 7) G z [.ref (q 0), .int (iI a)] [(q 0, .inr (3, [.int (iI self), .ref (q 1), .ref (q 2), .ref (q 3), .int (iI dO), .int (iI dN), .int (iI now), .int (iI lm), .int (iI go)])), (q 3, .inr (2, [.ref (q 2), .int (iI self), .ref (q 12), .ref (q 13), .ref (q 14), .int (iI fresh)])), (q 12, .inl (z.1, 64, .inl (aI fsu))), (q 13, .inl (z.1, 64, .inl (aI fsr))), (q 14, .inl (z.2.1, 64, .inl (aI fse))), (q 2, .inr (0, [.ref (q 6), .ref (q 7), .ref (q 8), .ref (q 9), .ref (q 10), .ref (q 11)])), (q 8, .inl (z.1, 66, .inl (aI fsz))), (q 9, .inl (z.1, 1584, .inl (aI frt))), (q 10, .inl (z.1, 1584, .inl (aI fnt))), (q 11, .inl (z.1, 1584, .inl (aI fco)))] (fun r9 u9 => ∃ (gsu : Int → Int) (gsr : Int → Int) (gse : Int → Int) (mk : Int), u9 = [(q 0, .inr (3, [.int (iI self), .ref (q 1), .ref (q 2), .ref (q 3), .int (iI dO), .int (iI dN), .int (iI now), .int (iI lm), .int (iI go)])), (q 3, .inr (2, [.ref (q 2), .int (iI self), .ref (q 12), .ref (q 13), .ref (q 14), .int (iI 1)])), (q 12, .inl (z.1, 64, .inl (aI gsu))), (q 13, .inl (z.1, 64, .inl (aI gsr))), (q 14, .inl (z.2.1, 64, .inl (aI gse))), (q 2, .inr (0, [.ref (q 6), .ref (q 7), .ref (q 8), .ref (q 9), .ref (q 10), .ref (q 11)])), (q 8, .inl (z.1, 66, .inl (aI fsz))), (q 9, .inl (z.1, 1584, .inl (aI frt))), (q 10, .inl (z.1, 1584, .inl (aI fnt))), (q 11, .inl (z.1, 1584, .inl (aI fco)))] ∧ r9 = iI (popI mk) ∧ ((0 ≤ a ∧ a < 64)) ∧ (∀ i : Int, -1 ≤ gsu i ∧ gsu i ≤ 64000) ∧ (∀ i : Int, 0 ≤ gsr i ∧ gsr i ≤ 16777215) ∧ (∀ i : Int, 0 ≤ gse i ∧ gse i ≤ 1) ∧ (WAYS fsz frt fnt fco self gsu gsr) ∧ (0 ≤ mk ∧ mk ≤ 16777215) ∧ (∃ L : Int, LST fsz frt fnt fco gsu a 64 L ∧ (((L = -1 ∨ ps fsz frt fnt fco gsu self a L) ∧ mk = 0) ∨ (¬ (L = -1 ∨ ps fsz frt fnt fco gsu self a L) ∧ MSK fsz frt fnt fco gsu gsr a L 64 mk)))) (fun E9 u9 => (E9 = eIA ∧ u9 = [(q 0, .inr (3, [.int (iI self), .ref (q 1), .ref (q 2), .ref (q 3), .int (iI dO), .int (iI dN), .int (iI now), .int (iI lm), .int (iI go)])), (q 3, .inr (2, [.ref (q 2), .int (iI self), .ref (q 12), .ref (q 13), .ref (q 14), .int (iI fresh)])), (q 12, .inl (z.1, 64, .inl (aI fsu))), (q 13, .inl (z.1, 64, .inl (aI fsr))), (q 14, .inl (z.2.1, 64, .inl (aI fse))), (q 2, .inr (0, [.ref (q 6), .ref (q 7), .ref (q 8), .ref (q 9), .ref (q 10), .ref (q 11)])), (q 8, .inl (z.1, 66, .inl (aI fsz))), (q 9, .inl (z.1, 1584, .inl (aI frt))), (q 10, .inl (z.1, 1584, .inl (aI fnt))), (q 11, .inl (z.1, 1584, .inl (aI fco)))] ∧ (¬ (0 ≤ a ∧ a < 64)))) := by
  refine Xi.of (by decide) (Nat.le_of_ble_eq_true rfl) ?_
  intro p e s m below meth c A hB hX hout hP hD ls hl
  obtain ⟨hx, hb, hRt, hml, hown, hlocks, hg, hE, hA, hin⟩ := hB
  have hown : s.vm.findClass R_B = some m.cls := hown
  have hl : lv_has ls 2 [(0, .ref (q 0)), (1, .int (iI a))] := hl
  obtain ⟨H, hH⟩ : ∃ H, H = s.heap := ⟨_, rfl⟩
  have hS : va_S A s.heap H [] := by rw [hH]; exact va_S.rf
  rw [← hH] at hP
  rw [← hH]
  have hP : va_P G cls0 [(q 0, .inr (3, [.int (iI self), .ref (q 1), .ref (q 2), .ref (q 3), .int (iI dO), .int (iI dN), .int (iI now), .int (iI lm), .int (iI go)])), (q 3, .inr (2, [.ref (q 2), .int (iI self), .ref (q 12), .ref (q 13), .ref (q 14), .int (iI fresh)])), (q 12, .inl (z.1, 64, .inl (aI fsu))), (q 13, .inl (z.1, 64, .inl (aI fsr))), (q 14, .inl (z.2.1, 64, .inl (aI fse))), (q 2, .inr (0, [.ref (q 6), .ref (q 7), .ref (q 8), .ref (q 9), .ref (q 10), .ref (q 11)])), (q 8, .inl (z.1, 66, .inl (aI fsz))), (q 9, .inl (z.1, 1584, .inl (aI frt))), (q 10, .inl (z.1, 1584, .inl (aI fnt))), (q 11, .inl (z.1, 1584, .inl (aI fco)))] H := hP
  have hD : va_D A [(q 0, .inr (3, [.int (iI self), .ref (q 1), .ref (q 2), .ref (q 3), .int (iI dO), .int (iI dN), .int (iI now), .int (iI lm), .int (iI go)])), (q 3, .inr (2, [.ref (q 2), .int (iI self), .ref (q 12), .ref (q 13), .ref (q 14), .int (iI fresh)])), (q 12, .inl (z.1, 64, .inl (aI fsu))), (q 13, .inl (z.1, 64, .inl (aI fsr))), (q 14, .inl (z.2.1, 64, .inl (aI fse))), (q 2, .inr (0, [.ref (q 6), .ref (q 7), .ref (q 8), .ref (q 9), .ref (q 10), .ref (q 11)])), (q 8, .inl (z.1, 66, .inl (aI fsz))), (q 9, .inl (z.1, 1584, .inl (aI frt))), (q 10, .inl (z.1, 1584, .inl (aI fnt))), (q 11, .inl (z.1, 1584, .inl (aI fco)))] := hD
  refine lv_iload_n hx hb d_B_firsts_0 rfl (lv_at hl 1 rfl) ?_
  refine xS_v (As := [.int (iI a)]) (rest := []) (wr := [(q 0, .inr (3, [.int (iI self), .ref (q 1), .ref (q 2), .ref (q 3), .int (iI dO), .int (iI dN), .int (iI now), .int (iI lm), .int (iI go)])), (q 3, .inr (2, [.ref (q 2), .int (iI self), .ref (q 12), .ref (q 13), .ref (q 14), .int (iI fresh)])), (q 12, .inl (z.1, 64, .inl (aI fsu))), (q 13, .inl (z.1, 64, .inl (aI fsr))), (q 14, .inl (z.2.1, 64, .inl (aI fse))), (q 2, .inr (0, [.ref (q 6), .ref (q 7), .ref (q 8), .ref (q 9), .ref (q 10), .ref (q 11)])), (q 8, .inl (z.1, 66, .inl (aI fsz))), (q 9, .inl (z.1, 1584, .inl (aI frt))), (q 10, .inl (z.1, 1584, .inl (aI fnt))), (q 11, .inl (z.1, 1584, .inl (aI fco)))]) hx hb hml hown hg hE hX hA hS hP hD (k_B_refuseNoNet l G z hlt a (by omega)) [] [0, 1, 2, 3, 4, 5, 6, 7, 8, 9] rfl rfl (by decide) (by decide) (by decide) ml_B_198 st_B_refuseNoNet in_B co_B_refuseNoNet ok_B_refuseNoNet ⟨Nat.le_of_ble_eq_true rfl, Nat.le_of_ble_eq_true rfl⟩ hl.1 rfl (Nat.le_of_ble_eq_true rfl) d_B_firsts_1 ⟨Nat.le_of_ble_eq_true rfl, Nat.le_of_ble_eq_true rfl⟩ (fun E9 ce q9 u9 H locs hw hP hD hS hce hcv hcl => ?_) (fun u9 H locs hw hP hD hS => ?_)
  · skip
    obtain ⟨rfl, rfl, hxc⟩ := hw
    have hP : va_P G cls0 [(q 0, .inr (3, [.int (iI self), .ref (q 1), .ref (q 2), .ref (q 3), .int (iI dO), .int (iI dN), .int (iI now), .int (iI lm), .int (iI go)])), (q 3, .inr (2, [.ref (q 2), .int (iI self), .ref (q 12), .ref (q 13), .ref (q 14), .int (iI fresh)])), (q 12, .inl (z.1, 64, .inl (aI fsu))), (q 13, .inl (z.1, 64, .inl (aI fsr))), (q 14, .inl (z.2.1, 64, .inl (aI fse))), (q 2, .inr (0, [.ref (q 6), .ref (q 7), .ref (q 8), .ref (q 9), .ref (q 10), .ref (q 11)])), (q 8, .inl (z.1, 66, .inl (aI fsz))), (q 9, .inl (z.1, 1584, .inl (aI frt))), (q 10, .inl (z.1, 1584, .inl (aI fnt))), (q 11, .inl (z.1, 1584, .inl (aI fco)))] H := hP
    have hD : va_D A [(q 0, .inr (3, [.int (iI self), .ref (q 1), .ref (q 2), .ref (q 3), .int (iI dO), .int (iI dN), .int (iI now), .int (iI lm), .int (iI go)])), (q 3, .inr (2, [.ref (q 2), .int (iI self), .ref (q 12), .ref (q 13), .ref (q 14), .int (iI fresh)])), (q 12, .inl (z.1, 64, .inl (aI fsu))), (q 13, .inl (z.1, 64, .inl (aI fsr))), (q 14, .inl (z.2.1, 64, .inl (aI fse))), (q 2, .inr (0, [.ref (q 6), .ref (q 7), .ref (q 8), .ref (q 9), .ref (q 10), .ref (q 11)])), (q 8, .inl (z.1, 66, .inl (aI fsz))), (q 9, .inl (z.1, 1584, .inl (aI frt))), (q 10, .inl (z.1, 1584, .inl (aI fnt))), (q 11, .inl (z.1, 1584, .inl (aI fco)))] := hD
    have hP9 : va_P G cls0 [(q 0, .inr (3, [.int (iI self), .ref (q 1), .ref (q 2), .ref (q 3), .int (iI dO), .int (iI dN), .int (iI now), .int (iI lm), .int (iI go)])), (q 3, .inr (2, [.ref (q 2), .int (iI self), .ref (q 12), .ref (q 13), .ref (q 14), .int (iI fresh)])), (q 12, .inl (z.1, 64, .inl (aI fsu))), (q 13, .inl (z.1, 64, .inl (aI fsr))), (q 14, .inl (z.2.1, 64, .inl (aI fse))), (q 2, .inr (0, [.ref (q 6), .ref (q 7), .ref (q 8), .ref (q 9), .ref (q 10), .ref (q 11)])), (q 8, .inl (z.1, 66, .inl (aI fsz))), (q 9, .inl (z.1, 1584, .inl (aI frt))), (q 10, .inl (z.1, 1584, .inl (aI fnt))), (q 11, .inl (z.1, 1584, .inl (aI fco)))] H := hP.sub [0, 1, 2, 3, 4, 5, 6, 7, 8, 9] rfl
    have hD9 : va_D A [(q 0, .inr (3, [.int (iI self), .ref (q 1), .ref (q 2), .ref (q 3), .int (iI dO), .int (iI dN), .int (iI now), .int (iI lm), .int (iI go)])), (q 3, .inr (2, [.ref (q 2), .int (iI self), .ref (q 12), .ref (q 13), .ref (q 14), .int (iI fresh)])), (q 12, .inl (z.1, 64, .inl (aI fsu))), (q 13, .inl (z.1, 64, .inl (aI fsr))), (q 14, .inl (z.2.1, 64, .inl (aI fse))), (q 2, .inr (0, [.ref (q 6), .ref (q 7), .ref (q 8), .ref (q 9), .ref (q 10), .ref (q 11)])), (q 8, .inl (z.1, 66, .inl (aI fsz))), (q 9, .inl (z.1, 1584, .inl (aI frt))), (q 10, .inl (z.1, 1584, .inl (aI fnt))), (q 11, .inl (z.1, 1584, .inl (aI fco)))] := hD.sub [0, 1, 2, 3, 4, 5, 6, 7, 8, 9] (by decide) rfl
    refine rx_out hout hlocks hce hcv hcl hP9 hD9 hS (Nat.le_of_ble_eq_true rfl) (Nat.le_of_ble_eq_true rfl) ?_
    exact ⟨rfl, rfl, (by omega)⟩
  obtain ⟨rfl, f1⟩ := hw
  have hP : va_P G cls0 [(q 0, .inr (3, [.int (iI self), .ref (q 1), .ref (q 2), .ref (q 3), .int (iI dO), .int (iI dN), .int (iI now), .int (iI lm), .int (iI go)])), (q 3, .inr (2, [.ref (q 2), .int (iI self), .ref (q 12), .ref (q 13), .ref (q 14), .int (iI fresh)])), (q 12, .inl (z.1, 64, .inl (aI fsu))), (q 13, .inl (z.1, 64, .inl (aI fsr))), (q 14, .inl (z.2.1, 64, .inl (aI fse))), (q 2, .inr (0, [.ref (q 6), .ref (q 7), .ref (q 8), .ref (q 9), .ref (q 10), .ref (q 11)])), (q 8, .inl (z.1, 66, .inl (aI fsz))), (q 9, .inl (z.1, 1584, .inl (aI frt))), (q 10, .inl (z.1, 1584, .inl (aI fnt))), (q 11, .inl (z.1, 1584, .inl (aI fco)))] H := hP
  have hD : va_D A [(q 0, .inr (3, [.int (iI self), .ref (q 1), .ref (q 2), .ref (q 3), .int (iI dO), .int (iI dN), .int (iI now), .int (iI lm), .int (iI go)])), (q 3, .inr (2, [.ref (q 2), .int (iI self), .ref (q 12), .ref (q 13), .ref (q 14), .int (iI fresh)])), (q 12, .inl (z.1, 64, .inl (aI fsu))), (q 13, .inl (z.1, 64, .inl (aI fsr))), (q 14, .inl (z.2.1, 64, .inl (aI fse))), (q 2, .inr (0, [.ref (q 6), .ref (q 7), .ref (q 8), .ref (q 9), .ref (q 10), .ref (q 11)])), (q 8, .inl (z.1, 66, .inl (aI fsz))), (q 9, .inl (z.1, 1584, .inl (aI frt))), (q 10, .inl (z.1, 1584, .inl (aI fnt))), (q 11, .inl (z.1, 1584, .inl (aI fco)))] := hD
  refine lv_aload_n hx hb d_B_firsts_4 rfl (lv_at hl 0 rfl) ?_
  refine va_get (D := G) (ci := 3) (v := .ref (q 3)) (C := R_B) (T := T_B) (N := 9) hx hb hg iw_B hown hE.1 hP 0 rfl rfl 3 (by decide) (hg _ fl_B_36) (fun _ h9 => h9) rfl d_B_firsts_5 ?_
  refine qV_v (As := []) (rest := []) (wr := [(q 0, .inr (3, [.int (iI self), .ref (q 1), .ref (q 2), .ref (q 3), .int (iI dO), .int (iI dN), .int (iI now), .int (iI lm), .int (iI go)]))]) hx hb hml hown hg hE hA hS hP hD (k_Y_refresh l G z q self fresh fsu fsr fse fsz frt fnt fco (by assumption) (by assumption) (by assumption) (by assumption) (by assumption) (by assumption) (by assumption) (by assumption) (by omega) (by omega) hw) [1, 2, 3, 4, 5, 6, 7, 8, 9] [0] rfl rfl (by decide) (by decide) (by decide) (q0 := 0) rfl rfl ml_B_192 im_Y_refresh se_Y_refresh in_Y co_Y_refresh ok_Y_refresh ⟨Nat.le_of_ble_eq_true rfl, Nat.le_of_ble_eq_true rfl⟩ hl.1 rfl (Nat.le_of_ble_eq_true rfl) d_B_firsts_8 ⟨Nat.le_of_ble_eq_true rfl, Nat.le_of_ble_eq_true rfl⟩ (fun u9 H locs hw hP hD hS => ?_)
  obtain ⟨gsu, gsr, gse, rfl, rgsu, rgsr, rgse, fW⟩ := hw
  have hP : va_P G cls0 [(q 0, .inr (3, [.int (iI self), .ref (q 1), .ref (q 2), .ref (q 3), .int (iI dO), .int (iI dN), .int (iI now), .int (iI lm), .int (iI go)])), (q 3, .inr (2, [.ref (q 2), .int (iI self), .ref (q 12), .ref (q 13), .ref (q 14), .int (iI 1)])), (q 12, .inl (z.1, 64, .inl (aI gsu))), (q 13, .inl (z.1, 64, .inl (aI gsr))), (q 14, .inl (z.2.1, 64, .inl (aI gse))), (q 2, .inr (0, [.ref (q 6), .ref (q 7), .ref (q 8), .ref (q 9), .ref (q 10), .ref (q 11)])), (q 8, .inl (z.1, 66, .inl (aI fsz))), (q 9, .inl (z.1, 1584, .inl (aI frt))), (q 10, .inl (z.1, 1584, .inl (aI fnt))), (q 11, .inl (z.1, 1584, .inl (aI fco)))] H := hP
  have hD : va_D A [(q 0, .inr (3, [.int (iI self), .ref (q 1), .ref (q 2), .ref (q 3), .int (iI dO), .int (iI dN), .int (iI now), .int (iI lm), .int (iI go)])), (q 3, .inr (2, [.ref (q 2), .int (iI self), .ref (q 12), .ref (q 13), .ref (q 14), .int (iI 1)])), (q 12, .inl (z.1, 64, .inl (aI gsu))), (q 13, .inl (z.1, 64, .inl (aI gsr))), (q 14, .inl (z.2.1, 64, .inl (aI gse))), (q 2, .inr (0, [.ref (q 6), .ref (q 7), .ref (q 8), .ref (q 9), .ref (q 10), .ref (q 11)])), (q 8, .inl (z.1, 66, .inl (aI fsz))), (q 9, .inl (z.1, 1584, .inl (aI frt))), (q 10, .inl (z.1, 1584, .inl (aI fnt))), (q 11, .inl (z.1, 1584, .inl (aI fco)))] := hD
  refine lv_aload_n hx hb d_B_firsts_11 rfl (lv_at hl 0 rfl) ?_
  refine va_get (D := G) (ci := 3) (v := .ref (q 3)) (C := R_B) (T := T_B) (N := 9) hx hb hg iw_B hown hE.1 hP 0 rfl rfl 3 (by decide) (hg _ fl_B_36) (fun _ h9 => h9) rfl d_B_firsts_12 ?_
  refine lv_iload_n hx hb d_B_firsts_15 rfl (lv_at hl 1 rfl) ?_
  refine qV_i (As := [.int (iI a)]) (rest := []) (wr := [(q 0, .inr (3, [.int (iI self), .ref (q 1), .ref (q 2), .ref (q 3), .int (iI dO), .int (iI dN), .int (iI now), .int (iI lm), .int (iI go)])), (q 14, .inl (z.2.1, 64, .inl (aI gse)))]) hx hb hml hown hg hE hA hS hP hD (k_Y_startsTo l G z q self 1 gsu gsr fsz frt fnt fco a (by assumption) (by assumption) (by assumption) (by assumption) (by assumption) (by assumption) (by assumption) (by assumption) (by omega) (by omega)) [1, 2, 3, 5, 6, 7, 8, 9] [0, 4] rfl rfl (by decide) (by decide) (by decide) (q0 := 0) rfl rfl ml_B_204 im_Y_startsTo se_Y_startsTo in_Y co_Y_startsTo ok_Y_startsTo ⟨Nat.le_of_ble_eq_true rfl, Nat.le_of_ble_eq_true rfl⟩ hl.1 rfl (Nat.le_of_ble_eq_true rfl) d_B_firsts_16 ⟨Nat.le_of_ble_eq_true rfl, Nat.le_of_ble_eq_true rfl⟩ (fun r9 u9 H locs hw hP hD hS => ?_)
  obtain ⟨mk, rfl, rfl, fm, fS⟩ := hw
  have hP : va_P G cls0 [(q 0, .inr (3, [.int (iI self), .ref (q 1), .ref (q 2), .ref (q 3), .int (iI dO), .int (iI dN), .int (iI now), .int (iI lm), .int (iI go)])), (q 14, .inl (z.2.1, 64, .inl (aI gse))), (q 3, .inr (2, [.ref (q 2), .int (iI self), .ref (q 12), .ref (q 13), .ref (q 14), .int (iI 1)])), (q 12, .inl (z.1, 64, .inl (aI gsu))), (q 13, .inl (z.1, 64, .inl (aI gsr))), (q 2, .inr (0, [.ref (q 6), .ref (q 7), .ref (q 8), .ref (q 9), .ref (q 10), .ref (q 11)])), (q 8, .inl (z.1, 66, .inl (aI fsz))), (q 9, .inl (z.1, 1584, .inl (aI frt))), (q 10, .inl (z.1, 1584, .inl (aI fnt))), (q 11, .inl (z.1, 1584, .inl (aI fco)))] H := hP
  have hD : va_D A [(q 0, .inr (3, [.int (iI self), .ref (q 1), .ref (q 2), .ref (q 3), .int (iI dO), .int (iI dN), .int (iI now), .int (iI lm), .int (iI go)])), (q 14, .inl (z.2.1, 64, .inl (aI gse))), (q 3, .inr (2, [.ref (q 2), .int (iI self), .ref (q 12), .ref (q 13), .ref (q 14), .int (iI 1)])), (q 12, .inl (z.1, 64, .inl (aI gsu))), (q 13, .inl (z.1, 64, .inl (aI gsr))), (q 2, .inr (0, [.ref (q 6), .ref (q 7), .ref (q 8), .ref (q 9), .ref (q 10), .ref (q 11)])), (q 8, .inl (z.1, 66, .inl (aI fsz))), (q 9, .inl (z.1, 1584, .inl (aI frt))), (q 10, .inl (z.1, 1584, .inl (aI fnt))), (q 11, .inl (z.1, 1584, .inl (aI fco)))] := hD
  refine qS_i (As := [.int (iI mk)]) (rest := []) (wr := [(q 0, .inr (3, [.int (iI self), .ref (q 1), .ref (q 2), .ref (q 3), .int (iI dO), .int (iI dN), .int (iI now), .int (iI lm), .int (iI go)])), (q 14, .inl (z.2.1, 64, .inl (aI gse))), (q 3, .inr (2, [.ref (q 2), .int (iI self), .ref (q 12), .ref (q 13), .ref (q 14), .int (iI 1)])), (q 12, .inl (z.1, 64, .inl (aI gsu))), (q 13, .inl (z.1, 64, .inl (aI gsr))), (q 2, .inr (0, [.ref (q 6), .ref (q 7), .ref (q 8), .ref (q 9), .ref (q 10), .ref (q 11)])), (q 8, .inl (z.1, 66, .inl (aI fsz))), (q 9, .inl (z.1, 1584, .inl (aI frt))), (q 10, .inl (z.1, 1584, .inl (aI fnt))), (q 11, .inl (z.1, 1584, .inl (aI fco)))]) hx hb hml hown hg hE hA hS hP hD (k_J_bitCount l G z mk (by omega)) [] [0, 1, 2, 3, 4, 5, 6, 7, 8, 9] rfl rfl (by decide) (by decide) (by decide) ml_B_207 st_J_bitCount in_J co_J_bitCount ok_J_bitCount ⟨Nat.le_of_ble_eq_true rfl, Nat.le_of_ble_eq_true rfl⟩ hl.1 rfl (Nat.le_of_ble_eq_true rfl) d_B_firsts_19 ⟨Nat.le_of_ble_eq_true rfl, Nat.le_of_ble_eq_true rfl⟩ (fun r9 u9 H locs hw hP hD hS => ?_)
  obtain ⟨rfl, rfl⟩ := hw
  have hP : va_P G cls0 [(q 0, .inr (3, [.int (iI self), .ref (q 1), .ref (q 2), .ref (q 3), .int (iI dO), .int (iI dN), .int (iI now), .int (iI lm), .int (iI go)])), (q 14, .inl (z.2.1, 64, .inl (aI gse))), (q 3, .inr (2, [.ref (q 2), .int (iI self), .ref (q 12), .ref (q 13), .ref (q 14), .int (iI 1)])), (q 12, .inl (z.1, 64, .inl (aI gsu))), (q 13, .inl (z.1, 64, .inl (aI gsr))), (q 2, .inr (0, [.ref (q 6), .ref (q 7), .ref (q 8), .ref (q 9), .ref (q 10), .ref (q 11)])), (q 8, .inl (z.1, 66, .inl (aI fsz))), (q 9, .inl (z.1, 1584, .inl (aI frt))), (q 10, .inl (z.1, 1584, .inl (aI fnt))), (q 11, .inl (z.1, 1584, .inl (aI fco)))] H := hP
  have hD : va_D A [(q 0, .inr (3, [.int (iI self), .ref (q 1), .ref (q 2), .ref (q 3), .int (iI dO), .int (iI dN), .int (iI now), .int (iI lm), .int (iI go)])), (q 14, .inl (z.2.1, 64, .inl (aI gse))), (q 3, .inr (2, [.ref (q 2), .int (iI self), .ref (q 12), .ref (q 13), .ref (q 14), .int (iI 1)])), (q 12, .inl (z.1, 64, .inl (aI gsu))), (q 13, .inl (z.1, 64, .inl (aI gsr))), (q 2, .inr (0, [.ref (q 6), .ref (q 7), .ref (q 8), .ref (q 9), .ref (q 10), .ref (q 11)])), (q 8, .inl (z.1, 66, .inl (aI fsz))), (q 9, .inl (z.1, 1584, .inl (aI frt))), (q 10, .inl (z.1, 1584, .inl (aI fnt))), (q 11, .inl (z.1, 1584, .inl (aI fco)))] := hD
  have hP9 : va_P G cls0 [(q 0, .inr (3, [.int (iI self), .ref (q 1), .ref (q 2), .ref (q 3), .int (iI dO), .int (iI dN), .int (iI now), .int (iI lm), .int (iI go)])), (q 3, .inr (2, [.ref (q 2), .int (iI self), .ref (q 12), .ref (q 13), .ref (q 14), .int (iI 1)])), (q 12, .inl (z.1, 64, .inl (aI gsu))), (q 13, .inl (z.1, 64, .inl (aI gsr))), (q 14, .inl (z.2.1, 64, .inl (aI gse))), (q 2, .inr (0, [.ref (q 6), .ref (q 7), .ref (q 8), .ref (q 9), .ref (q 10), .ref (q 11)])), (q 8, .inl (z.1, 66, .inl (aI fsz))), (q 9, .inl (z.1, 1584, .inl (aI frt))), (q 10, .inl (z.1, 1584, .inl (aI fnt))), (q 11, .inl (z.1, 1584, .inl (aI fco)))] H := hP.sub [0, 2, 3, 4, 1, 5, 6, 7, 8, 9] rfl
  have hD9 : va_D A [(q 0, .inr (3, [.int (iI self), .ref (q 1), .ref (q 2), .ref (q 3), .int (iI dO), .int (iI dN), .int (iI now), .int (iI lm), .int (iI go)])), (q 3, .inr (2, [.ref (q 2), .int (iI self), .ref (q 12), .ref (q 13), .ref (q 14), .int (iI 1)])), (q 12, .inl (z.1, 64, .inl (aI gsu))), (q 13, .inl (z.1, 64, .inl (aI gsr))), (q 14, .inl (z.2.1, 64, .inl (aI gse))), (q 2, .inr (0, [.ref (q 6), .ref (q 7), .ref (q 8), .ref (q 9), .ref (q 10), .ref (q 11)])), (q 8, .inl (z.1, 66, .inl (aI fsz))), (q 9, .inl (z.1, 1584, .inl (aI frt))), (q 10, .inl (z.1, 1584, .inl (aI fnt))), (q 11, .inl (z.1, 1584, .inl (aI fco)))] := hD.sub [0, 2, 3, 4, 1, 5, 6, 7, 8, 9] (by decide) rfl
  refine rx_iret hx hb hRt (nar_int _) hlocks (Nat.le_of_ble_eq_true rfl) (Nat.le_of_ble_eq_true rfl) hP9 hD9 hS d_B_firsts_22 ?_
  exact ⟨gsu, gsr, gse, mk, rfl, rfl, (by omega), rgsu, rgsr, rgse, fW, fm, fS⟩
set_option maxHeartbeats 4000000 in
set_option maxRecDepth 100000 in
theorem k_B_first (l : Launch) (G : va_G) (z : tz3) (hlt : l.stackTraces = false) (q : Nat → Nat) (self : Int) (dO : Int) (dN : Int) (now : Int) (lm : Int) (go : Int) (fresh : Int) (fsu : Int → Int) (fsr : Int → Int) (fse : Int → Int) (fsz : Int → Int) (frt : Int → Int) (fnt : Int → Int) (fco : Int → Int) (a : Int) (k : Int) (ha : inR a) (hkk : inR k) (rsu : ∀ i : Int, -1 ≤ fsu i ∧ fsu i ≤ 64000) (rsr : ∀ i : Int, 0 ≤ fsr i ∧ fsr i ≤ 16777215) (rse : ∀ i : Int, 0 ≤ fse i ∧ fse i ≤ 1) (rsz : ∀ i : Int, 0 ≤ fsz i ∧ fsz i ≤ 24) (rrt : ∀ i : Int, -1 ≤ frt i ∧ frt i ≤ 63) (rnt : ∀ i : Int, 0 ≤ fnt i ∧ fnt i ≤ 63) (rco : ∀ i : Int, 0 ≤ fco i ∧ fco i ≤ 1000) (hAK : AOK fsz frt fco) (hself : 0 ≤ self ∧ self < 64) (hfr : fresh = 0 ∨ fresh = 1) (hw : fresh = 1 → WAYS fsz frt fnt fco self fsu fsr) (hUQ : UNQ fsz frt fnt) : Xi l y_B_first c_B_first 5 (some .int) (rmY 7) G z [.ref (q 0), .int (iI a), .int (iI k)] [(q 0, .inr (3, [.int (iI self), .ref (q 1), .ref (q 2), .ref (q 3), .int (iI dO), .int (iI dN), .int (iI now), .int (iI lm), .int (iI go)])), (q 3, .inr (2, [.ref (q 2), .int (iI self), .ref (q 12), .ref (q 13), .ref (q 14), .int (iI fresh)])), (q 12, .inl (z.1, 64, .inl (aI fsu))), (q 13, .inl (z.1, 64, .inl (aI fsr))), (q 14, .inl (z.2.1, 64, .inl (aI fse))), (q 2, .inr (0, [.ref (q 6), .ref (q 7), .ref (q 8), .ref (q 9), .ref (q 10), .ref (q 11)])), (q 8, .inl (z.1, 66, .inl (aI fsz))), (q 9, .inl (z.1, 1584, .inl (aI frt))), (q 10, .inl (z.1, 1584, .inl (aI fnt))), (q 11, .inl (z.1, 1584, .inl (aI fco)))] (fun r9 u9 => ∃ (gsu : Int → Int) (gsr : Int → Int) (gse : Int → Int) (mk : Int) (pp : Int), u9 = [(q 0, .inr (3, [.int (iI self), .ref (q 1), .ref (q 2), .ref (q 3), .int (iI dO), .int (iI dN), .int (iI now), .int (iI lm), .int (iI go)])), (q 3, .inr (2, [.ref (q 2), .int (iI self), .ref (q 12), .ref (q 13), .ref (q 14), .int (iI 1)])), (q 12, .inl (z.1, 64, .inl (aI gsu))), (q 13, .inl (z.1, 64, .inl (aI gsr))), (q 14, .inl (z.2.1, 64, .inl (aI gse))), (q 2, .inr (0, [.ref (q 6), .ref (q 7), .ref (q 8), .ref (q 9), .ref (q 10), .ref (q 11)])), (q 8, .inl (z.1, 66, .inl (aI fsz))), (q 9, .inl (z.1, 1584, .inl (aI frt))), (q 10, .inl (z.1, 1584, .inl (aI fnt))), (q 11, .inl (z.1, 1584, .inl (aI fco)))] ∧ r9 = iI (64 * fnt (self * 24 + pp) + frt (self * 24 + pp)) ∧ ((0 ≤ a ∧ a < 64)) ∧ (∀ i : Int, -1 ≤ gsu i ∧ gsu i ≤ 64000) ∧ (∀ i : Int, 0 ≤ gsr i ∧ gsr i ≤ 16777215) ∧ (∀ i : Int, 0 ≤ gse i ∧ gse i ≤ 1) ∧ (WAYS fsz frt fnt fco self gsu gsr) ∧ (0 ≤ mk ∧ mk ≤ 16777215) ∧ (∃ L : Int, LST fsz frt fnt fco gsu a 64 L ∧ (((L = -1 ∨ ps fsz frt fnt fco gsu self a L) ∧ mk = 0) ∨ (¬ (L = -1 ∨ ps fsz frt fnt fco gsu self a L) ∧ MSK fsz frt fnt fco gsu gsr a L 64 mk))) ∧ (0 ≤ k ∧ k < popI mk) ∧ (0 ≤ pp ∧ pp < 24) ∧ (tb mk pp) ∧ (cI (bF mk) pp = k)) (fun E9 u9 => (E9 = eIA ∧ u9 = [(q 0, .inr (3, [.int (iI self), .ref (q 1), .ref (q 2), .ref (q 3), .int (iI dO), .int (iI dN), .int (iI now), .int (iI lm), .int (iI go)])), (q 3, .inr (2, [.ref (q 2), .int (iI self), .ref (q 12), .ref (q 13), .ref (q 14), .int (iI fresh)])), (q 12, .inl (z.1, 64, .inl (aI fsu))), (q 13, .inl (z.1, 64, .inl (aI fsr))), (q 14, .inl (z.2.1, 64, .inl (aI fse))), (q 2, .inr (0, [.ref (q 6), .ref (q 7), .ref (q 8), .ref (q 9), .ref (q 10), .ref (q 11)])), (q 8, .inl (z.1, 66, .inl (aI fsz))), (q 9, .inl (z.1, 1584, .inl (aI frt))), (q 10, .inl (z.1, 1584, .inl (aI fnt))), (q 11, .inl (z.1, 1584, .inl (aI fco)))] ∧ (¬ (0 ≤ a ∧ a < 64))) ∨ (∃ (gsu : Int → Int) (gsr : Int → Int) (gse : Int → Int) (mk : Int), E9 = eIO ∧ u9 = [(q 0, .inr (3, [.int (iI self), .ref (q 1), .ref (q 2), .ref (q 3), .int (iI dO), .int (iI dN), .int (iI now), .int (iI lm), .int (iI go)])), (q 3, .inr (2, [.ref (q 2), .int (iI self), .ref (q 12), .ref (q 13), .ref (q 14), .int (iI 1)])), (q 12, .inl (z.1, 64, .inl (aI gsu))), (q 13, .inl (z.1, 64, .inl (aI gsr))), (q 14, .inl (z.2.1, 64, .inl (aI gse))), (q 2, .inr (0, [.ref (q 6), .ref (q 7), .ref (q 8), .ref (q 9), .ref (q 10), .ref (q 11)])), (q 8, .inl (z.1, 66, .inl (aI fsz))), (q 9, .inl (z.1, 1584, .inl (aI frt))), (q 10, .inl (z.1, 1584, .inl (aI fnt))), (q 11, .inl (z.1, 1584, .inl (aI fco)))] ∧ ((0 ≤ a ∧ a < 64)) ∧ (∀ i : Int, -1 ≤ gsu i ∧ gsu i ≤ 64000) ∧ (∀ i : Int, 0 ≤ gsr i ∧ gsr i ≤ 16777215) ∧ (∀ i : Int, 0 ≤ gse i ∧ gse i ≤ 1) ∧ (WAYS fsz frt fnt fco self gsu gsr) ∧ (0 ≤ mk ∧ mk ≤ 16777215) ∧ (∃ L : Int, LST fsz frt fnt fco gsu a 64 L ∧ (((L = -1 ∨ ps fsz frt fnt fco gsu self a L) ∧ mk = 0) ∨ (¬ (L = -1 ∨ ps fsz frt fnt fco gsu self a L) ∧ MSK fsz frt fnt fco gsu gsr a L 64 mk))) ∧ (¬ (0 ≤ k ∧ k < popI mk)))) := by
  refine Xi.of (by decide) (Nat.le_of_ble_eq_true rfl) ?_
  intro p e s m below meth c A hB hX hout hP hD ls hl
  obtain ⟨hx, hb, hRt, hml, hown, hlocks, hg, hE, hA, hin⟩ := hB
  have hown : s.vm.findClass R_B = some m.cls := hown
  have hl : lv_has ls 5 [(0, .ref (q 0)), (1, .int (iI a)), (2, .int (iI k))] := hl
  obtain ⟨H, hH⟩ : ∃ H, H = s.heap := ⟨_, rfl⟩
  have hS : va_S A s.heap H [] := by rw [hH]; exact va_S.rf
  rw [← hH] at hP
  rw [← hH]
  have hP : va_P G cls0 [(q 0, .inr (3, [.int (iI self), .ref (q 1), .ref (q 2), .ref (q 3), .int (iI dO), .int (iI dN), .int (iI now), .int (iI lm), .int (iI go)])), (q 3, .inr (2, [.ref (q 2), .int (iI self), .ref (q 12), .ref (q 13), .ref (q 14), .int (iI fresh)])), (q 12, .inl (z.1, 64, .inl (aI fsu))), (q 13, .inl (z.1, 64, .inl (aI fsr))), (q 14, .inl (z.2.1, 64, .inl (aI fse))), (q 2, .inr (0, [.ref (q 6), .ref (q 7), .ref (q 8), .ref (q 9), .ref (q 10), .ref (q 11)])), (q 8, .inl (z.1, 66, .inl (aI fsz))), (q 9, .inl (z.1, 1584, .inl (aI frt))), (q 10, .inl (z.1, 1584, .inl (aI fnt))), (q 11, .inl (z.1, 1584, .inl (aI fco)))] H := hP
  have hD : va_D A [(q 0, .inr (3, [.int (iI self), .ref (q 1), .ref (q 2), .ref (q 3), .int (iI dO), .int (iI dN), .int (iI now), .int (iI lm), .int (iI go)])), (q 3, .inr (2, [.ref (q 2), .int (iI self), .ref (q 12), .ref (q 13), .ref (q 14), .int (iI fresh)])), (q 12, .inl (z.1, 64, .inl (aI fsu))), (q 13, .inl (z.1, 64, .inl (aI fsr))), (q 14, .inl (z.2.1, 64, .inl (aI fse))), (q 2, .inr (0, [.ref (q 6), .ref (q 7), .ref (q 8), .ref (q 9), .ref (q 10), .ref (q 11)])), (q 8, .inl (z.1, 66, .inl (aI fsz))), (q 9, .inl (z.1, 1584, .inl (aI frt))), (q 10, .inl (z.1, 1584, .inl (aI fnt))), (q 11, .inl (z.1, 1584, .inl (aI fco)))] := hD
  refine lv_iload_n hx hb d_B_first_0 rfl (lv_at hl 1 rfl) ?_
  refine xS_v (As := [.int (iI a)]) (rest := []) (wr := [(q 0, .inr (3, [.int (iI self), .ref (q 1), .ref (q 2), .ref (q 3), .int (iI dO), .int (iI dN), .int (iI now), .int (iI lm), .int (iI go)])), (q 3, .inr (2, [.ref (q 2), .int (iI self), .ref (q 12), .ref (q 13), .ref (q 14), .int (iI fresh)])), (q 12, .inl (z.1, 64, .inl (aI fsu))), (q 13, .inl (z.1, 64, .inl (aI fsr))), (q 14, .inl (z.2.1, 64, .inl (aI fse))), (q 2, .inr (0, [.ref (q 6), .ref (q 7), .ref (q 8), .ref (q 9), .ref (q 10), .ref (q 11)])), (q 8, .inl (z.1, 66, .inl (aI fsz))), (q 9, .inl (z.1, 1584, .inl (aI frt))), (q 10, .inl (z.1, 1584, .inl (aI fnt))), (q 11, .inl (z.1, 1584, .inl (aI fco)))]) hx hb hml hown hg hE hX hA hS hP hD (k_B_refuseNoNet l G z hlt a (by omega)) [] [0, 1, 2, 3, 4, 5, 6, 7, 8, 9] rfl rfl (by decide) (by decide) (by decide) ml_B_198 st_B_refuseNoNet in_B co_B_refuseNoNet ok_B_refuseNoNet ⟨Nat.le_of_ble_eq_true rfl, Nat.le_of_ble_eq_true rfl⟩ hl.1 rfl (Nat.le_of_ble_eq_true rfl) d_B_first_1 ⟨Nat.le_of_ble_eq_true rfl, Nat.le_of_ble_eq_true rfl⟩ (fun E9 ce q9 u9 H locs hw hP hD hS hce hcv hcl => ?_) (fun u9 H locs hw hP hD hS => ?_)
  · skip
    obtain ⟨rfl, rfl, hxc⟩ := hw
    have hP : va_P G cls0 [(q 0, .inr (3, [.int (iI self), .ref (q 1), .ref (q 2), .ref (q 3), .int (iI dO), .int (iI dN), .int (iI now), .int (iI lm), .int (iI go)])), (q 3, .inr (2, [.ref (q 2), .int (iI self), .ref (q 12), .ref (q 13), .ref (q 14), .int (iI fresh)])), (q 12, .inl (z.1, 64, .inl (aI fsu))), (q 13, .inl (z.1, 64, .inl (aI fsr))), (q 14, .inl (z.2.1, 64, .inl (aI fse))), (q 2, .inr (0, [.ref (q 6), .ref (q 7), .ref (q 8), .ref (q 9), .ref (q 10), .ref (q 11)])), (q 8, .inl (z.1, 66, .inl (aI fsz))), (q 9, .inl (z.1, 1584, .inl (aI frt))), (q 10, .inl (z.1, 1584, .inl (aI fnt))), (q 11, .inl (z.1, 1584, .inl (aI fco)))] H := hP
    have hD : va_D A [(q 0, .inr (3, [.int (iI self), .ref (q 1), .ref (q 2), .ref (q 3), .int (iI dO), .int (iI dN), .int (iI now), .int (iI lm), .int (iI go)])), (q 3, .inr (2, [.ref (q 2), .int (iI self), .ref (q 12), .ref (q 13), .ref (q 14), .int (iI fresh)])), (q 12, .inl (z.1, 64, .inl (aI fsu))), (q 13, .inl (z.1, 64, .inl (aI fsr))), (q 14, .inl (z.2.1, 64, .inl (aI fse))), (q 2, .inr (0, [.ref (q 6), .ref (q 7), .ref (q 8), .ref (q 9), .ref (q 10), .ref (q 11)])), (q 8, .inl (z.1, 66, .inl (aI fsz))), (q 9, .inl (z.1, 1584, .inl (aI frt))), (q 10, .inl (z.1, 1584, .inl (aI fnt))), (q 11, .inl (z.1, 1584, .inl (aI fco)))] := hD
    have hP9 : va_P G cls0 [(q 0, .inr (3, [.int (iI self), .ref (q 1), .ref (q 2), .ref (q 3), .int (iI dO), .int (iI dN), .int (iI now), .int (iI lm), .int (iI go)])), (q 3, .inr (2, [.ref (q 2), .int (iI self), .ref (q 12), .ref (q 13), .ref (q 14), .int (iI fresh)])), (q 12, .inl (z.1, 64, .inl (aI fsu))), (q 13, .inl (z.1, 64, .inl (aI fsr))), (q 14, .inl (z.2.1, 64, .inl (aI fse))), (q 2, .inr (0, [.ref (q 6), .ref (q 7), .ref (q 8), .ref (q 9), .ref (q 10), .ref (q 11)])), (q 8, .inl (z.1, 66, .inl (aI fsz))), (q 9, .inl (z.1, 1584, .inl (aI frt))), (q 10, .inl (z.1, 1584, .inl (aI fnt))), (q 11, .inl (z.1, 1584, .inl (aI fco)))] H := hP.sub [0, 1, 2, 3, 4, 5, 6, 7, 8, 9] rfl
    have hD9 : va_D A [(q 0, .inr (3, [.int (iI self), .ref (q 1), .ref (q 2), .ref (q 3), .int (iI dO), .int (iI dN), .int (iI now), .int (iI lm), .int (iI go)])), (q 3, .inr (2, [.ref (q 2), .int (iI self), .ref (q 12), .ref (q 13), .ref (q 14), .int (iI fresh)])), (q 12, .inl (z.1, 64, .inl (aI fsu))), (q 13, .inl (z.1, 64, .inl (aI fsr))), (q 14, .inl (z.2.1, 64, .inl (aI fse))), (q 2, .inr (0, [.ref (q 6), .ref (q 7), .ref (q 8), .ref (q 9), .ref (q 10), .ref (q 11)])), (q 8, .inl (z.1, 66, .inl (aI fsz))), (q 9, .inl (z.1, 1584, .inl (aI frt))), (q 10, .inl (z.1, 1584, .inl (aI fnt))), (q 11, .inl (z.1, 1584, .inl (aI fco)))] := hD.sub [0, 1, 2, 3, 4, 5, 6, 7, 8, 9] (by decide) rfl
    refine rx_out hout hlocks hce hcv hcl hP9 hD9 hS (Nat.le_of_ble_eq_true rfl) (Nat.le_of_ble_eq_true rfl) ?_
    exact Or.inl ⟨rfl, rfl, (by omega)⟩
  obtain ⟨rfl, f1⟩ := hw
  have hP : va_P G cls0 [(q 0, .inr (3, [.int (iI self), .ref (q 1), .ref (q 2), .ref (q 3), .int (iI dO), .int (iI dN), .int (iI now), .int (iI lm), .int (iI go)])), (q 3, .inr (2, [.ref (q 2), .int (iI self), .ref (q 12), .ref (q 13), .ref (q 14), .int (iI fresh)])), (q 12, .inl (z.1, 64, .inl (aI fsu))), (q 13, .inl (z.1, 64, .inl (aI fsr))), (q 14, .inl (z.2.1, 64, .inl (aI fse))), (q 2, .inr (0, [.ref (q 6), .ref (q 7), .ref (q 8), .ref (q 9), .ref (q 10), .ref (q 11)])), (q 8, .inl (z.1, 66, .inl (aI fsz))), (q 9, .inl (z.1, 1584, .inl (aI frt))), (q 10, .inl (z.1, 1584, .inl (aI fnt))), (q 11, .inl (z.1, 1584, .inl (aI fco)))] H := hP
  have hD : va_D A [(q 0, .inr (3, [.int (iI self), .ref (q 1), .ref (q 2), .ref (q 3), .int (iI dO), .int (iI dN), .int (iI now), .int (iI lm), .int (iI go)])), (q 3, .inr (2, [.ref (q 2), .int (iI self), .ref (q 12), .ref (q 13), .ref (q 14), .int (iI fresh)])), (q 12, .inl (z.1, 64, .inl (aI fsu))), (q 13, .inl (z.1, 64, .inl (aI fsr))), (q 14, .inl (z.2.1, 64, .inl (aI fse))), (q 2, .inr (0, [.ref (q 6), .ref (q 7), .ref (q 8), .ref (q 9), .ref (q 10), .ref (q 11)])), (q 8, .inl (z.1, 66, .inl (aI fsz))), (q 9, .inl (z.1, 1584, .inl (aI frt))), (q 10, .inl (z.1, 1584, .inl (aI fnt))), (q 11, .inl (z.1, 1584, .inl (aI fco)))] := hD
  refine lv_aload_n hx hb d_B_first_4 rfl (lv_at hl 0 rfl) ?_
  refine va_get (D := G) (ci := 3) (v := .ref (q 3)) (C := R_B) (T := T_B) (N := 9) hx hb hg iw_B hown hE.1 hP 0 rfl rfl 3 (by decide) (hg _ fl_B_36) (fun _ h9 => h9) rfl d_B_first_5 ?_
  refine qV_v (As := []) (rest := []) (wr := [(q 0, .inr (3, [.int (iI self), .ref (q 1), .ref (q 2), .ref (q 3), .int (iI dO), .int (iI dN), .int (iI now), .int (iI lm), .int (iI go)]))]) hx hb hml hown hg hE hA hS hP hD (k_Y_refresh l G z q self fresh fsu fsr fse fsz frt fnt fco (by assumption) (by assumption) (by assumption) (by assumption) (by assumption) (by assumption) (by assumption) (by assumption) (by omega) (by omega) hw) [1, 2, 3, 4, 5, 6, 7, 8, 9] [0] rfl rfl (by decide) (by decide) (by decide) (q0 := 0) rfl rfl ml_B_192 im_Y_refresh se_Y_refresh in_Y co_Y_refresh ok_Y_refresh ⟨Nat.le_of_ble_eq_true rfl, Nat.le_of_ble_eq_true rfl⟩ hl.1 rfl (Nat.le_of_ble_eq_true rfl) d_B_first_8 ⟨Nat.le_of_ble_eq_true rfl, Nat.le_of_ble_eq_true rfl⟩ (fun u9 H locs hw hP hD hS => ?_)
  obtain ⟨gsu, gsr, gse, rfl, rgsu, rgsr, rgse, fW⟩ := hw
  have hP : va_P G cls0 [(q 0, .inr (3, [.int (iI self), .ref (q 1), .ref (q 2), .ref (q 3), .int (iI dO), .int (iI dN), .int (iI now), .int (iI lm), .int (iI go)])), (q 3, .inr (2, [.ref (q 2), .int (iI self), .ref (q 12), .ref (q 13), .ref (q 14), .int (iI 1)])), (q 12, .inl (z.1, 64, .inl (aI gsu))), (q 13, .inl (z.1, 64, .inl (aI gsr))), (q 14, .inl (z.2.1, 64, .inl (aI gse))), (q 2, .inr (0, [.ref (q 6), .ref (q 7), .ref (q 8), .ref (q 9), .ref (q 10), .ref (q 11)])), (q 8, .inl (z.1, 66, .inl (aI fsz))), (q 9, .inl (z.1, 1584, .inl (aI frt))), (q 10, .inl (z.1, 1584, .inl (aI fnt))), (q 11, .inl (z.1, 1584, .inl (aI fco)))] H := hP
  have hD : va_D A [(q 0, .inr (3, [.int (iI self), .ref (q 1), .ref (q 2), .ref (q 3), .int (iI dO), .int (iI dN), .int (iI now), .int (iI lm), .int (iI go)])), (q 3, .inr (2, [.ref (q 2), .int (iI self), .ref (q 12), .ref (q 13), .ref (q 14), .int (iI 1)])), (q 12, .inl (z.1, 64, .inl (aI gsu))), (q 13, .inl (z.1, 64, .inl (aI gsr))), (q 14, .inl (z.2.1, 64, .inl (aI gse))), (q 2, .inr (0, [.ref (q 6), .ref (q 7), .ref (q 8), .ref (q 9), .ref (q 10), .ref (q 11)])), (q 8, .inl (z.1, 66, .inl (aI fsz))), (q 9, .inl (z.1, 1584, .inl (aI frt))), (q 10, .inl (z.1, 1584, .inl (aI fnt))), (q 11, .inl (z.1, 1584, .inl (aI fco)))] := hD
  refine lv_aload_n hx hb d_B_first_11 rfl (lv_at hl 0 rfl) ?_
  refine va_get (D := G) (ci := 3) (v := .ref (q 3)) (C := R_B) (T := T_B) (N := 9) hx hb hg iw_B hown hE.1 hP 0 rfl rfl 3 (by decide) (hg _ fl_B_36) (fun _ h9 => h9) rfl d_B_first_12 ?_
  refine lv_iload_n hx hb d_B_first_15 rfl (lv_at hl 1 rfl) ?_
  refine qV_i (As := [.int (iI a)]) (rest := []) (wr := [(q 0, .inr (3, [.int (iI self), .ref (q 1), .ref (q 2), .ref (q 3), .int (iI dO), .int (iI dN), .int (iI now), .int (iI lm), .int (iI go)])), (q 14, .inl (z.2.1, 64, .inl (aI gse)))]) hx hb hml hown hg hE hA hS hP hD (k_Y_startsTo l G z q self 1 gsu gsr fsz frt fnt fco a (by assumption) (by assumption) (by assumption) (by assumption) (by assumption) (by assumption) (by assumption) (by assumption) (by omega) (by omega)) [1, 2, 3, 5, 6, 7, 8, 9] [0, 4] rfl rfl (by decide) (by decide) (by decide) (q0 := 0) rfl rfl ml_B_204 im_Y_startsTo se_Y_startsTo in_Y co_Y_startsTo ok_Y_startsTo ⟨Nat.le_of_ble_eq_true rfl, Nat.le_of_ble_eq_true rfl⟩ hl.1 rfl (Nat.le_of_ble_eq_true rfl) d_B_first_16 ⟨Nat.le_of_ble_eq_true rfl, Nat.le_of_ble_eq_true rfl⟩ (fun r9 u9 H locs hw hP hD hS => ?_)
  obtain ⟨mk, rfl, rfl, fm, fS⟩ := hw
  have hP : va_P G cls0 [(q 0, .inr (3, [.int (iI self), .ref (q 1), .ref (q 2), .ref (q 3), .int (iI dO), .int (iI dN), .int (iI now), .int (iI lm), .int (iI go)])), (q 14, .inl (z.2.1, 64, .inl (aI gse))), (q 3, .inr (2, [.ref (q 2), .int (iI self), .ref (q 12), .ref (q 13), .ref (q 14), .int (iI 1)])), (q 12, .inl (z.1, 64, .inl (aI gsu))), (q 13, .inl (z.1, 64, .inl (aI gsr))), (q 2, .inr (0, [.ref (q 6), .ref (q 7), .ref (q 8), .ref (q 9), .ref (q 10), .ref (q 11)])), (q 8, .inl (z.1, 66, .inl (aI fsz))), (q 9, .inl (z.1, 1584, .inl (aI frt))), (q 10, .inl (z.1, 1584, .inl (aI fnt))), (q 11, .inl (z.1, 1584, .inl (aI fco)))] H := hP
  have hD : va_D A [(q 0, .inr (3, [.int (iI self), .ref (q 1), .ref (q 2), .ref (q 3), .int (iI dO), .int (iI dN), .int (iI now), .int (iI lm), .int (iI go)])), (q 14, .inl (z.2.1, 64, .inl (aI gse))), (q 3, .inr (2, [.ref (q 2), .int (iI self), .ref (q 12), .ref (q 13), .ref (q 14), .int (iI 1)])), (q 12, .inl (z.1, 64, .inl (aI gsu))), (q 13, .inl (z.1, 64, .inl (aI gsr))), (q 2, .inr (0, [.ref (q 6), .ref (q 7), .ref (q 8), .ref (q 9), .ref (q 10), .ref (q 11)])), (q 8, .inl (z.1, 66, .inl (aI fsz))), (q 9, .inl (z.1, 1584, .inl (aI frt))), (q 10, .inl (z.1, 1584, .inl (aI fnt))), (q 11, .inl (z.1, 1584, .inl (aI fco)))] := hD
  refine lv_istore_n (lv' := [(3, .int (iI mk)), (0, .ref (q 0)), (1, .int (iI a)), (2, .int (iI k))]) hx hb d_B_first_19 rfl hl (by decide) rfl (fun ls hl => ?_)
  have hpb : 0 ≤ popI mk ∧ popI mk ≤ 24 := cI_b (bF mk) (show (0 : Int) ≤ 24 by omega)
  refine lv_iload_n hx hb d_B_first_20 rfl (lv_at hl 3 rfl) ?_
  refine rv_if_lt (tgt := 32) hx hb d_B_first_21 (by decide) (by constructor <;> omega) (fun c_1 => ?_) (fun c_1 => ?_)
  · skip
    have hP9 : va_P G cls0 [(q 0, .inr (3, [.int (iI self), .ref (q 1), .ref (q 2), .ref (q 3), .int (iI dO), .int (iI dN), .int (iI now), .int (iI lm), .int (iI go)])), (q 3, .inr (2, [.ref (q 2), .int (iI self), .ref (q 12), .ref (q 13), .ref (q 14), .int (iI 1)])), (q 12, .inl (z.1, 64, .inl (aI gsu))), (q 13, .inl (z.1, 64, .inl (aI gsr))), (q 14, .inl (z.2.1, 64, .inl (aI gse))), (q 2, .inr (0, [.ref (q 6), .ref (q 7), .ref (q 8), .ref (q 9), .ref (q 10), .ref (q 11)])), (q 8, .inl (z.1, 66, .inl (aI fsz))), (q 9, .inl (z.1, 1584, .inl (aI frt))), (q 10, .inl (z.1, 1584, .inl (aI fnt))), (q 11, .inl (z.1, 1584, .inl (aI fco)))] H := hP.sub [0, 2, 3, 4, 1, 5, 6, 7, 8, 9] rfl
    have hD9 : va_D A [(q 0, .inr (3, [.int (iI self), .ref (q 1), .ref (q 2), .ref (q 3), .int (iI dO), .int (iI dN), .int (iI now), .int (iI lm), .int (iI go)])), (q 3, .inr (2, [.ref (q 2), .int (iI self), .ref (q 12), .ref (q 13), .ref (q 14), .int (iI 1)])), (q 12, .inl (z.1, 64, .inl (aI gsu))), (q 13, .inl (z.1, 64, .inl (aI gsr))), (q 14, .inl (z.2.1, 64, .inl (aI gse))), (q 2, .inr (0, [.ref (q 6), .ref (q 7), .ref (q 8), .ref (q 9), .ref (q 10), .ref (q 11)])), (q 8, .inl (z.1, 66, .inl (aI fsz))), (q 9, .inl (z.1, 1584, .inl (aI frt))), (q 10, .inl (z.1, 1584, .inl (aI fnt))), (q 11, .inl (z.1, 1584, .inl (aI fco)))] := hD.sub [0, 2, 3, 4, 1, 5, 6, 7, 8, 9] (by decide) rfl
    refine rx_throw hx hb hlt hown hg hX at_IO bad_IO ot_IO cl_B_169 in_IndexOutOfBoundsException hX.1.1.2.2 sr_212 (by decide +kernel) hml hl.1 d_B_first_32 d_B_first_35 d_B_first_36 d_B_first_38 d_B_first_41 hout (Nat.le_of_ble_eq_true rfl) (Nat.le_of_ble_eq_true rfl) (Nat.le_of_ble_eq_true rfl) (Nat.le_of_ble_eq_true rfl) hlocks hP9 hD9 hS (Nat.le_of_ble_eq_true rfl) (Nat.le_of_ble_eq_true rfl) ?_
    exact Or.inr (⟨gsu, gsr, gse, mk, rfl, rfl, f1, rgsu, rgsr, rgse, fW, fm, fS, (by omega)⟩)
  · skip
    refine lv_iload_n hx hb d_B_first_24 rfl (lv_at hl 3 rfl) ?_
    refine lv_iload_n hx hb d_B_first_25 rfl (lv_at hl 0 rfl) ?_
    refine qS_i (As := [.int (iI mk)]) (rest := [.int (iI k)]) (wr := [(q 0, .inr (3, [.int (iI self), .ref (q 1), .ref (q 2), .ref (q 3), .int (iI dO), .int (iI dN), .int (iI now), .int (iI lm), .int (iI go)])), (q 14, .inl (z.2.1, 64, .inl (aI gse))), (q 3, .inr (2, [.ref (q 2), .int (iI self), .ref (q 12), .ref (q 13), .ref (q 14), .int (iI 1)])), (q 12, .inl (z.1, 64, .inl (aI gsu))), (q 13, .inl (z.1, 64, .inl (aI gsr))), (q 2, .inr (0, [.ref (q 6), .ref (q 7), .ref (q 8), .ref (q 9), .ref (q 10), .ref (q 11)])), (q 8, .inl (z.1, 66, .inl (aI fsz))), (q 9, .inl (z.1, 1584, .inl (aI frt))), (q 10, .inl (z.1, 1584, .inl (aI fnt))), (q 11, .inl (z.1, 1584, .inl (aI fco)))]) hx hb hml hown hg hE hA hS hP hD (k_J_bitCount l G z mk (by omega)) [] [0, 1, 2, 3, 4, 5, 6, 7, 8, 9] rfl rfl (by decide) (by decide) (by decide) ml_B_207 st_J_bitCount in_J co_J_bitCount ok_J_bitCount ⟨Nat.le_of_ble_eq_true rfl, Nat.le_of_ble_eq_true rfl⟩ hl.1 rfl (Nat.le_of_ble_eq_true rfl) d_B_first_26 ⟨Nat.le_of_ble_eq_true rfl, Nat.le_of_ble_eq_true rfl⟩ (fun r9 u9 H locs hw hP hD hS => ?_)
    obtain ⟨rfl, rfl⟩ := hw
    have hP : va_P G cls0 [(q 0, .inr (3, [.int (iI self), .ref (q 1), .ref (q 2), .ref (q 3), .int (iI dO), .int (iI dN), .int (iI now), .int (iI lm), .int (iI go)])), (q 14, .inl (z.2.1, 64, .inl (aI gse))), (q 3, .inr (2, [.ref (q 2), .int (iI self), .ref (q 12), .ref (q 13), .ref (q 14), .int (iI 1)])), (q 12, .inl (z.1, 64, .inl (aI gsu))), (q 13, .inl (z.1, 64, .inl (aI gsr))), (q 2, .inr (0, [.ref (q 6), .ref (q 7), .ref (q 8), .ref (q 9), .ref (q 10), .ref (q 11)])), (q 8, .inl (z.1, 66, .inl (aI fsz))), (q 9, .inl (z.1, 1584, .inl (aI frt))), (q 10, .inl (z.1, 1584, .inl (aI fnt))), (q 11, .inl (z.1, 1584, .inl (aI fco)))] H := hP
    have hD : va_D A [(q 0, .inr (3, [.int (iI self), .ref (q 1), .ref (q 2), .ref (q 3), .int (iI dO), .int (iI dN), .int (iI now), .int (iI lm), .int (iI go)])), (q 14, .inl (z.2.1, 64, .inl (aI gse))), (q 3, .inr (2, [.ref (q 2), .int (iI self), .ref (q 12), .ref (q 13), .ref (q 14), .int (iI 1)])), (q 12, .inl (z.1, 64, .inl (aI gsu))), (q 13, .inl (z.1, 64, .inl (aI gsr))), (q 2, .inr (0, [.ref (q 6), .ref (q 7), .ref (q 8), .ref (q 9), .ref (q 10), .ref (q 11)])), (q 8, .inl (z.1, 66, .inl (aI fsz))), (q 9, .inl (z.1, 1584, .inl (aI frt))), (q 10, .inl (z.1, 1584, .inl (aI fnt))), (q 11, .inl (z.1, 1584, .inl (aI fco)))] := hD
    refine rv_icmp_lt (tgt := 42) hx hb d_B_first_29 (by decide) (by constructor <;> omega) (by constructor <;> omega) (fun c_2 => ?_) (fun c_2 => ?_)
    · skip
      refine lv_aload_n hx hb d_B_first_42 rfl (lv_at hl 1 rfl) ?_
      refine va_get (D := G) (ci := 3) (v := .int (iI self)) (C := R_B) (T := T_B) (N := 9) hx hb hg iw_B hown hE.1 hP 0 rfl rfl 0 (by decide) (hg _ fl_B_13) (fun _ h9 => h9) rfl d_B_first_43 ?_
      refine lv_iload_n hx hb d_B_first_46 rfl (lv_at hl 0 rfl) ?_
      refine lv_iload_n hx hb d_B_first_47 rfl (lv_at hl 3 rfl) ?_
      refine qS_i (As := [.int (iI mk), .int (iI k)]) (rest := [.int (iI self)]) (wr := [(q 0, .inr (3, [.int (iI self), .ref (q 1), .ref (q 2), .ref (q 3), .int (iI dO), .int (iI dN), .int (iI now), .int (iI lm), .int (iI go)])), (q 14, .inl (z.2.1, 64, .inl (aI gse))), (q 3, .inr (2, [.ref (q 2), .int (iI self), .ref (q 12), .ref (q 13), .ref (q 14), .int (iI 1)])), (q 12, .inl (z.1, 64, .inl (aI gsu))), (q 13, .inl (z.1, 64, .inl (aI gsr))), (q 2, .inr (0, [.ref (q 6), .ref (q 7), .ref (q 8), .ref (q 9), .ref (q 10), .ref (q 11)])), (q 8, .inl (z.1, 66, .inl (aI fsz))), (q 9, .inl (z.1, 1584, .inl (aI frt))), (q 10, .inl (z.1, 1584, .inl (aI fnt))), (q 11, .inl (z.1, 1584, .inl (aI fco)))]) hx hb hml hown hg hE hA hS hP hD (k_B_placeOfBit l G z mk k (by omega) (by omega)) [] [0, 1, 2, 3, 4, 5, 6, 7, 8, 9] rfl rfl (by decide) (by decide) (by decide) ml_B_214 st_B_placeOfBit in_B co_B_placeOfBit ok_B_placeOfBit ⟨Nat.le_of_ble_eq_true rfl, Nat.le_of_ble_eq_true rfl⟩ hl.1 rfl (Nat.le_of_ble_eq_true rfl) d_B_first_48 ⟨Nat.le_of_ble_eq_true rfl, Nat.le_of_ble_eq_true rfl⟩ (fun r9 u9 H locs hw hP hD hS => ?_)
      obtain ⟨pp, rfl, rfl, fp, ft, fc⟩ := hw
      have hP : va_P G cls0 [(q 0, .inr (3, [.int (iI self), .ref (q 1), .ref (q 2), .ref (q 3), .int (iI dO), .int (iI dN), .int (iI now), .int (iI lm), .int (iI go)])), (q 14, .inl (z.2.1, 64, .inl (aI gse))), (q 3, .inr (2, [.ref (q 2), .int (iI self), .ref (q 12), .ref (q 13), .ref (q 14), .int (iI 1)])), (q 12, .inl (z.1, 64, .inl (aI gsu))), (q 13, .inl (z.1, 64, .inl (aI gsr))), (q 2, .inr (0, [.ref (q 6), .ref (q 7), .ref (q 8), .ref (q 9), .ref (q 10), .ref (q 11)])), (q 8, .inl (z.1, 66, .inl (aI fsz))), (q 9, .inl (z.1, 1584, .inl (aI frt))), (q 10, .inl (z.1, 1584, .inl (aI fnt))), (q 11, .inl (z.1, 1584, .inl (aI fco)))] H := hP
      have hD : va_D A [(q 0, .inr (3, [.int (iI self), .ref (q 1), .ref (q 2), .ref (q 3), .int (iI dO), .int (iI dN), .int (iI now), .int (iI lm), .int (iI go)])), (q 14, .inl (z.2.1, 64, .inl (aI gse))), (q 3, .inr (2, [.ref (q 2), .int (iI self), .ref (q 12), .ref (q 13), .ref (q 14), .int (iI 1)])), (q 12, .inl (z.1, 64, .inl (aI gsu))), (q 13, .inl (z.1, 64, .inl (aI gsr))), (q 2, .inr (0, [.ref (q 6), .ref (q 7), .ref (q 8), .ref (q 9), .ref (q 10), .ref (q 11)])), (q 8, .inl (z.1, 66, .inl (aI fsz))), (q 9, .inl (z.1, 1584, .inl (aI frt))), (q 10, .inl (z.1, 1584, .inl (aI fnt))), (q 11, .inl (z.1, 1584, .inl (aI fco)))] := hD
      refine qS_i (As := [.int (iI self), .int (iI pp)]) (rest := []) (wr := [(q 0, .inr (3, [.int (iI self), .ref (q 1), .ref (q 2), .ref (q 3), .int (iI dO), .int (iI dN), .int (iI now), .int (iI lm), .int (iI go)])), (q 14, .inl (z.2.1, 64, .inl (aI gse))), (q 3, .inr (2, [.ref (q 2), .int (iI self), .ref (q 12), .ref (q 13), .ref (q 14), .int (iI 1)])), (q 12, .inl (z.1, 64, .inl (aI gsu))), (q 13, .inl (z.1, 64, .inl (aI gsr))), (q 2, .inr (0, [.ref (q 6), .ref (q 7), .ref (q 8), .ref (q 9), .ref (q 10), .ref (q 11)])), (q 8, .inl (z.1, 66, .inl (aI fsz))), (q 9, .inl (z.1, 1584, .inl (aI frt))), (q 10, .inl (z.1, 1584, .inl (aI fnt))), (q 11, .inl (z.1, 1584, .inl (aI fco)))]) hx hb hml hown hg hE hA hS hP hD (k_A_indexOf l G z self pp) [] [0, 1, 2, 3, 4, 5, 6, 7, 8, 9] rfl rfl (by decide) (by decide) (by decide) ml_B_174 st_A_indexOf in_A co_A_indexOf ok_A_indexOf ⟨Nat.le_of_ble_eq_true rfl, Nat.le_of_ble_eq_true rfl⟩ hl.1 rfl (Nat.le_of_ble_eq_true rfl) d_B_first_51 ⟨Nat.le_of_ble_eq_true rfl, Nat.le_of_ble_eq_true rfl⟩ (fun r9 u9 H locs hw hP hD hS => ?_)
      obtain ⟨rfl, rfl⟩ := hw
      have hP : va_P G cls0 [(q 0, .inr (3, [.int (iI self), .ref (q 1), .ref (q 2), .ref (q 3), .int (iI dO), .int (iI dN), .int (iI now), .int (iI lm), .int (iI go)])), (q 14, .inl (z.2.1, 64, .inl (aI gse))), (q 3, .inr (2, [.ref (q 2), .int (iI self), .ref (q 12), .ref (q 13), .ref (q 14), .int (iI 1)])), (q 12, .inl (z.1, 64, .inl (aI gsu))), (q 13, .inl (z.1, 64, .inl (aI gsr))), (q 2, .inr (0, [.ref (q 6), .ref (q 7), .ref (q 8), .ref (q 9), .ref (q 10), .ref (q 11)])), (q 8, .inl (z.1, 66, .inl (aI fsz))), (q 9, .inl (z.1, 1584, .inl (aI frt))), (q 10, .inl (z.1, 1584, .inl (aI fnt))), (q 11, .inl (z.1, 1584, .inl (aI fco)))] H := hP
      have hD : va_D A [(q 0, .inr (3, [.int (iI self), .ref (q 1), .ref (q 2), .ref (q 3), .int (iI dO), .int (iI dN), .int (iI now), .int (iI lm), .int (iI go)])), (q 14, .inl (z.2.1, 64, .inl (aI gse))), (q 3, .inr (2, [.ref (q 2), .int (iI self), .ref (q 12), .ref (q 13), .ref (q 14), .int (iI 1)])), (q 12, .inl (z.1, 64, .inl (aI gsu))), (q 13, .inl (z.1, 64, .inl (aI gsr))), (q 2, .inr (0, [.ref (q 6), .ref (q 7), .ref (q 8), .ref (q 9), .ref (q 10), .ref (q 11)])), (q 8, .inl (z.1, 66, .inl (aI fsz))), (q 9, .inl (z.1, 1584, .inl (aI frt))), (q 10, .inl (z.1, 1584, .inl (aI fnt))), (q 11, .inl (z.1, 1584, .inl (aI fco)))] := hD
      refine lv_istore (lv' := [(4, .int (iI (self * 24 + pp))), (3, .int (iI mk)), (0, .ref (q 0)), (1, .int (iI a)), (2, .int (iI k))]) hx hb d_B_first_54 hl (by decide) rfl (fun ls hl => ?_)
      refine lv_aload_n hx hb d_B_first_56 rfl (lv_at hl 2 rfl) ?_
      refine va_get (D := G) (ci := 3) (v := .ref (q 2)) (C := R_B) (T := T_B) (N := 9) hx hb hg iw_B hown hE.1 hP 0 rfl rfl 2 (by decide) (hg _ fl_B_27) (fun _ h9 => h9) rfl d_B_first_57 ?_
      refine va_getN (D := G) (ci := 0) (v := .ref (q 10)) (C := R_A) (T := T_A) (N := 6) hx hb hg iw_A hown hE.1 hP 5 rfl rfl 4 (by decide) (hE.nest nf_B_180) (fun _ h9 => h9) rfl d_B_first_60 ?_
      refine lv_iload hx hb d_B_first_63 (lv_at hl 0 rfl) ?_
      refine rv_iald hx hb hE hP 8 rfl (i := self * 24 + pp) (by omega) (by omega) (by decide) d_B_first_65 ?_
      refine lv_aload_n hx hb d_B_first_66 rfl (lv_at hl 2 rfl) ?_
      refine va_get (D := G) (ci := 3) (v := .ref (q 2)) (C := R_B) (T := T_B) (N := 9) hx hb hg iw_B hown hE.1 hP 0 rfl rfl 2 (by decide) (hg _ fl_B_27) (fun _ h9 => h9) rfl d_B_first_67 ?_
      refine va_getN (D := G) (ci := 0) (v := .ref (q 9)) (C := R_A) (T := T_A) (N := 6) hx hb hg iw_A hown hE.1 hP 5 rfl rfl 3 (by decide) (hE.nest nf_B_177) (fun _ h9 => h9) rfl d_B_first_70 ?_
      refine lv_iload hx hb d_B_first_73 (lv_at hl 0 rfl) ?_
      refine rv_iald hx hb hE hP 7 rfl (i := self * 24 + pp) (by omega) (by omega) (by decide) d_B_first_75 ?_
      refine qS_i (As := [.int (iI (fnt (self * 24 + pp))), .int (iI (frt (self * 24 + pp)))]) (rest := []) (wr := [(q 0, .inr (3, [.int (iI self), .ref (q 1), .ref (q 2), .ref (q 3), .int (iI dO), .int (iI dN), .int (iI now), .int (iI lm), .int (iI go)])), (q 14, .inl (z.2.1, 64, .inl (aI gse))), (q 3, .inr (2, [.ref (q 2), .int (iI self), .ref (q 12), .ref (q 13), .ref (q 14), .int (iI 1)])), (q 12, .inl (z.1, 64, .inl (aI gsu))), (q 13, .inl (z.1, 64, .inl (aI gsr))), (q 2, .inr (0, [.ref (q 6), .ref (q 7), .ref (q 8), .ref (q 9), .ref (q 10), .ref (q 11)])), (q 8, .inl (z.1, 66, .inl (aI fsz))), (q 9, .inl (z.1, 1584, .inl (aI frt))), (q 10, .inl (z.1, 1584, .inl (aI fnt))), (q 11, .inl (z.1, 1584, .inl (aI fco)))]) hx hb hml hown hg hE hA hS hP hD (k_B_stepOf l G z (fnt (self * 24 + pp)) (frt (self * 24 + pp))) [] [0, 1, 2, 3, 4, 5, 6, 7, 8, 9] rfl rfl (by decide) (by decide) (by decide) ml_B_78 st_B_stepOf in_B co_B_stepOf ok_B_stepOf ⟨Nat.le_of_ble_eq_true rfl, Nat.le_of_ble_eq_true rfl⟩ hl.1 rfl (Nat.le_of_ble_eq_true rfl) d_B_first_76 ⟨Nat.le_of_ble_eq_true rfl, Nat.le_of_ble_eq_true rfl⟩ (fun r9 u9 H locs hw hP hD hS => ?_)
      obtain ⟨rfl, rfl⟩ := hw
      have hP : va_P G cls0 [(q 0, .inr (3, [.int (iI self), .ref (q 1), .ref (q 2), .ref (q 3), .int (iI dO), .int (iI dN), .int (iI now), .int (iI lm), .int (iI go)])), (q 14, .inl (z.2.1, 64, .inl (aI gse))), (q 3, .inr (2, [.ref (q 2), .int (iI self), .ref (q 12), .ref (q 13), .ref (q 14), .int (iI 1)])), (q 12, .inl (z.1, 64, .inl (aI gsu))), (q 13, .inl (z.1, 64, .inl (aI gsr))), (q 2, .inr (0, [.ref (q 6), .ref (q 7), .ref (q 8), .ref (q 9), .ref (q 10), .ref (q 11)])), (q 8, .inl (z.1, 66, .inl (aI fsz))), (q 9, .inl (z.1, 1584, .inl (aI frt))), (q 10, .inl (z.1, 1584, .inl (aI fnt))), (q 11, .inl (z.1, 1584, .inl (aI fco)))] H := hP
      have hD : va_D A [(q 0, .inr (3, [.int (iI self), .ref (q 1), .ref (q 2), .ref (q 3), .int (iI dO), .int (iI dN), .int (iI now), .int (iI lm), .int (iI go)])), (q 14, .inl (z.2.1, 64, .inl (aI gse))), (q 3, .inr (2, [.ref (q 2), .int (iI self), .ref (q 12), .ref (q 13), .ref (q 14), .int (iI 1)])), (q 12, .inl (z.1, 64, .inl (aI gsu))), (q 13, .inl (z.1, 64, .inl (aI gsr))), (q 2, .inr (0, [.ref (q 6), .ref (q 7), .ref (q 8), .ref (q 9), .ref (q 10), .ref (q 11)])), (q 8, .inl (z.1, 66, .inl (aI fsz))), (q 9, .inl (z.1, 1584, .inl (aI frt))), (q 10, .inl (z.1, 1584, .inl (aI fnt))), (q 11, .inl (z.1, 1584, .inl (aI fco)))] := hD
      have hP9 : va_P G cls0 [(q 0, .inr (3, [.int (iI self), .ref (q 1), .ref (q 2), .ref (q 3), .int (iI dO), .int (iI dN), .int (iI now), .int (iI lm), .int (iI go)])), (q 3, .inr (2, [.ref (q 2), .int (iI self), .ref (q 12), .ref (q 13), .ref (q 14), .int (iI 1)])), (q 12, .inl (z.1, 64, .inl (aI gsu))), (q 13, .inl (z.1, 64, .inl (aI gsr))), (q 14, .inl (z.2.1, 64, .inl (aI gse))), (q 2, .inr (0, [.ref (q 6), .ref (q 7), .ref (q 8), .ref (q 9), .ref (q 10), .ref (q 11)])), (q 8, .inl (z.1, 66, .inl (aI fsz))), (q 9, .inl (z.1, 1584, .inl (aI frt))), (q 10, .inl (z.1, 1584, .inl (aI fnt))), (q 11, .inl (z.1, 1584, .inl (aI fco)))] H := hP.sub [0, 2, 3, 4, 1, 5, 6, 7, 8, 9] rfl
      have hD9 : va_D A [(q 0, .inr (3, [.int (iI self), .ref (q 1), .ref (q 2), .ref (q 3), .int (iI dO), .int (iI dN), .int (iI now), .int (iI lm), .int (iI go)])), (q 3, .inr (2, [.ref (q 2), .int (iI self), .ref (q 12), .ref (q 13), .ref (q 14), .int (iI 1)])), (q 12, .inl (z.1, 64, .inl (aI gsu))), (q 13, .inl (z.1, 64, .inl (aI gsr))), (q 14, .inl (z.2.1, 64, .inl (aI gse))), (q 2, .inr (0, [.ref (q 6), .ref (q 7), .ref (q 8), .ref (q 9), .ref (q 10), .ref (q 11)])), (q 8, .inl (z.1, 66, .inl (aI fsz))), (q 9, .inl (z.1, 1584, .inl (aI frt))), (q 10, .inl (z.1, 1584, .inl (aI fnt))), (q 11, .inl (z.1, 1584, .inl (aI fco)))] := hD.sub [0, 2, 3, 4, 1, 5, 6, 7, 8, 9] (by decide) rfl
      refine rx_iret hx hb hRt (nar_int _) hlocks (Nat.le_of_ble_eq_true rfl) (Nat.le_of_ble_eq_true rfl) hP9 hD9 hS d_B_first_79 ?_
      exact ⟨gsu, gsr, gse, mk, pp, rfl, rfl, f1, rgsu, rgsr, rgse, fW, fm, fS, (by omega), fp, ft, fc⟩
    · skip
      have hP9 : va_P G cls0 [(q 0, .inr (3, [.int (iI self), .ref (q 1), .ref (q 2), .ref (q 3), .int (iI dO), .int (iI dN), .int (iI now), .int (iI lm), .int (iI go)])), (q 3, .inr (2, [.ref (q 2), .int (iI self), .ref (q 12), .ref (q 13), .ref (q 14), .int (iI 1)])), (q 12, .inl (z.1, 64, .inl (aI gsu))), (q 13, .inl (z.1, 64, .inl (aI gsr))), (q 14, .inl (z.2.1, 64, .inl (aI gse))), (q 2, .inr (0, [.ref (q 6), .ref (q 7), .ref (q 8), .ref (q 9), .ref (q 10), .ref (q 11)])), (q 8, .inl (z.1, 66, .inl (aI fsz))), (q 9, .inl (z.1, 1584, .inl (aI frt))), (q 10, .inl (z.1, 1584, .inl (aI fnt))), (q 11, .inl (z.1, 1584, .inl (aI fco)))] H := hP.sub [0, 2, 3, 4, 1, 5, 6, 7, 8, 9] rfl
      have hD9 : va_D A [(q 0, .inr (3, [.int (iI self), .ref (q 1), .ref (q 2), .ref (q 3), .int (iI dO), .int (iI dN), .int (iI now), .int (iI lm), .int (iI go)])), (q 3, .inr (2, [.ref (q 2), .int (iI self), .ref (q 12), .ref (q 13), .ref (q 14), .int (iI 1)])), (q 12, .inl (z.1, 64, .inl (aI gsu))), (q 13, .inl (z.1, 64, .inl (aI gsr))), (q 14, .inl (z.2.1, 64, .inl (aI gse))), (q 2, .inr (0, [.ref (q 6), .ref (q 7), .ref (q 8), .ref (q 9), .ref (q 10), .ref (q 11)])), (q 8, .inl (z.1, 66, .inl (aI fsz))), (q 9, .inl (z.1, 1584, .inl (aI frt))), (q 10, .inl (z.1, 1584, .inl (aI fnt))), (q 11, .inl (z.1, 1584, .inl (aI fco)))] := hD.sub [0, 2, 3, 4, 1, 5, 6, 7, 8, 9] (by decide) rfl
      refine rx_throw hx hb hlt hown hg hX at_IO bad_IO ot_IO cl_B_169 in_IndexOutOfBoundsException hX.1.1.2.2 sr_212 (by decide +kernel) hml hl.1 d_B_first_32 d_B_first_35 d_B_first_36 d_B_first_38 d_B_first_41 hout (Nat.le_of_ble_eq_true rfl) (Nat.le_of_ble_eq_true rfl) (Nat.le_of_ble_eq_true rfl) (Nat.le_of_ble_eq_true rfl) hlocks hP9 hD9 hS (Nat.le_of_ble_eq_true rfl) (Nat.le_of_ble_eq_true rfl) ?_
      exact Or.inr (⟨gsu, gsr, gse, mk, rfl, rfl, f1, rgsu, rgsr, rgse, fW, fm, fS, (by omega)⟩)
