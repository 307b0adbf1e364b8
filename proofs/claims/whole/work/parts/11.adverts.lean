set_option maxHeartbeats 4000000 in
set_option maxRecDepth 100000 in
theorem k_A_append (l : Launch) (G : va_G) (z : tz3) (q : Nat → Nat) (fsz : Int → Int) (frt : Int → Int) (fnt : Int → Int) (fco : Int → Int) (place : Int) (router : Int) (net : Int) (cost : Int) (hpl : 0 ≤ place ∧ place < 66) (rsz : ∀ i : Int, 0 ≤ fsz i ∧ fsz i ≤ 24) (hroom : fsz place < 24) : Kv l y_A_append c_A_append 6 (rmD 1) G z [.ref (q 2), .int (iI place), .int (iI router), .int (iI net), .int (iI cost)] [(q 2, .inr (0, [.ref (q 6), .ref (q 7), .ref (q 8), .ref (q 9), .ref (q 10), .ref (q 11)])), (q 8, .inl (z.1, 66, .inl (aI fsz))), (q 9, .inl (z.1, 1584, .inl (aI frt))), (q 10, .inl (z.1, 1584, .inl (aI fnt))), (q 11, .inl (z.1, 1584, .inl (aI fco)))] (fun u9 => u9 = [(q 2, .inr (0, [.ref (q 6), .ref (q 7), .ref (q 8), .ref (q 9), .ref (q 10), .ref (q 11)])), (q 8, .inl (z.1, 66, .inl (aI (uZ fsz place (fsz place + 1))))), (q 9, .inl (z.1, 1584, .inl (aI (uZ frt (place * 24 + fsz place) router)))), (q 10, .inl (z.1, 1584, .inl (aI (uZ fnt (place * 24 + fsz place) net)))), (q 11, .inl (z.1, 1584, .inl (aI (uZ fco (place * 24 + fsz place) cost))))]) := by
  refine Kv.of (by decide) (Nat.le_of_ble_eq_true rfl) ?_
  intro p e s m below meth c A hB hP hD ls hl
  obtain ⟨hx, hb, hRt, hml, hown, hlocks, hg, hE, hA, hin⟩ := hB
  have hown : s.vm.findClass R_A = some m.cls := hown
  have hl : lv_has ls 6 [(0, .ref (q 2)), (1, .int (iI place)), (2, .int (iI router)), (3, .int (iI net)), (4, .int (iI cost))] := hl
  obtain ⟨H, hH⟩ : ∃ H, H = s.heap := ⟨_, rfl⟩
  have hS : va_S A s.heap H [] := by rw [hH]; exact va_S.rf
  rw [← hH] at hP
  rw [← hH]
  have hP : va_P G cls0 [(q 2, .inr (0, [.ref (q 6), .ref (q 7), .ref (q 8), .ref (q 9), .ref (q 10), .ref (q 11)])), (q 8, .inl (z.1, 66, .inl (aI fsz))), (q 9, .inl (z.1, 1584, .inl (aI frt))), (q 10, .inl (z.1, 1584, .inl (aI fnt))), (q 11, .inl (z.1, 1584, .inl (aI fco)))] H := hP
  have hD : va_D A [(q 2, .inr (0, [.ref (q 6), .ref (q 7), .ref (q 8), .ref (q 9), .ref (q 10), .ref (q 11)])), (q 8, .inl (z.1, 66, .inl (aI fsz))), (q 9, .inl (z.1, 1584, .inl (aI frt))), (q 10, .inl (z.1, 1584, .inl (aI fnt))), (q 11, .inl (z.1, 1584, .inl (aI fco)))] := hD
  refine lv_aload_n hx hb d_A_append_0 rfl (lv_at hl 0 rfl) ?_
  refine lv_iload_n hx hb d_A_append_1 rfl (lv_at hl 1 rfl) ?_
  refine qV_i (As := [.int (iI place)]) (rest := []) (wr := [(q 9, .inl (z.1, 1584, .inl (aI frt))), (q 10, .inl (z.1, 1584, .inl (aI fnt))), (q 11, .inl (z.1, 1584, .inl (aI fco)))]) hx hb hml hown hg hE hA hS hP hD (k_A_hasRoom l G z q fsz place (by omega) (by assumption)) [0, 1] [2, 3, 4] rfl rfl (by decide) (by decide) (by decide) (q0 := 0) rfl rfl ml_A_36 im_A_hasRoom se_A_hasRoom in_A co_A_hasRoom ok_A_hasRoom ⟨Nat.le_of_ble_eq_true rfl, Nat.le_of_ble_eq_true rfl⟩ hl.1 rfl (Nat.le_of_ble_eq_true rfl) d_A_append_2 ⟨Nat.le_of_ble_eq_true rfl, Nat.le_of_ble_eq_true rfl⟩ (fun r9 u9 H locs hw hP hD hS => ?_)
  obtain ⟨rb_1, rfl, rfl, fb_2⟩ := hw
  have hP : va_P G cls0 [(q 9, .inl (z.1, 1584, .inl (aI frt))), (q 10, .inl (z.1, 1584, .inl (aI fnt))), (q 11, .inl (z.1, 1584, .inl (aI fco))), (q 2, .inr (0, [.ref (q 6), .ref (q 7), .ref (q 8), .ref (q 9), .ref (q 10), .ref (q 11)])), (q 8, .inl (z.1, 66, .inl (aI fsz)))] H := hP
  have hD : va_D A [(q 9, .inl (z.1, 1584, .inl (aI frt))), (q 10, .inl (z.1, 1584, .inl (aI fnt))), (q 11, .inl (z.1, 1584, .inl (aI fco))), (q 2, .inr (0, [.ref (q 6), .ref (q 7), .ref (q 8), .ref (q 9), .ref (q 10), .ref (q 11)])), (q 8, .inl (z.1, 66, .inl (aI fsz)))] := hD
  refine rv_if_ne (tgt := 9) hx hb d_A_append_5 (by decide) (by constructor <;> omega) (fun c_3 => ?_) (fun c_3 => ?_)
  · skip
    refine lv_iload_n hx hb d_A_append_9 rfl (lv_at hl 1 rfl) ?_
    refine lv_aload_n hx hb d_A_append_10 rfl (lv_at hl 0 rfl) ?_
    refine va_get (D := G) (ci := 0) (v := .ref (q 8)) (C := R_A) (T := T_A) (N := 6) hx hb hg iw_A hown hE.1 hP 3 rfl rfl 2 (by decide) (hg _ fl_A_18) (fun _ h9 => h9) rfl d_A_append_11 ?_
    refine lv_iload_n hx hb d_A_append_14 rfl (lv_at hl 1 rfl) ?_
    refine rv_iald hx hb hE hP 4 rfl (i := place) (by omega) (by omega) (by decide) d_A_append_15 ?_
    refine qS_i (As := [.int (iI place), .int (iI (fsz place))]) (rest := []) (wr := [(q 9, .inl (z.1, 1584, .inl (aI frt))), (q 10, .inl (z.1, 1584, .inl (aI fnt))), (q 11, .inl (z.1, 1584, .inl (aI fco))), (q 2, .inr (0, [.ref (q 6), .ref (q 7), .ref (q 8), .ref (q 9), .ref (q 10), .ref (q 11)])), (q 8, .inl (z.1, 66, .inl (aI fsz)))]) hx hb hml hown hg hE hA hS hP hD (k_A_indexOf l G z place (fsz place)) [] [0, 1, 2, 3, 4] rfl rfl (by decide) (by decide) (by decide) ml_A_40 st_A_indexOf in_A co_A_indexOf ok_A_indexOf ⟨Nat.le_of_ble_eq_true rfl, Nat.le_of_ble_eq_true rfl⟩ hl.1 rfl (Nat.le_of_ble_eq_true rfl) d_A_append_16 ⟨Nat.le_of_ble_eq_true rfl, Nat.le_of_ble_eq_true rfl⟩ (fun r9 u9 H locs hw hP hD hS => ?_)
    obtain ⟨rfl, rfl⟩ := hw
    have hP : va_P G cls0 [(q 9, .inl (z.1, 1584, .inl (aI frt))), (q 10, .inl (z.1, 1584, .inl (aI fnt))), (q 11, .inl (z.1, 1584, .inl (aI fco))), (q 2, .inr (0, [.ref (q 6), .ref (q 7), .ref (q 8), .ref (q 9), .ref (q 10), .ref (q 11)])), (q 8, .inl (z.1, 66, .inl (aI fsz)))] H := hP
    have hD : va_D A [(q 9, .inl (z.1, 1584, .inl (aI frt))), (q 10, .inl (z.1, 1584, .inl (aI fnt))), (q 11, .inl (z.1, 1584, .inl (aI fco))), (q 2, .inr (0, [.ref (q 6), .ref (q 7), .ref (q 8), .ref (q 9), .ref (q 10), .ref (q 11)])), (q 8, .inl (z.1, 66, .inl (aI fsz)))] := hD
    refine lv_istore (lv' := [(5, .int (iI (place * 24 + (fsz place)))), (0, .ref (q 2)), (1, .int (iI place)), (2, .int (iI router)), (3, .int (iI net)), (4, .int (iI cost))]) hx hb d_A_append_19 hl (by decide) rfl (fun ls hl => ?_)
    refine lv_aload_n hx hb d_A_append_21 rfl (lv_at hl 1 rfl) ?_
    refine va_get (D := G) (ci := 0) (v := .ref (q 9)) (C := R_A) (T := T_A) (N := 6) hx hb hg iw_A hown hE.1 hP 3 rfl rfl 3 (by decide) (hg _ fl_A_21) (fun _ h9 => h9) rfl d_A_append_22 ?_
    refine lv_iload hx hb d_A_append_25 (lv_at hl 0 rfl) ?_
    refine lv_iload_n hx hb d_A_append_27 rfl (lv_at hl 3 rfl) ?_
    refine rv_iast hx hb hE hP hD hS 0 rfl (i := place * 24 + (fsz place)) (x := router) (by (try have := rsz place); omega) (by (try have := rsz place); omega) (by decide) d_A_append_28 (fun H locs hP hD hS => ?_)
    have hP : va_P G cls0 [(q 9, .inl (z.1, 1584, .inl (aI (uZ frt (place * 24 + (fsz place)) router)))), (q 10, .inl (z.1, 1584, .inl (aI fnt))), (q 11, .inl (z.1, 1584, .inl (aI fco))), (q 2, .inr (0, [.ref (q 6), .ref (q 7), .ref (q 8), .ref (q 9), .ref (q 10), .ref (q 11)])), (q 8, .inl (z.1, 66, .inl (aI fsz)))] H := hP
    have hD : va_D A [(q 9, .inl (z.1, 1584, .inl (aI (uZ frt (place * 24 + (fsz place)) router)))), (q 10, .inl (z.1, 1584, .inl (aI fnt))), (q 11, .inl (z.1, 1584, .inl (aI fco))), (q 2, .inr (0, [.ref (q 6), .ref (q 7), .ref (q 8), .ref (q 9), .ref (q 10), .ref (q 11)])), (q 8, .inl (z.1, 66, .inl (aI fsz)))] := hD
    refine lv_aload_n hx hb d_A_append_29 rfl (lv_at hl 1 rfl) ?_
    refine va_get (D := G) (ci := 0) (v := .ref (q 10)) (C := R_A) (T := T_A) (N := 6) hx hb hg iw_A hown hE.1 hP 3 rfl rfl 4 (by decide) (hg _ fl_A_24) (fun _ h9 => h9) rfl d_A_append_30 ?_
    refine lv_iload hx hb d_A_append_33 (lv_at hl 0 rfl) ?_
    refine lv_iload_n hx hb d_A_append_35 rfl (lv_at hl 4 rfl) ?_
    refine rv_iast hx hb hE hP hD hS 1 rfl (i := place * 24 + (fsz place)) (x := net) (by (try have := rsz place); omega) (by (try have := rsz place); omega) (by decide) d_A_append_36 (fun H locs hP hD hS => ?_)
    have hP : va_P G cls0 [(q 9, .inl (z.1, 1584, .inl (aI (uZ frt (place * 24 + (fsz place)) router)))), (q 10, .inl (z.1, 1584, .inl (aI (uZ fnt (place * 24 + (fsz place)) net)))), (q 11, .inl (z.1, 1584, .inl (aI fco))), (q 2, .inr (0, [.ref (q 6), .ref (q 7), .ref (q 8), .ref (q 9), .ref (q 10), .ref (q 11)])), (q 8, .inl (z.1, 66, .inl (aI fsz)))] H := hP
    have hD : va_D A [(q 9, .inl (z.1, 1584, .inl (aI (uZ frt (place * 24 + (fsz place)) router)))), (q 10, .inl (z.1, 1584, .inl (aI (uZ fnt (place * 24 + (fsz place)) net)))), (q 11, .inl (z.1, 1584, .inl (aI fco))), (q 2, .inr (0, [.ref (q 6), .ref (q 7), .ref (q 8), .ref (q 9), .ref (q 10), .ref (q 11)])), (q 8, .inl (z.1, 66, .inl (aI fsz)))] := hD
    refine lv_aload_n hx hb d_A_append_37 rfl (lv_at hl 1 rfl) ?_
    refine va_get (D := G) (ci := 0) (v := .ref (q 11)) (C := R_A) (T := T_A) (N := 6) hx hb hg iw_A hown hE.1 hP 3 rfl rfl 5 (by decide) (hg _ fl_A_27) (fun _ h9 => h9) rfl d_A_append_38 ?_
    refine lv_iload hx hb d_A_append_41 (lv_at hl 0 rfl) ?_
    refine lv_iload hx hb d_A_append_43 (lv_at hl 5 rfl) ?_
    refine rv_iast hx hb hE hP hD hS 2 rfl (i := place * 24 + (fsz place)) (x := cost) (by (try have := rsz place); omega) (by (try have := rsz place); omega) (by decide) d_A_append_45 (fun H locs hP hD hS => ?_)
    have hP : va_P G cls0 [(q 9, .inl (z.1, 1584, .inl (aI (uZ frt (place * 24 + (fsz place)) router)))), (q 10, .inl (z.1, 1584, .inl (aI (uZ fnt (place * 24 + (fsz place)) net)))), (q 11, .inl (z.1, 1584, .inl (aI (uZ fco (place * 24 + (fsz place)) cost)))), (q 2, .inr (0, [.ref (q 6), .ref (q 7), .ref (q 8), .ref (q 9), .ref (q 10), .ref (q 11)])), (q 8, .inl (z.1, 66, .inl (aI fsz)))] H := hP
    have hD : va_D A [(q 9, .inl (z.1, 1584, .inl (aI (uZ frt (place * 24 + (fsz place)) router)))), (q 10, .inl (z.1, 1584, .inl (aI (uZ fnt (place * 24 + (fsz place)) net)))), (q 11, .inl (z.1, 1584, .inl (aI (uZ fco (place * 24 + (fsz place)) cost)))), (q 2, .inr (0, [.ref (q 6), .ref (q 7), .ref (q 8), .ref (q 9), .ref (q 10), .ref (q 11)])), (q 8, .inl (z.1, 66, .inl (aI fsz)))] := hD
    refine lv_aload_n hx hb d_A_append_46 rfl (lv_at hl 1 rfl) ?_
    refine va_get (D := G) (ci := 0) (v := .ref (q 8)) (C := R_A) (T := T_A) (N := 6) hx hb hg iw_A hown hE.1 hP 3 rfl rfl 2 (by decide) (hg _ fl_A_18) (fun _ h9 => h9) rfl d_A_append_47 ?_
    refine lv_iload_n hx hb d_A_append_50 rfl (lv_at hl 2 rfl) ?_
    refine lv_dup2_11 hx hb d_A_append_51 rfl rfl ?_
    refine rv_iald hx hb hE hP 4 rfl (i := place) (by omega) (by omega) (by decide) d_A_append_52 ?_
    refine lv_iconst (v := iI 1) hx hb d_A_append_53 rfl ?_
    refine rv_iadd hx hb d_A_append_54 ?_
    refine rv_iast hx hb hE hP hD hS 4 rfl (i := place) (x := (fsz place) + 1) (by omega) (by omega) (by decide) d_A_append_55 (fun H locs hP hD hS => ?_)
    have hP : va_P G cls0 [(q 9, .inl (z.1, 1584, .inl (aI (uZ frt (place * 24 + (fsz place)) router)))), (q 10, .inl (z.1, 1584, .inl (aI (uZ fnt (place * 24 + (fsz place)) net)))), (q 11, .inl (z.1, 1584, .inl (aI (uZ fco (place * 24 + (fsz place)) cost)))), (q 2, .inr (0, [.ref (q 6), .ref (q 7), .ref (q 8), .ref (q 9), .ref (q 10), .ref (q 11)])), (q 8, .inl (z.1, 66, .inl (aI (uZ fsz place ((fsz place) + 1)))))] H := hP
    have hD : va_D A [(q 9, .inl (z.1, 1584, .inl (aI (uZ frt (place * 24 + (fsz place)) router)))), (q 10, .inl (z.1, 1584, .inl (aI (uZ fnt (place * 24 + (fsz place)) net)))), (q 11, .inl (z.1, 1584, .inl (aI (uZ fco (place * 24 + (fsz place)) cost)))), (q 2, .inr (0, [.ref (q 6), .ref (q 7), .ref (q 8), .ref (q 9), .ref (q 10), .ref (q 11)])), (q 8, .inl (z.1, 66, .inl (aI (uZ fsz place ((fsz place) + 1)))))] := hD
    have hP9 : va_P G cls0 [(q 2, .inr (0, [.ref (q 6), .ref (q 7), .ref (q 8), .ref (q 9), .ref (q 10), .ref (q 11)])), (q 8, .inl (z.1, 66, .inl (aI (uZ fsz place ((fsz place) + 1))))), (q 9, .inl (z.1, 1584, .inl (aI (uZ frt (place * 24 + (fsz place)) router)))), (q 10, .inl (z.1, 1584, .inl (aI (uZ fnt (place * 24 + (fsz place)) net)))), (q 11, .inl (z.1, 1584, .inl (aI (uZ fco (place * 24 + (fsz place)) cost))))] H := hP.sub [3, 4, 0, 1, 2] rfl
    have hD9 : va_D A [(q 2, .inr (0, [.ref (q 6), .ref (q 7), .ref (q 8), .ref (q 9), .ref (q 10), .ref (q 11)])), (q 8, .inl (z.1, 66, .inl (aI (uZ fsz place ((fsz place) + 1))))), (q 9, .inl (z.1, 1584, .inl (aI (uZ frt (place * 24 + (fsz place)) router)))), (q 10, .inl (z.1, 1584, .inl (aI (uZ fnt (place * 24 + (fsz place)) net)))), (q 11, .inl (z.1, 1584, .inl (aI (uZ fco (place * 24 + (fsz place)) cost))))] := hD.sub [3, 4, 0, 1, 2] (by decide) rfl
    refine rv_vret hx hb hRt hlocks (Nat.le_of_ble_eq_true rfl) (Nat.le_of_ble_eq_true rfl) hP9 hD9 hS d_A_append_56 ?_
    exact rfl
  · exact absurd c_3 (by omega)
set_option maxHeartbeats 4000000 in
set_option maxRecDepth 100000 in
theorem k_A_costOf (l : Launch) (G : va_G) (z : tz3) (q : Nat → Nat) (fsz : Int → Int) (frt : Int → Int) (fnt : Int → Int) (fco : Int → Int) (place : Int) (router : Int) (net : Int) (hpl : 0 ≤ place ∧ place < 66) (rsz : ∀ i : Int, 0 ≤ fsz i ∧ fsz i ≤ 24) (rrt : ∀ i : Int, -1 ≤ frt i ∧ frt i ≤ 63) (rnt : ∀ i : Int, 0 ≤ fnt i ∧ fnt i ≤ 63) (rco : ∀ i : Int, 0 ≤ fco i ∧ fco i ≤ 1000) (hr0 : inR router) (hn0 : inR net) : Ki l y_A_costOf c_A_costOf 6 (some .int) (rmD 1) G z [.ref (q 2), .int (iI place), .int (iI router), .int (iI net)] [(q 2, .inr (0, [.ref (q 6), .ref (q 7), .ref (q 8), .ref (q 9), .ref (q 10), .ref (q 11)])), (q 8, .inl (z.1, 66, .inl (aI fsz))), (q 9, .inl (z.1, 1584, .inl (aI frt))), (q 10, .inl (z.1, 1584, .inl (aI fnt))), (q 11, .inl (z.1, 1584, .inl (aI fco)))] (fun r9 u9 => ∃ (rv : Int), u9 = [(q 2, .inr (0, [.ref (q 6), .ref (q 7), .ref (q 8), .ref (q 9), .ref (q 10), .ref (q 11)])), (q 8, .inl (z.1, 66, .inl (aI fsz))), (q 9, .inl (z.1, 1584, .inl (aI frt))), (q 10, .inl (z.1, 1584, .inl (aI fnt))), (q 11, .inl (z.1, 1584, .inl (aI fco)))] ∧ r9 = iI rv ∧ ((rv = -1 ∧ ∀ k : Int, 0 ≤ k → k < fsz place → ¬ (frt (place * 24 + k) = router ∧ fnt (place * 24 + k) = net)) ∨ (∃ k : Int, 0 ≤ k ∧ k < fsz place ∧ frt (place * 24 + k) = router ∧ fnt (place * 24 + k) = net ∧ rv = fco (place * 24 + k)))) := by
  refine Ki.of (by decide) (Nat.le_of_ble_eq_true rfl) ?_
  intro p e s m below meth c A hB hP hD ls hl
  obtain ⟨hx, hb, hRt, hml, hown, hlocks, hg, hE, hA, hin⟩ := hB
  have hown : s.vm.findClass R_A = some m.cls := hown
  have hl : lv_has ls 6 [(0, .ref (q 2)), (1, .int (iI place)), (2, .int (iI router)), (3, .int (iI net))] := hl
  obtain ⟨H, hH⟩ : ∃ H, H = s.heap := ⟨_, rfl⟩
  have hS : va_S A s.heap H [] := by rw [hH]; exact va_S.rf
  rw [← hH] at hP
  rw [← hH]
  have hP : va_P G cls0 [(q 2, .inr (0, [.ref (q 6), .ref (q 7), .ref (q 8), .ref (q 9), .ref (q 10), .ref (q 11)])), (q 8, .inl (z.1, 66, .inl (aI fsz))), (q 9, .inl (z.1, 1584, .inl (aI frt))), (q 10, .inl (z.1, 1584, .inl (aI fnt))), (q 11, .inl (z.1, 1584, .inl (aI fco)))] H := hP
  have hD : va_D A [(q 2, .inr (0, [.ref (q 6), .ref (q 7), .ref (q 8), .ref (q 9), .ref (q 10), .ref (q 11)])), (q 8, .inl (z.1, 66, .inl (aI fsz))), (q 9, .inl (z.1, 1584, .inl (aI frt))), (q 10, .inl (z.1, 1584, .inl (aI fnt))), (q 11, .inl (z.1, 1584, .inl (aI fco)))] := hD
  refine lv_iload_n hx hb d_A_costOf_0 rfl (lv_at hl 1 rfl) ?_
  refine lv_aload_n hx hb d_A_costOf_1 rfl (lv_at hl 0 rfl) ?_
  refine va_get (D := G) (ci := 0) (v := .ref (q 8)) (C := R_A) (T := T_A) (N := 6) hx hb hg iw_A hown hE.1 hP 0 rfl rfl 2 (by decide) (hg _ fl_A_18) (fun _ h9 => h9) rfl d_A_costOf_2 ?_
  refine lv_iload_n hx hb d_A_costOf_5 rfl (lv_at hl 1 rfl) ?_
  refine rv_iald hx hb hE hP 1 rfl (i := place) (by omega) (by omega) (by decide) d_A_costOf_6 ?_
  refine qS_i (As := [.int (iI place), .int (iI (fsz place))]) (rest := []) (wr := [(q 2, .inr (0, [.ref (q 6), .ref (q 7), .ref (q 8), .ref (q 9), .ref (q 10), .ref (q 11)])), (q 8, .inl (z.1, 66, .inl (aI fsz))), (q 9, .inl (z.1, 1584, .inl (aI frt))), (q 10, .inl (z.1, 1584, .inl (aI fnt))), (q 11, .inl (z.1, 1584, .inl (aI fco)))]) hx hb hml hown hg hE hA hS hP hD (k_A_indexOf l G z place (fsz place)) [] [0, 1, 2, 3, 4] rfl rfl (by decide) (by decide) (by decide) ml_A_40 st_A_indexOf in_A co_A_indexOf ok_A_indexOf ⟨Nat.le_of_ble_eq_true rfl, Nat.le_of_ble_eq_true rfl⟩ hl.1 rfl (Nat.le_of_ble_eq_true rfl) d_A_costOf_7 ⟨Nat.le_of_ble_eq_true rfl, Nat.le_of_ble_eq_true rfl⟩ (fun r9 u9 H locs hw hP hD hS => ?_)
  obtain ⟨rfl, rfl⟩ := hw
  have hP : va_P G cls0 [(q 2, .inr (0, [.ref (q 6), .ref (q 7), .ref (q 8), .ref (q 9), .ref (q 10), .ref (q 11)])), (q 8, .inl (z.1, 66, .inl (aI fsz))), (q 9, .inl (z.1, 1584, .inl (aI frt))), (q 10, .inl (z.1, 1584, .inl (aI fnt))), (q 11, .inl (z.1, 1584, .inl (aI fco)))] H := hP
  have hD : va_D A [(q 2, .inr (0, [.ref (q 6), .ref (q 7), .ref (q 8), .ref (q 9), .ref (q 10), .ref (q 11)])), (q 8, .inl (z.1, 66, .inl (aI fsz))), (q 9, .inl (z.1, 1584, .inl (aI frt))), (q 10, .inl (z.1, 1584, .inl (aI fnt))), (q 11, .inl (z.1, 1584, .inl (aI fco)))] := hD
  refine lv_istore (lv' := [(4, .int (iI (place * 24 + (fsz place)))), (0, .ref (q 2)), (1, .int (iI place)), (2, .int (iI router)), (3, .int (iI net))]) hx hb d_A_costOf_10 hl (by decide) rfl (fun ls hl => ?_)
  refine lv_iload_n hx hb d_A_costOf_12 rfl (lv_at hl 2 rfl) ?_
  refine lv_iconst (v := iI 0) hx hb d_A_costOf_13 rfl ?_
  refine qS_i (As := [.int (iI place), .int (iI 0)]) (rest := []) (wr := [(q 2, .inr (0, [.ref (q 6), .ref (q 7), .ref (q 8), .ref (q 9), .ref (q 10), .ref (q 11)])), (q 8, .inl (z.1, 66, .inl (aI fsz))), (q 9, .inl (z.1, 1584, .inl (aI frt))), (q 10, .inl (z.1, 1584, .inl (aI fnt))), (q 11, .inl (z.1, 1584, .inl (aI fco)))]) hx hb hml hown hg hE hA hS hP hD (k_A_indexOf l G z place 0) [] [0, 1, 2, 3, 4] rfl rfl (by decide) (by decide) (by decide) ml_A_40 st_A_indexOf in_A co_A_indexOf ok_A_indexOf ⟨Nat.le_of_ble_eq_true rfl, Nat.le_of_ble_eq_true rfl⟩ hl.1 rfl (Nat.le_of_ble_eq_true rfl) d_A_costOf_14 ⟨Nat.le_of_ble_eq_true rfl, Nat.le_of_ble_eq_true rfl⟩ (fun r9 u9 H locs hw hP hD hS => ?_)
  obtain ⟨rfl, rfl⟩ := hw
  have hP : va_P G cls0 [(q 2, .inr (0, [.ref (q 6), .ref (q 7), .ref (q 8), .ref (q 9), .ref (q 10), .ref (q 11)])), (q 8, .inl (z.1, 66, .inl (aI fsz))), (q 9, .inl (z.1, 1584, .inl (aI frt))), (q 10, .inl (z.1, 1584, .inl (aI fnt))), (q 11, .inl (z.1, 1584, .inl (aI fco)))] H := hP
  have hD : va_D A [(q 2, .inr (0, [.ref (q 6), .ref (q 7), .ref (q 8), .ref (q 9), .ref (q 10), .ref (q 11)])), (q 8, .inl (z.1, 66, .inl (aI fsz))), (q 9, .inl (z.1, 1584, .inl (aI frt))), (q 10, .inl (z.1, 1584, .inl (aI fnt))), (q 11, .inl (z.1, 1584, .inl (aI fco)))] := hD
  refine lv_istore (lv' := [(5, .int (iI (place * 24 + 0))), (4, .int (iI (place * 24 + (fsz place)))), (0, .ref (q 2)), (1, .int (iI place)), (2, .int (iI router)), (3, .int (iI net))]) hx hb d_A_costOf_17 hl (by decide) rfl (fun ls hl => ?_)
  have L19 : ∀ n9 : Nat, ∀ (ix : Int), (place * 24 + fsz place - ix : Int).toNat < n9 → (place * 24 ≤ ix ∧ ix ≤ place * 24 + fsz place) → (∀ k : Int, 0 ≤ k → place * 24 + k < ix → ¬ (frt (place * 24 + k) = router ∧ fnt (place * 24 + k) = net)) → ∀ (H : Heap) (locs : List Loc), va_P G cls0 [(q 2, .inr (0, [.ref (q 6), .ref (q 7), .ref (q 8), .ref (q 9), .ref (q 10), .ref (q 11)])), (q 8, .inl (z.1, 66, .inl (aI fsz))), (q 9, .inl (z.1, 1584, .inl (aI frt))), (q 10, .inl (z.1, 1584, .inl (aI fnt))), (q 11, .inl (z.1, 1584, .inl (aI fco)))] H → va_D A [(q 2, .inr (0, [.ref (q 6), .ref (q 7), .ref (q 8), .ref (q 9), .ref (q 10), .ref (q 11)])), (q 8, .inl (z.1, 66, .inl (aI fsz))), (q 9, .inl (z.1, 1584, .inl (aI frt))), (q 10, .inl (z.1, 1584, .inl (aI fnt))), (q 11, .inl (z.1, 1584, .inl (aI fco)))] → va_S A s.heap H locs → ∀ ls : Array Slot, lv_has ls 6 [(0, .ref (q 2)), (1, .int (iI place)), (2, .int (iI router)), (3, .int (iI net)), (4, .int (iI (place * 24 + fsz place))), (5, .int (iI ix))] → W p l e (rmD 1) s m [.ref (q 2), .int (iI place), .int (iI router), .int (iI net)].toArray below meth c H locs 0 0 (Zi below [.ref (q 2), .int (iI place), .int (iI router), .int (iI net)].toArray s (rmD 1) G A (fun r9 u9 => ∃ (rv : Int), u9 = [(q 2, .inr (0, [.ref (q 6), .ref (q 7), .ref (q 8), .ref (q 9), .ref (q 10), .ref (q 11)])), (q 8, .inl (z.1, 66, .inl (aI fsz))), (q 9, .inl (z.1, 1584, .inl (aI frt))), (q 10, .inl (z.1, 1584, .inl (aI fnt))), (q 11, .inl (z.1, 1584, .inl (aI fco)))] ∧ r9 = iI rv ∧ ((rv = -1 ∧ ∀ k : Int, 0 ≤ k → k < fsz place → ¬ (frt (place * 24 + k) = router ∧ fnt (place * 24 + k) = net)) ∨ (∃ k : Int, 0 ≤ k ∧ k < fsz place ∧ frt (place * 24 + k) = router ∧ fnt (place * 24 + k) = net ∧ rv = fco (place * 24 + k))))) (F0 m 19 ls []) := by
    intro n9
    induction n9 with
    | zero => intro ix hmu; exact absurd hmu (Nat.not_lt_zero _)
    | succ n9 ih19 =>
      intro ix hmu h1 hno H locs hP hD hS ls hl
      refine lv_iload hx hb d_A_costOf_19 (lv_at hl 5 rfl) ?_
      refine lv_iload hx hb d_A_costOf_21 (lv_at hl 4 rfl) ?_
      refine rv_icmp_ge (tgt := 62) hx hb d_A_costOf_23 (by decide) (by (try have := rsz place); constructor <;> omega) (by (try have := rsz place); (try have := rsz place); constructor <;> omega) (fun c_1 => ?_) (fun c_1 => ?_)
      · skip
        refine lv_iconst (v := iI (-1)) hx hb d_A_costOf_62 rfl ?_
        have hP9 : va_P G cls0 [(q 2, .inr (0, [.ref (q 6), .ref (q 7), .ref (q 8), .ref (q 9), .ref (q 10), .ref (q 11)])), (q 8, .inl (z.1, 66, .inl (aI fsz))), (q 9, .inl (z.1, 1584, .inl (aI frt))), (q 10, .inl (z.1, 1584, .inl (aI fnt))), (q 11, .inl (z.1, 1584, .inl (aI fco)))] H := hP.sub [0, 1, 2, 3, 4] rfl
        have hD9 : va_D A [(q 2, .inr (0, [.ref (q 6), .ref (q 7), .ref (q 8), .ref (q 9), .ref (q 10), .ref (q 11)])), (q 8, .inl (z.1, 66, .inl (aI fsz))), (q 9, .inl (z.1, 1584, .inl (aI frt))), (q 10, .inl (z.1, 1584, .inl (aI fnt))), (q 11, .inl (z.1, 1584, .inl (aI fco)))] := hD.sub [0, 1, 2, 3, 4] (by decide) rfl
        refine rv_iret hx hb hRt (nar_int _) hlocks (Nat.le_of_ble_eq_true rfl) (Nat.le_of_ble_eq_true rfl) hP9 hD9 hS d_A_costOf_63 ?_
        exact ⟨((-1)), rfl, rfl, (Or.inl ⟨rfl, fun k h0 h1 => hno k h0 (by omega)⟩)⟩
      · skip
        refine lv_aload_n hx hb d_A_costOf_26 rfl (lv_at hl 0 rfl) ?_
        refine va_get (D := G) (ci := 0) (v := .ref (q 9)) (C := R_A) (T := T_A) (N := 6) hx hb hg iw_A hown hE.1 hP 0 rfl rfl 3 (by decide) (hg _ fl_A_21) (fun _ h9 => h9) rfl d_A_costOf_27 ?_
        refine lv_iload hx hb d_A_costOf_30 (lv_at hl 5 rfl) ?_
        refine rv_iald hx hb hE hP 2 rfl (i := ix) (by (try have := rsz place); omega) (by (try have := rsz place); omega) (by decide) d_A_costOf_32 ?_
        refine lv_iload_n hx hb d_A_costOf_33 rfl (lv_at hl 2 rfl) ?_
        refine rv_icmp_ne (tgt := 56) hx hb d_A_costOf_34 (by decide) (by (try have := rrt ix); constructor <;> omega) (by constructor <;> omega) (fun c_2 => ?_) (fun c_2 => ?_)
        · skip
          have mno : ¬ (frt ix = router ∧ fnt ix = net) := fun q => c_2 q.1
          refine lv_iinc (v := iI (ix + 1)) (lv' := [(5, .int (iI (ix + 1))), (0, .ref (q 2)), (1, .int (iI place)), (2, .int (iI router)), (3, .int (iI net)), (4, .int (iI (place * 24 + fsz place)))]) hx hb d_A_costOf_56 hl (k := 5) rfl (iI_add _ _) (by decide) rfl (fun ls hl => ?_)
          refine lv_goto (tgt := 19) hx hb d_A_costOf_59 (by decide) ?_
          exact ih19 (ix + 1) (by (try have := rsz place); omega) (by (try have := rsz place); omega) (fun k h0 h1 => if e : place * 24 + k = ix then (by rw [e]; exact mno) else hno k h0 (by omega)) H _ (hP.sub [0, 1, 2, 3, 4] rfl) (hD.sub [0, 1, 2, 3, 4] (by decide) rfl) hS ls (lv_sub hl [1, 2, 3, 4, 5, 0] rfl)
        · skip
          have m1 := c_2
          refine lv_aload_n hx hb d_A_costOf_37 rfl (lv_at hl 0 rfl) ?_
          refine va_get (D := G) (ci := 0) (v := .ref (q 10)) (C := R_A) (T := T_A) (N := 6) hx hb hg iw_A hown hE.1 hP 0 rfl rfl 4 (by decide) (hg _ fl_A_24) (fun _ h9 => h9) rfl d_A_costOf_38 ?_
          refine lv_iload hx hb d_A_costOf_41 (lv_at hl 5 rfl) ?_
          refine rv_iald hx hb hE hP 3 rfl (i := ix) (by (try have := rsz place); omega) (by (try have := rsz place); omega) (by decide) d_A_costOf_43 ?_
          refine lv_iload_n hx hb d_A_costOf_44 rfl (lv_at hl 3 rfl) ?_
          refine rv_icmp_ne (tgt := 56) hx hb d_A_costOf_45 (by decide) (by (try have := rnt ix); constructor <;> omega) (by constructor <;> omega) (fun c_3 => ?_) (fun c_3 => ?_)
          · skip
            have mno : ¬ (frt ix = router ∧ fnt ix = net) := fun q => c_3 q.2
            refine lv_iinc (v := iI (ix + 1)) (lv' := [(5, .int (iI (ix + 1))), (0, .ref (q 2)), (1, .int (iI place)), (2, .int (iI router)), (3, .int (iI net)), (4, .int (iI (place * 24 + fsz place)))]) hx hb d_A_costOf_56 hl (k := 5) rfl (iI_add _ _) (by decide) rfl (fun ls hl => ?_)
            refine lv_goto (tgt := 19) hx hb d_A_costOf_59 (by decide) ?_
            exact ih19 (ix + 1) (by (try have := rsz place); omega) (by (try have := rsz place); omega) (fun k h0 h1 => if e : place * 24 + k = ix then (by rw [e]; exact mno) else hno k h0 (by omega)) H _ (hP.sub [0, 1, 2, 3, 4] rfl) (hD.sub [0, 1, 2, 3, 4] (by decide) rfl) hS ls (lv_sub hl [1, 2, 3, 4, 5, 0] rfl)
          · skip
            have m2 := c_3
            refine lv_aload_n hx hb d_A_costOf_48 rfl (lv_at hl 0 rfl) ?_
            refine va_get (D := G) (ci := 0) (v := .ref (q 11)) (C := R_A) (T := T_A) (N := 6) hx hb hg iw_A hown hE.1 hP 0 rfl rfl 5 (by decide) (hg _ fl_A_27) (fun _ h9 => h9) rfl d_A_costOf_49 ?_
            refine lv_iload hx hb d_A_costOf_52 (lv_at hl 5 rfl) ?_
            refine rv_iald hx hb hE hP 4 rfl (i := ix) (by (try have := rsz place); omega) (by (try have := rsz place); omega) (by decide) d_A_costOf_54 ?_
            have hP9 : va_P G cls0 [(q 2, .inr (0, [.ref (q 6), .ref (q 7), .ref (q 8), .ref (q 9), .ref (q 10), .ref (q 11)])), (q 8, .inl (z.1, 66, .inl (aI fsz))), (q 9, .inl (z.1, 1584, .inl (aI frt))), (q 10, .inl (z.1, 1584, .inl (aI fnt))), (q 11, .inl (z.1, 1584, .inl (aI fco)))] H := hP.sub [0, 1, 2, 3, 4] rfl
            have hD9 : va_D A [(q 2, .inr (0, [.ref (q 6), .ref (q 7), .ref (q 8), .ref (q 9), .ref (q 10), .ref (q 11)])), (q 8, .inl (z.1, 66, .inl (aI fsz))), (q 9, .inl (z.1, 1584, .inl (aI frt))), (q 10, .inl (z.1, 1584, .inl (aI fnt))), (q 11, .inl (z.1, 1584, .inl (aI fco)))] := hD.sub [0, 1, 2, 3, 4] (by decide) rfl
            refine rv_iret hx hb hRt (nar_int _) hlocks (Nat.le_of_ble_eq_true rfl) (Nat.le_of_ble_eq_true rfl) hP9 hD9 hS d_A_costOf_55 ?_
            exact ⟨(fco ix), rfl, rfl, (Or.inr ⟨ix - place * 24, by omega, by omega, by rw [show place * 24 + (ix - place * 24) = ix by omega]; exact m1, by rw [show place * 24 + (ix - place * 24) = ix by omega]; exact m2, by rw [show place * 24 + (ix - place * 24) = ix by omega]⟩)⟩
  exact L19 ((place * 24 + fsz place - (place * 24 + 0) : Int).toNat + 1) (place * 24 + 0) (Nat.lt_succ_self _) (by (try have := rsz place); (try have := rsz place); omega) (fun k h0 h1 => absurd h1 (by omega)) H _ (hP.sub [0, 1, 2, 3, 4] rfl) (hD.sub [0, 1, 2, 3, 4] (by decide) rfl) hS ls (lv_sub hl [2, 3, 4, 5, 1, 0] rfl)
set_option maxHeartbeats 4000000 in
set_option maxRecDepth 100000 in
theorem k_A_has (l : Launch) (G : va_G) (z : tz3) (q : Nat → Nat) (fsz : Int → Int) (frt : Int → Int) (fnt : Int → Int) (fco : Int → Int) (place : Int) (router : Int) (net : Int) (hpl : 0 ≤ place ∧ place < 66) (rsz : ∀ i : Int, 0 ≤ fsz i ∧ fsz i ≤ 24) (rrt : ∀ i : Int, -1 ≤ frt i ∧ frt i ≤ 63) (rnt : ∀ i : Int, 0 ≤ fnt i ∧ fnt i ≤ 63) (rco : ∀ i : Int, 0 ≤ fco i ∧ fco i ≤ 1000) (hr0 : inR router) (hn0 : inR net) (hc1 : ∀ k : Int, 0 ≤ k → k < fsz place → 1 ≤ fco (place * 24 + k)) : Ki l y_A_has c_A_has 4 (some .boolean) (rmD 2) G z [.ref (q 2), .int (iI place), .int (iI router), .int (iI net)] [(q 2, .inr (0, [.ref (q 6), .ref (q 7), .ref (q 8), .ref (q 9), .ref (q 10), .ref (q 11)])), (q 8, .inl (z.1, 66, .inl (aI fsz))), (q 9, .inl (z.1, 1584, .inl (aI frt))), (q 10, .inl (z.1, 1584, .inl (aI fnt))), (q 11, .inl (z.1, 1584, .inl (aI fco)))] (fun r9 u9 => ∃ (rb : Int), u9 = [(q 2, .inr (0, [.ref (q 6), .ref (q 7), .ref (q 8), .ref (q 9), .ref (q 10), .ref (q 11)])), (q 8, .inl (z.1, 66, .inl (aI fsz))), (q 9, .inl (z.1, 1584, .inl (aI frt))), (q 10, .inl (z.1, 1584, .inl (aI fnt))), (q 11, .inl (z.1, 1584, .inl (aI fco)))] ∧ r9 = iI rb ∧ ((rb = 1 ∧ (∃ k : Int, 0 ≤ k ∧ k < fsz place ∧ frt (place * 24 + k) = router ∧ fnt (place * 24 + k) = net)) ∨ (rb = 0 ∧ ¬ (∃ k : Int, 0 ≤ k ∧ k < fsz place ∧ frt (place * 24 + k) = router ∧ fnt (place * 24 + k) = net)))) := by
  refine Ki.of (by decide) (Nat.le_of_ble_eq_true rfl) ?_
  intro p e s m below meth c A hB hP hD ls hl
  obtain ⟨hx, hb, hRt, hml, hown, hlocks, hg, hE, hA, hin⟩ := hB
  have hown : s.vm.findClass R_A = some m.cls := hown
  have hl : lv_has ls 4 [(0, .ref (q 2)), (1, .int (iI place)), (2, .int (iI router)), (3, .int (iI net))] := hl
  obtain ⟨H, hH⟩ : ∃ H, H = s.heap := ⟨_, rfl⟩
  have hS : va_S A s.heap H [] := by rw [hH]; exact va_S.rf
  rw [← hH] at hP
  rw [← hH]
  have hP : va_P G cls0 [(q 2, .inr (0, [.ref (q 6), .ref (q 7), .ref (q 8), .ref (q 9), .ref (q 10), .ref (q 11)])), (q 8, .inl (z.1, 66, .inl (aI fsz))), (q 9, .inl (z.1, 1584, .inl (aI frt))), (q 10, .inl (z.1, 1584, .inl (aI fnt))), (q 11, .inl (z.1, 1584, .inl (aI fco)))] H := hP
  have hD : va_D A [(q 2, .inr (0, [.ref (q 6), .ref (q 7), .ref (q 8), .ref (q 9), .ref (q 10), .ref (q 11)])), (q 8, .inl (z.1, 66, .inl (aI fsz))), (q 9, .inl (z.1, 1584, .inl (aI frt))), (q 10, .inl (z.1, 1584, .inl (aI fnt))), (q 11, .inl (z.1, 1584, .inl (aI fco)))] := hD
  refine lv_aload_n hx hb d_A_has_0 rfl (lv_at hl 0 rfl) ?_
  refine lv_iload_n hx hb d_A_has_1 rfl (lv_at hl 1 rfl) ?_
  refine lv_iload_n hx hb d_A_has_2 rfl (lv_at hl 2 rfl) ?_
  refine lv_iload_n hx hb d_A_has_3 rfl (lv_at hl 3 rfl) ?_
  refine qV_i (As := [.int (iI place), .int (iI router), .int (iI net)]) (rest := []) (wr := []) hx hb hml hown hg hE hA hS hP hD (k_A_costOf l G z q fsz frt fnt fco place router net (by omega) (by assumption) (by assumption) (by assumption) (by assumption) (by omega) (by omega)) [0, 1, 2, 3, 4] [] rfl rfl (by decide) (by decide) (by decide) (q0 := 0) rfl rfl ml_A_44 im_A_costOf se_A_costOf in_A co_A_costOf ok_A_costOf ⟨Nat.le_of_ble_eq_true rfl, Nat.le_of_ble_eq_true rfl⟩ hl.1 rfl (Nat.le_of_ble_eq_true rfl) d_A_has_4 ⟨Nat.le_of_ble_eq_true rfl, Nat.le_of_ble_eq_true rfl⟩ (fun r9 u9 H locs hw hP hD hS => ?_)
  obtain ⟨rv, rfl, rfl, fbc⟩ := hw
  have hP : va_P G cls0 [(q 2, .inr (0, [.ref (q 6), .ref (q 7), .ref (q 8), .ref (q 9), .ref (q 10), .ref (q 11)])), (q 8, .inl (z.1, 66, .inl (aI fsz))), (q 9, .inl (z.1, 1584, .inl (aI frt))), (q 10, .inl (z.1, 1584, .inl (aI fnt))), (q 11, .inl (z.1, 1584, .inl (aI fco)))] H := hP
  have hD : va_D A [(q 2, .inr (0, [.ref (q 6), .ref (q 7), .ref (q 8), .ref (q 9), .ref (q 10), .ref (q 11)])), (q 8, .inl (z.1, 66, .inl (aI fsz))), (q 9, .inl (z.1, 1584, .inl (aI frt))), (q 10, .inl (z.1, 1584, .inl (aI fnt))), (q 11, .inl (z.1, 1584, .inl (aI fco)))] := hD
  have hrv : inR rv := by
    rcases fbc with ⟨h, -⟩ | ⟨k, -, -, -, -, h⟩
    · rw [h]; exact ⟨by decide, by decide⟩
    · rw [h]; have := rco (place * 24 + k); constructor <;> omega
  refine lv_iconst (v := iI (-1)) hx hb d_A_has_7 rfl ?_
  refine rv_icmp_eq (tgt := 15) hx hb d_A_has_8 (by decide) (by constructor <;> omega) ⟨by decide, by decide⟩ (fun c_1 => ?_) (fun c_1 => ?_)
  · skip
    refine lv_iconst (v := iI 0) hx hb d_A_has_15 rfl ?_
    have hP9 : va_P G cls0 [(q 2, .inr (0, [.ref (q 6), .ref (q 7), .ref (q 8), .ref (q 9), .ref (q 10), .ref (q 11)])), (q 8, .inl (z.1, 66, .inl (aI fsz))), (q 9, .inl (z.1, 1584, .inl (aI frt))), (q 10, .inl (z.1, 1584, .inl (aI fnt))), (q 11, .inl (z.1, 1584, .inl (aI fco)))] H := hP.sub [0, 1, 2, 3, 4] rfl
    have hD9 : va_D A [(q 2, .inr (0, [.ref (q 6), .ref (q 7), .ref (q 8), .ref (q 9), .ref (q 10), .ref (q 11)])), (q 8, .inl (z.1, 66, .inl (aI fsz))), (q 9, .inl (z.1, 1584, .inl (aI frt))), (q 10, .inl (z.1, 1584, .inl (aI fnt))), (q 11, .inl (z.1, 1584, .inl (aI fco)))] := hD.sub [0, 1, 2, 3, 4] (by decide) rfl
    refine rv_iret hx hb hRt nar_b0 hlocks (Nat.le_of_ble_eq_true rfl) (Nat.le_of_ble_eq_true rfl) hP9 hD9 hS d_A_has_16 ?_
    rcases fbc with ⟨h, hn⟩ | ⟨k, k0, k1, k2, k3, h⟩
    · first | exact absurd h (by assumption) | exact ⟨0, rfl, rfl, Or.inr ⟨rfl, fun ⟨k, k0, k1, k2⟩ => hn k k0 k1 k2⟩⟩
    · have h2 := hc1 k k0 k1
      first | exact ⟨1, rfl, rfl, Or.inl ⟨rfl, k, k0, k1, k2, k3⟩⟩ | exact absurd h (by omega)
  · skip
    refine lv_iconst (v := iI 1) hx hb d_A_has_11 rfl ?_
    refine lv_goto (tgt := 16) hx hb d_A_has_12 (by decide) ?_
    have hP9 : va_P G cls0 [(q 2, .inr (0, [.ref (q 6), .ref (q 7), .ref (q 8), .ref (q 9), .ref (q 10), .ref (q 11)])), (q 8, .inl (z.1, 66, .inl (aI fsz))), (q 9, .inl (z.1, 1584, .inl (aI frt))), (q 10, .inl (z.1, 1584, .inl (aI fnt))), (q 11, .inl (z.1, 1584, .inl (aI fco)))] H := hP.sub [0, 1, 2, 3, 4] rfl
    have hD9 : va_D A [(q 2, .inr (0, [.ref (q 6), .ref (q 7), .ref (q 8), .ref (q 9), .ref (q 10), .ref (q 11)])), (q 8, .inl (z.1, 66, .inl (aI fsz))), (q 9, .inl (z.1, 1584, .inl (aI frt))), (q 10, .inl (z.1, 1584, .inl (aI fnt))), (q 11, .inl (z.1, 1584, .inl (aI fco)))] := hD.sub [0, 1, 2, 3, 4] (by decide) rfl
    refine rv_iret hx hb hRt nar_b1 hlocks (Nat.le_of_ble_eq_true rfl) (Nat.le_of_ble_eq_true rfl) hP9 hD9 hS d_A_has_16 ?_
    rcases fbc with ⟨h, hn⟩ | ⟨k, k0, k1, k2, k3, h⟩
    · first | exact absurd h (by assumption) | exact ⟨0, rfl, rfl, Or.inr ⟨rfl, fun ⟨k, k0, k1, k2⟩ => hn k k0 k1 k2⟩⟩
    · have h2 := hc1 k k0 k1
      first | exact ⟨1, rfl, rfl, Or.inl ⟨rfl, k, k0, k1, k2, k3⟩⟩ | exact absurd h (by omega)
set_option maxHeartbeats 4000000 in
set_option maxRecDepth 100000 in
theorem k_A_isSameEntry (l : Launch) (G : va_G) (z : tz3) (q : Nat → Nat) (frt : Int → Int) (fnt : Int → Int) (fco : Int → Int) (a : Int) (b : Int) (rrt : ∀ i : Int, -1 ≤ frt i ∧ frt i ≤ 63) (rnt : ∀ i : Int, 0 ≤ fnt i ∧ fnt i ≤ 63) (rco : ∀ i : Int, 0 ≤ fco i ∧ fco i ≤ 1000) (h0 : 0 ≤ a ∧ a < 1584) (h1 : 0 ≤ b ∧ b < 1584) : Ki l y_A_isSameEntry c_A_isSameEntry 3 (some .boolean) (rmD 0) G z [.ref (q 2), .int (iI a), .int (iI b)] [(q 2, .inr (0, [.ref (q 6), .ref (q 7), .ref (q 8), .ref (q 9), .ref (q 10), .ref (q 11)])), (q 9, .inl (z.1, 1584, .inl (aI frt))), (q 10, .inl (z.1, 1584, .inl (aI fnt))), (q 11, .inl (z.1, 1584, .inl (aI fco)))] (fun r9 u9 => ∃ (rb : Int), u9 = [(q 2, .inr (0, [.ref (q 6), .ref (q 7), .ref (q 8), .ref (q 9), .ref (q 10), .ref (q 11)])), (q 9, .inl (z.1, 1584, .inl (aI frt))), (q 10, .inl (z.1, 1584, .inl (aI fnt))), (q 11, .inl (z.1, 1584, .inl (aI fco)))] ∧ r9 = iI rb ∧ ((rb = 1 ∧ (frt a = frt b ∧ fnt a = fnt b ∧ fco a = fco b)) ∨ (rb = 0 ∧ ¬ (frt a = frt b ∧ fnt a = fnt b ∧ fco a = fco b)))) := by
  refine Ki.of (by decide) (Nat.le_of_ble_eq_true rfl) ?_
  intro p e s m below meth c A hB hP hD ls hl
  obtain ⟨hx, hb, hRt, hml, hown, hlocks, hg, hE, hA, hin⟩ := hB
  have hown : s.vm.findClass R_A = some m.cls := hown
  have hl : lv_has ls 3 [(0, .ref (q 2)), (1, .int (iI a)), (2, .int (iI b))] := hl
  obtain ⟨H, hH⟩ : ∃ H, H = s.heap := ⟨_, rfl⟩
  have hS : va_S A s.heap H [] := by rw [hH]; exact va_S.rf
  rw [← hH] at hP
  rw [← hH]
  have hP : va_P G cls0 [(q 2, .inr (0, [.ref (q 6), .ref (q 7), .ref (q 8), .ref (q 9), .ref (q 10), .ref (q 11)])), (q 9, .inl (z.1, 1584, .inl (aI frt))), (q 10, .inl (z.1, 1584, .inl (aI fnt))), (q 11, .inl (z.1, 1584, .inl (aI fco)))] H := hP
  have hD : va_D A [(q 2, .inr (0, [.ref (q 6), .ref (q 7), .ref (q 8), .ref (q 9), .ref (q 10), .ref (q 11)])), (q 9, .inl (z.1, 1584, .inl (aI frt))), (q 10, .inl (z.1, 1584, .inl (aI fnt))), (q 11, .inl (z.1, 1584, .inl (aI fco)))] := hD
  refine lv_aload_n hx hb d_A_isSameEntry_0 rfl (lv_at hl 0 rfl) ?_
  refine va_get (D := G) (ci := 0) (v := .ref (q 9)) (C := R_A) (T := T_A) (N := 6) hx hb hg iw_A hown hE.1 hP 0 rfl rfl 3 (by decide) (hg _ fl_A_21) (fun _ h9 => h9) rfl d_A_isSameEntry_1 ?_
  refine lv_iload_n hx hb d_A_isSameEntry_4 rfl (lv_at hl 1 rfl) ?_
  refine rv_iald hx hb hE hP 1 rfl (i := a) (by omega) (by omega) (by decide) d_A_isSameEntry_5 ?_
  refine lv_aload_n hx hb d_A_isSameEntry_6 rfl (lv_at hl 0 rfl) ?_
  refine va_get (D := G) (ci := 0) (v := .ref (q 9)) (C := R_A) (T := T_A) (N := 6) hx hb hg iw_A hown hE.1 hP 0 rfl rfl 3 (by decide) (hg _ fl_A_21) (fun _ h9 => h9) rfl d_A_isSameEntry_7 ?_
  refine lv_iload_n hx hb d_A_isSameEntry_10 rfl (lv_at hl 2 rfl) ?_
  refine rv_iald hx hb hE hP 1 rfl (i := b) (by omega) (by omega) (by decide) d_A_isSameEntry_11 ?_
  refine rv_icmp_ne (tgt := 49) hx hb d_A_isSameEntry_12 (by decide) (by (try have := rrt a); constructor <;> omega) (by (try have := rrt b); constructor <;> omega) (fun c_1 => ?_) (fun c_1 => ?_)
  · skip
    refine lv_iconst (v := iI 0) hx hb d_A_isSameEntry_49 rfl ?_
    have hP9 : va_P G cls0 [(q 2, .inr (0, [.ref (q 6), .ref (q 7), .ref (q 8), .ref (q 9), .ref (q 10), .ref (q 11)])), (q 9, .inl (z.1, 1584, .inl (aI frt))), (q 10, .inl (z.1, 1584, .inl (aI fnt))), (q 11, .inl (z.1, 1584, .inl (aI fco)))] H := hP.sub [0, 1, 2, 3] rfl
    have hD9 : va_D A [(q 2, .inr (0, [.ref (q 6), .ref (q 7), .ref (q 8), .ref (q 9), .ref (q 10), .ref (q 11)])), (q 9, .inl (z.1, 1584, .inl (aI frt))), (q 10, .inl (z.1, 1584, .inl (aI fnt))), (q 11, .inl (z.1, 1584, .inl (aI fco)))] := hD.sub [0, 1, 2, 3] (by decide) rfl
    refine rv_iret hx hb hRt nar_b0 hlocks (Nat.le_of_ble_eq_true rfl) (Nat.le_of_ble_eq_true rfl) hP9 hD9 hS d_A_isSameEntry_50 ?_
    exact ⟨0, rfl, rfl, (by omega)⟩
  · skip
    refine lv_aload_n hx hb d_A_isSameEntry_15 rfl (lv_at hl 0 rfl) ?_
    refine va_get (D := G) (ci := 0) (v := .ref (q 10)) (C := R_A) (T := T_A) (N := 6) hx hb hg iw_A hown hE.1 hP 0 rfl rfl 4 (by decide) (hg _ fl_A_24) (fun _ h9 => h9) rfl d_A_isSameEntry_16 ?_
    refine lv_iload_n hx hb d_A_isSameEntry_19 rfl (lv_at hl 1 rfl) ?_
    refine rv_iald hx hb hE hP 2 rfl (i := a) (by omega) (by omega) (by decide) d_A_isSameEntry_20 ?_
    refine lv_aload_n hx hb d_A_isSameEntry_21 rfl (lv_at hl 0 rfl) ?_
    refine va_get (D := G) (ci := 0) (v := .ref (q 10)) (C := R_A) (T := T_A) (N := 6) hx hb hg iw_A hown hE.1 hP 0 rfl rfl 4 (by decide) (hg _ fl_A_24) (fun _ h9 => h9) rfl d_A_isSameEntry_22 ?_
    refine lv_iload_n hx hb d_A_isSameEntry_25 rfl (lv_at hl 2 rfl) ?_
    refine rv_iald hx hb hE hP 2 rfl (i := b) (by omega) (by omega) (by decide) d_A_isSameEntry_26 ?_
    refine rv_icmp_ne (tgt := 49) hx hb d_A_isSameEntry_27 (by decide) (by (try have := rnt a); constructor <;> omega) (by (try have := rnt b); constructor <;> omega) (fun c_2 => ?_) (fun c_2 => ?_)
    · skip
      refine lv_iconst (v := iI 0) hx hb d_A_isSameEntry_49 rfl ?_
      have hP9 : va_P G cls0 [(q 2, .inr (0, [.ref (q 6), .ref (q 7), .ref (q 8), .ref (q 9), .ref (q 10), .ref (q 11)])), (q 9, .inl (z.1, 1584, .inl (aI frt))), (q 10, .inl (z.1, 1584, .inl (aI fnt))), (q 11, .inl (z.1, 1584, .inl (aI fco)))] H := hP.sub [0, 1, 2, 3] rfl
      have hD9 : va_D A [(q 2, .inr (0, [.ref (q 6), .ref (q 7), .ref (q 8), .ref (q 9), .ref (q 10), .ref (q 11)])), (q 9, .inl (z.1, 1584, .inl (aI frt))), (q 10, .inl (z.1, 1584, .inl (aI fnt))), (q 11, .inl (z.1, 1584, .inl (aI fco)))] := hD.sub [0, 1, 2, 3] (by decide) rfl
      refine rv_iret hx hb hRt nar_b0 hlocks (Nat.le_of_ble_eq_true rfl) (Nat.le_of_ble_eq_true rfl) hP9 hD9 hS d_A_isSameEntry_50 ?_
      exact ⟨0, rfl, rfl, (by omega)⟩
    · skip
      refine lv_aload_n hx hb d_A_isSameEntry_30 rfl (lv_at hl 0 rfl) ?_
      refine va_get (D := G) (ci := 0) (v := .ref (q 11)) (C := R_A) (T := T_A) (N := 6) hx hb hg iw_A hown hE.1 hP 0 rfl rfl 5 (by decide) (hg _ fl_A_27) (fun _ h9 => h9) rfl d_A_isSameEntry_31 ?_
      refine lv_iload_n hx hb d_A_isSameEntry_34 rfl (lv_at hl 1 rfl) ?_
      refine rv_iald hx hb hE hP 3 rfl (i := a) (by omega) (by omega) (by decide) d_A_isSameEntry_35 ?_
      refine lv_aload_n hx hb d_A_isSameEntry_36 rfl (lv_at hl 0 rfl) ?_
      refine va_get (D := G) (ci := 0) (v := .ref (q 11)) (C := R_A) (T := T_A) (N := 6) hx hb hg iw_A hown hE.1 hP 0 rfl rfl 5 (by decide) (hg _ fl_A_27) (fun _ h9 => h9) rfl d_A_isSameEntry_37 ?_
      refine lv_iload_n hx hb d_A_isSameEntry_40 rfl (lv_at hl 2 rfl) ?_
      refine rv_iald hx hb hE hP 3 rfl (i := b) (by omega) (by omega) (by decide) d_A_isSameEntry_41 ?_
      refine rv_icmp_ne (tgt := 49) hx hb d_A_isSameEntry_42 (by decide) (by (try have := rco a); constructor <;> omega) (by (try have := rco b); constructor <;> omega) (fun c_3 => ?_) (fun c_3 => ?_)
      · skip
        refine lv_iconst (v := iI 0) hx hb d_A_isSameEntry_49 rfl ?_
        have hP9 : va_P G cls0 [(q 2, .inr (0, [.ref (q 6), .ref (q 7), .ref (q 8), .ref (q 9), .ref (q 10), .ref (q 11)])), (q 9, .inl (z.1, 1584, .inl (aI frt))), (q 10, .inl (z.1, 1584, .inl (aI fnt))), (q 11, .inl (z.1, 1584, .inl (aI fco)))] H := hP.sub [0, 1, 2, 3] rfl
        have hD9 : va_D A [(q 2, .inr (0, [.ref (q 6), .ref (q 7), .ref (q 8), .ref (q 9), .ref (q 10), .ref (q 11)])), (q 9, .inl (z.1, 1584, .inl (aI frt))), (q 10, .inl (z.1, 1584, .inl (aI fnt))), (q 11, .inl (z.1, 1584, .inl (aI fco)))] := hD.sub [0, 1, 2, 3] (by decide) rfl
        refine rv_iret hx hb hRt nar_b0 hlocks (Nat.le_of_ble_eq_true rfl) (Nat.le_of_ble_eq_true rfl) hP9 hD9 hS d_A_isSameEntry_50 ?_
        exact ⟨0, rfl, rfl, (by omega)⟩
      · skip
        refine lv_iconst (v := iI 1) hx hb d_A_isSameEntry_45 rfl ?_
        refine lv_goto (tgt := 50) hx hb d_A_isSameEntry_46 (by decide) ?_
        have hP9 : va_P G cls0 [(q 2, .inr (0, [.ref (q 6), .ref (q 7), .ref (q 8), .ref (q 9), .ref (q 10), .ref (q 11)])), (q 9, .inl (z.1, 1584, .inl (aI frt))), (q 10, .inl (z.1, 1584, .inl (aI fnt))), (q 11, .inl (z.1, 1584, .inl (aI fco)))] H := hP.sub [0, 1, 2, 3] rfl
        have hD9 : va_D A [(q 2, .inr (0, [.ref (q 6), .ref (q 7), .ref (q 8), .ref (q 9), .ref (q 10), .ref (q 11)])), (q 9, .inl (z.1, 1584, .inl (aI frt))), (q 10, .inl (z.1, 1584, .inl (aI fnt))), (q 11, .inl (z.1, 1584, .inl (aI fco)))] := hD.sub [0, 1, 2, 3] (by decide) rfl
        refine rv_iret hx hb hRt nar_b1 hlocks (Nat.le_of_ble_eq_true rfl) (Nat.le_of_ble_eq_true rfl) hP9 hD9 hS d_A_isSameEntry_50 ?_
        exact ⟨1, rfl, rfl, (by omega)⟩
set_option maxHeartbeats 4000000 in
set_option maxRecDepth 100000 in
theorem k_A_haveSameEntries (l : Launch) (G : va_G) (z : tz3) (q : Nat → Nat) (fsz : Int → Int) (frt : Int → Int) (fnt : Int → Int) (fco : Int → Int) (one : Int) (other : Int) (hp1 : 0 ≤ one ∧ one < 66) (hp2 : 0 ≤ other ∧ other < 66) (rsz : ∀ i : Int, 0 ≤ fsz i ∧ fsz i ≤ 24) (rrt : ∀ i : Int, -1 ≤ frt i ∧ frt i ≤ 63) (rnt : ∀ i : Int, 0 ≤ fnt i ∧ fnt i ≤ 63) (rco : ∀ i : Int, 0 ≤ fco i ∧ fco i ≤ 1000) : Ki l y_A_haveSameEntries c_A_haveSameEntries 4 (some .boolean) (rmD 1) G z [.ref (q 2), .int (iI one), .int (iI other)] [(q 2, .inr (0, [.ref (q 6), .ref (q 7), .ref (q 8), .ref (q 9), .ref (q 10), .ref (q 11)])), (q 8, .inl (z.1, 66, .inl (aI fsz))), (q 9, .inl (z.1, 1584, .inl (aI frt))), (q 10, .inl (z.1, 1584, .inl (aI fnt))), (q 11, .inl (z.1, 1584, .inl (aI fco)))] (fun r9 u9 => ∃ (rb : Int), u9 = [(q 2, .inr (0, [.ref (q 6), .ref (q 7), .ref (q 8), .ref (q 9), .ref (q 10), .ref (q 11)])), (q 8, .inl (z.1, 66, .inl (aI fsz))), (q 9, .inl (z.1, 1584, .inl (aI frt))), (q 10, .inl (z.1, 1584, .inl (aI fnt))), (q 11, .inl (z.1, 1584, .inl (aI fco)))] ∧ r9 = iI rb ∧ ((rb = 1 ∧ (fsz one = fsz other ∧ (∀ k : Int, 0 ≤ k → k < fsz one → (frt (one * 24 + k) = frt (other * 24 + k) ∧ fnt (one * 24 + k) = fnt (other * 24 + k) ∧ fco (one * 24 + k) = fco (other * 24 + k))))) ∨ (rb = 0 ∧ ¬ (fsz one = fsz other ∧ (∀ k : Int, 0 ≤ k → k < fsz one → (frt (one * 24 + k) = frt (other * 24 + k) ∧ fnt (one * 24 + k) = fnt (other * 24 + k) ∧ fco (one * 24 + k) = fco (other * 24 + k))))))) := by
  refine Ki.of (by decide) (Nat.le_of_ble_eq_true rfl) ?_
  intro p e s m below meth c A hB hP hD ls hl
  obtain ⟨hx, hb, hRt, hml, hown, hlocks, hg, hE, hA, hin⟩ := hB
  have hown : s.vm.findClass R_A = some m.cls := hown
  have hl : lv_has ls 4 [(0, .ref (q 2)), (1, .int (iI one)), (2, .int (iI other))] := hl
  obtain ⟨H, hH⟩ : ∃ H, H = s.heap := ⟨_, rfl⟩
  have hS : va_S A s.heap H [] := by rw [hH]; exact va_S.rf
  rw [← hH] at hP
  rw [← hH]
  have hP : va_P G cls0 [(q 2, .inr (0, [.ref (q 6), .ref (q 7), .ref (q 8), .ref (q 9), .ref (q 10), .ref (q 11)])), (q 8, .inl (z.1, 66, .inl (aI fsz))), (q 9, .inl (z.1, 1584, .inl (aI frt))), (q 10, .inl (z.1, 1584, .inl (aI fnt))), (q 11, .inl (z.1, 1584, .inl (aI fco)))] H := hP
  have hD : va_D A [(q 2, .inr (0, [.ref (q 6), .ref (q 7), .ref (q 8), .ref (q 9), .ref (q 10), .ref (q 11)])), (q 8, .inl (z.1, 66, .inl (aI fsz))), (q 9, .inl (z.1, 1584, .inl (aI frt))), (q 10, .inl (z.1, 1584, .inl (aI fnt))), (q 11, .inl (z.1, 1584, .inl (aI fco)))] := hD
  refine lv_aload_n hx hb d_A_haveSameEntries_0 rfl (lv_at hl 0 rfl) ?_
  refine va_get (D := G) (ci := 0) (v := .ref (q 8)) (C := R_A) (T := T_A) (N := 6) hx hb hg iw_A hown hE.1 hP 0 rfl rfl 2 (by decide) (hg _ fl_A_18) (fun _ h9 => h9) rfl d_A_haveSameEntries_1 ?_
  refine lv_iload_n hx hb d_A_haveSameEntries_4 rfl (lv_at hl 1 rfl) ?_
  refine rv_iald hx hb hE hP 1 rfl (i := one) (by omega) (by omega) (by decide) d_A_haveSameEntries_5 ?_
  refine lv_aload_n hx hb d_A_haveSameEntries_6 rfl (lv_at hl 0 rfl) ?_
  refine va_get (D := G) (ci := 0) (v := .ref (q 8)) (C := R_A) (T := T_A) (N := 6) hx hb hg iw_A hown hE.1 hP 0 rfl rfl 2 (by decide) (hg _ fl_A_18) (fun _ h9 => h9) rfl d_A_haveSameEntries_7 ?_
  refine lv_iload_n hx hb d_A_haveSameEntries_10 rfl (lv_at hl 2 rfl) ?_
  refine rv_iald hx hb hE hP 1 rfl (i := other) (by omega) (by omega) (by decide) d_A_haveSameEntries_11 ?_
  refine rv_icmp_eq (tgt := 17) hx hb d_A_haveSameEntries_12 (by decide) (by (try have := rsz one); constructor <;> omega) (by (try have := rsz other); constructor <;> omega) (fun c_1 => ?_) (fun c_1 => ?_)
  · skip
    have heq := c_1
    refine lv_iconst (v := iI 0) hx hb d_A_haveSameEntries_17 rfl ?_
    refine lv_istore_n (lv' := [(3, .int (iI 0)), (0, .ref (q 2)), (1, .int (iI one)), (2, .int (iI other))]) hx hb d_A_haveSameEntries_18 rfl hl (by decide) rfl (fun ls hl => ?_)
    have L19 : ∀ n9 : Nat, ∀ (k : Int), (fsz one - k : Int).toNat < n9 → (0 ≤ k ∧ k ≤ fsz one) → (∀ j : Int, 0 ≤ j → j < k → (frt (one * 24 + j) = frt (other * 24 + j) ∧ fnt (one * 24 + j) = fnt (other * 24 + j) ∧ fco (one * 24 + j) = fco (other * 24 + j))) → ∀ (H : Heap) (locs : List Loc), va_P G cls0 [(q 2, .inr (0, [.ref (q 6), .ref (q 7), .ref (q 8), .ref (q 9), .ref (q 10), .ref (q 11)])), (q 8, .inl (z.1, 66, .inl (aI fsz))), (q 9, .inl (z.1, 1584, .inl (aI frt))), (q 10, .inl (z.1, 1584, .inl (aI fnt))), (q 11, .inl (z.1, 1584, .inl (aI fco)))] H → va_D A [(q 2, .inr (0, [.ref (q 6), .ref (q 7), .ref (q 8), .ref (q 9), .ref (q 10), .ref (q 11)])), (q 8, .inl (z.1, 66, .inl (aI fsz))), (q 9, .inl (z.1, 1584, .inl (aI frt))), (q 10, .inl (z.1, 1584, .inl (aI fnt))), (q 11, .inl (z.1, 1584, .inl (aI fco)))] → va_S A s.heap H locs → ∀ ls : Array Slot, lv_has ls 4 [(0, .ref (q 2)), (1, .int (iI one)), (2, .int (iI other)), (3, .int (iI k))] → W p l e (rmD 1) s m [.ref (q 2), .int (iI one), .int (iI other)].toArray below meth c H locs 0 0 (Zi below [.ref (q 2), .int (iI one), .int (iI other)].toArray s (rmD 1) G A (fun r9 u9 => ∃ (rb : Int), u9 = [(q 2, .inr (0, [.ref (q 6), .ref (q 7), .ref (q 8), .ref (q 9), .ref (q 10), .ref (q 11)])), (q 8, .inl (z.1, 66, .inl (aI fsz))), (q 9, .inl (z.1, 1584, .inl (aI frt))), (q 10, .inl (z.1, 1584, .inl (aI fnt))), (q 11, .inl (z.1, 1584, .inl (aI fco)))] ∧ r9 = iI rb ∧ ((rb = 1 ∧ (fsz one = fsz other ∧ (∀ k : Int, 0 ≤ k → k < fsz one → (frt (one * 24 + k) = frt (other * 24 + k) ∧ fnt (one * 24 + k) = fnt (other * 24 + k) ∧ fco (one * 24 + k) = fco (other * 24 + k))))) ∨ (rb = 0 ∧ ¬ (fsz one = fsz other ∧ (∀ k : Int, 0 ≤ k → k < fsz one → (frt (one * 24 + k) = frt (other * 24 + k) ∧ fnt (one * 24 + k) = fnt (other * 24 + k) ∧ fco (one * 24 + k) = fco (other * 24 + k)))))))) (F0 m 19 ls []) := by
      intro n9
      induction n9 with
      | zero => intro k hmu; exact absurd hmu (Nat.not_lt_zero _)
      | succ n9 ih19 =>
        intro k hmu h1 hall H locs hP hD hS ls hl
        refine lv_iload_n hx hb d_A_haveSameEntries_19 rfl (lv_at hl 3 rfl) ?_
        refine lv_aload_n hx hb d_A_haveSameEntries_20 rfl (lv_at hl 0 rfl) ?_
        refine va_get (D := G) (ci := 0) (v := .ref (q 8)) (C := R_A) (T := T_A) (N := 6) hx hb hg iw_A hown hE.1 hP 0 rfl rfl 2 (by decide) (hg _ fl_A_18) (fun _ h9 => h9) rfl d_A_haveSameEntries_21 ?_
        refine lv_iload_n hx hb d_A_haveSameEntries_24 rfl (lv_at hl 1 rfl) ?_
        refine rv_iald hx hb hE hP 1 rfl (i := one) (by omega) (by omega) (by decide) d_A_haveSameEntries_25 ?_
        refine rv_icmp_ge (tgt := 54) hx hb d_A_haveSameEntries_26 (by decide) (by (try have := rsz one); constructor <;> omega) (by (try have := rsz one); (try have := rsz one); constructor <;> omega) (fun c_2 => ?_) (fun c_2 => ?_)
        · skip
          refine lv_iconst (v := iI 1) hx hb d_A_haveSameEntries_54 rfl ?_
          have hP9 : va_P G cls0 [(q 2, .inr (0, [.ref (q 6), .ref (q 7), .ref (q 8), .ref (q 9), .ref (q 10), .ref (q 11)])), (q 8, .inl (z.1, 66, .inl (aI fsz))), (q 9, .inl (z.1, 1584, .inl (aI frt))), (q 10, .inl (z.1, 1584, .inl (aI fnt))), (q 11, .inl (z.1, 1584, .inl (aI fco)))] H := hP.sub [0, 1, 2, 3, 4] rfl
          have hD9 : va_D A [(q 2, .inr (0, [.ref (q 6), .ref (q 7), .ref (q 8), .ref (q 9), .ref (q 10), .ref (q 11)])), (q 8, .inl (z.1, 66, .inl (aI fsz))), (q 9, .inl (z.1, 1584, .inl (aI frt))), (q 10, .inl (z.1, 1584, .inl (aI fnt))), (q 11, .inl (z.1, 1584, .inl (aI fco)))] := hD.sub [0, 1, 2, 3, 4] (by decide) rfl
          refine rv_iret hx hb hRt nar_b1 hlocks (Nat.le_of_ble_eq_true rfl) (Nat.le_of_ble_eq_true rfl) hP9 hD9 hS d_A_haveSameEntries_55 ?_
          exact ⟨1, rfl, rfl, (Or.inl ⟨rfl, heq, fun j h0 h1 => hall j h0 (by omega)⟩)⟩
        · skip
          refine lv_aload_n hx hb d_A_haveSameEntries_29 rfl (lv_at hl 0 rfl) ?_
          refine lv_iload_n hx hb d_A_haveSameEntries_30 rfl (lv_at hl 1 rfl) ?_
          refine lv_iload_n hx hb d_A_haveSameEntries_31 rfl (lv_at hl 3 rfl) ?_
          refine qS_i (As := [.int (iI one), .int (iI k)]) (rest := [.ref (q 2)]) (wr := [(q 2, .inr (0, [.ref (q 6), .ref (q 7), .ref (q 8), .ref (q 9), .ref (q 10), .ref (q 11)])), (q 8, .inl (z.1, 66, .inl (aI fsz))), (q 9, .inl (z.1, 1584, .inl (aI frt))), (q 10, .inl (z.1, 1584, .inl (aI fnt))), (q 11, .inl (z.1, 1584, .inl (aI fco)))]) hx hb hml hown hg hE hA hS hP hD (k_A_indexOf l G z one k) [] [0, 1, 2, 3, 4] rfl rfl (by decide) (by decide) (by decide) ml_A_40 st_A_indexOf in_A co_A_indexOf ok_A_indexOf ⟨Nat.le_of_ble_eq_true rfl, Nat.le_of_ble_eq_true rfl⟩ hl.1 rfl (Nat.le_of_ble_eq_true rfl) d_A_haveSameEntries_32 ⟨Nat.le_of_ble_eq_true rfl, Nat.le_of_ble_eq_true rfl⟩ (fun r9 u9 H locs hw hP hD hS => ?_)
          obtain ⟨rfl, rfl⟩ := hw
          have hP : va_P G cls0 [(q 2, .inr (0, [.ref (q 6), .ref (q 7), .ref (q 8), .ref (q 9), .ref (q 10), .ref (q 11)])), (q 8, .inl (z.1, 66, .inl (aI fsz))), (q 9, .inl (z.1, 1584, .inl (aI frt))), (q 10, .inl (z.1, 1584, .inl (aI fnt))), (q 11, .inl (z.1, 1584, .inl (aI fco)))] H := hP
          have hD : va_D A [(q 2, .inr (0, [.ref (q 6), .ref (q 7), .ref (q 8), .ref (q 9), .ref (q 10), .ref (q 11)])), (q 8, .inl (z.1, 66, .inl (aI fsz))), (q 9, .inl (z.1, 1584, .inl (aI frt))), (q 10, .inl (z.1, 1584, .inl (aI fnt))), (q 11, .inl (z.1, 1584, .inl (aI fco)))] := hD
          refine lv_iload_n hx hb d_A_haveSameEntries_35 rfl (lv_at hl 2 rfl) ?_
          refine lv_iload_n hx hb d_A_haveSameEntries_36 rfl (lv_at hl 3 rfl) ?_
          refine qS_i (As := [.int (iI other), .int (iI k)]) (rest := [.int (iI (one * 24 + k)), .ref (q 2)]) (wr := [(q 2, .inr (0, [.ref (q 6), .ref (q 7), .ref (q 8), .ref (q 9), .ref (q 10), .ref (q 11)])), (q 8, .inl (z.1, 66, .inl (aI fsz))), (q 9, .inl (z.1, 1584, .inl (aI frt))), (q 10, .inl (z.1, 1584, .inl (aI fnt))), (q 11, .inl (z.1, 1584, .inl (aI fco)))]) hx hb hml hown hg hE hA hS hP hD (k_A_indexOf l G z other k) [] [0, 1, 2, 3, 4] rfl rfl (by decide) (by decide) (by decide) ml_A_40 st_A_indexOf in_A co_A_indexOf ok_A_indexOf ⟨Nat.le_of_ble_eq_true rfl, Nat.le_of_ble_eq_true rfl⟩ hl.1 rfl (Nat.le_of_ble_eq_true rfl) d_A_haveSameEntries_37 ⟨Nat.le_of_ble_eq_true rfl, Nat.le_of_ble_eq_true rfl⟩ (fun r9 u9 H locs hw hP hD hS => ?_)
          obtain ⟨rfl, rfl⟩ := hw
          have hP : va_P G cls0 [(q 2, .inr (0, [.ref (q 6), .ref (q 7), .ref (q 8), .ref (q 9), .ref (q 10), .ref (q 11)])), (q 8, .inl (z.1, 66, .inl (aI fsz))), (q 9, .inl (z.1, 1584, .inl (aI frt))), (q 10, .inl (z.1, 1584, .inl (aI fnt))), (q 11, .inl (z.1, 1584, .inl (aI fco)))] H := hP
          have hD : va_D A [(q 2, .inr (0, [.ref (q 6), .ref (q 7), .ref (q 8), .ref (q 9), .ref (q 10), .ref (q 11)])), (q 8, .inl (z.1, 66, .inl (aI fsz))), (q 9, .inl (z.1, 1584, .inl (aI frt))), (q 10, .inl (z.1, 1584, .inl (aI fnt))), (q 11, .inl (z.1, 1584, .inl (aI fco)))] := hD
          refine qV_i (As := [.int (iI (one * 24 + k)), .int (iI (other * 24 + k))]) (rest := []) (wr := [(q 8, .inl (z.1, 66, .inl (aI fsz)))]) hx hb hml hown hg hE hA hS hP hD (k_A_isSameEntry l G z q frt fnt fco (one * 24 + k) (other * 24 + k) (by assumption) (by assumption) (by assumption) (by (try have := rsz one); (try have := rsz other); omega) (by (try have := rsz one); (try have := rsz other); omega)) [0, 2, 3, 4] [1] rfl rfl (by decide) (by decide) (by decide) (q0 := 0) rfl rfl ml_A_54 im_A_isSameEntry se_A_isSameEntry in_A co_A_isSameEntry ok_A_isSameEntry ⟨Nat.le_of_ble_eq_true rfl, Nat.le_of_ble_eq_true rfl⟩ hl.1 rfl (Nat.le_of_ble_eq_true rfl) d_A_haveSameEntries_40 ⟨Nat.le_of_ble_eq_true rfl, Nat.le_of_ble_eq_true rfl⟩ (fun r9 u9 H locs hw hP hD hS => ?_)
          obtain ⟨rb, rfl, rfl, fbs⟩ := hw
          have hP : va_P G cls0 [(q 8, .inl (z.1, 66, .inl (aI fsz))), (q 2, .inr (0, [.ref (q 6), .ref (q 7), .ref (q 8), .ref (q 9), .ref (q 10), .ref (q 11)])), (q 9, .inl (z.1, 1584, .inl (aI frt))), (q 10, .inl (z.1, 1584, .inl (aI fnt))), (q 11, .inl (z.1, 1584, .inl (aI fco)))] H := hP
          have hD : va_D A [(q 8, .inl (z.1, 66, .inl (aI fsz))), (q 2, .inr (0, [.ref (q 6), .ref (q 7), .ref (q 8), .ref (q 9), .ref (q 10), .ref (q 11)])), (q 9, .inl (z.1, 1584, .inl (aI frt))), (q 10, .inl (z.1, 1584, .inl (aI fnt))), (q 11, .inl (z.1, 1584, .inl (aI fco)))] := hD
          refine rv_if_ne (tgt := 48) hx hb d_A_haveSameEntries_43 (by decide) (by constructor <;> omega) (fun c_3 => ?_) (fun c_3 => ?_)
          · skip
            have hb1 := c_3
            refine lv_iinc (v := iI (k + 1)) (lv' := [(3, .int (iI (k + 1))), (0, .ref (q 2)), (1, .int (iI one)), (2, .int (iI other))]) hx hb d_A_haveSameEntries_48 hl (k := 3) rfl (iI_add _ _) (by decide) rfl (fun ls hl => ?_)
            refine lv_goto (tgt := 19) hx hb d_A_haveSameEntries_51 (by decide) ?_
            exact ih19 (k + 1) (by (try have := rsz one); omega) (by (try have := rsz one); omega) (fun j h0 h1 => if e : j = k then (by rw [e]; rcases fbs with ⟨-, q⟩ | ⟨q, -⟩; exact q; exact absurd q hb1) else hall j h0 (by omega)) H _ (hP.sub [1, 0, 2, 3, 4] rfl) (hD.sub [1, 0, 2, 3, 4] (by decide) rfl) hS ls (lv_sub hl [1, 2, 3, 0] rfl)
          · skip
            have hb0 := c_3
            refine lv_iconst (v := iI 0) hx hb d_A_haveSameEntries_46 rfl ?_
            have hP9 : va_P G cls0 [(q 2, .inr (0, [.ref (q 6), .ref (q 7), .ref (q 8), .ref (q 9), .ref (q 10), .ref (q 11)])), (q 8, .inl (z.1, 66, .inl (aI fsz))), (q 9, .inl (z.1, 1584, .inl (aI frt))), (q 10, .inl (z.1, 1584, .inl (aI fnt))), (q 11, .inl (z.1, 1584, .inl (aI fco)))] H := hP.sub [1, 0, 2, 3, 4] rfl
            have hD9 : va_D A [(q 2, .inr (0, [.ref (q 6), .ref (q 7), .ref (q 8), .ref (q 9), .ref (q 10), .ref (q 11)])), (q 8, .inl (z.1, 66, .inl (aI fsz))), (q 9, .inl (z.1, 1584, .inl (aI frt))), (q 10, .inl (z.1, 1584, .inl (aI fnt))), (q 11, .inl (z.1, 1584, .inl (aI fco)))] := hD.sub [1, 0, 2, 3, 4] (by decide) rfl
            refine rv_iret hx hb hRt nar_b0 hlocks (Nat.le_of_ble_eq_true rfl) (Nat.le_of_ble_eq_true rfl) hP9 hD9 hS d_A_haveSameEntries_47 ?_
            rcases fbs with ⟨q, -⟩ | ⟨-, q⟩
            · omega
            · exact ⟨0, rfl, rfl, Or.inr ⟨rfl, fun w => q (w.2 k h1.1 (by omega))⟩⟩
    exact L19 ((fsz one - 0 : Int).toNat + 1) 0 (Nat.lt_succ_self _) (by (try have := rsz one); (try have := rsz one); omega) (fun j h0 h1 => absurd h1 (by omega)) H _ (hP.sub [0, 1, 2, 3, 4] rfl) (hD.sub [0, 1, 2, 3, 4] (by decide) rfl) hS ls (lv_sub hl [1, 2, 3, 0] rfl)
  · skip
    have hne := c_1
    refine lv_iconst (v := iI 0) hx hb d_A_haveSameEntries_15 rfl ?_
    have hP9 : va_P G cls0 [(q 2, .inr (0, [.ref (q 6), .ref (q 7), .ref (q 8), .ref (q 9), .ref (q 10), .ref (q 11)])), (q 8, .inl (z.1, 66, .inl (aI fsz))), (q 9, .inl (z.1, 1584, .inl (aI frt))), (q 10, .inl (z.1, 1584, .inl (aI fnt))), (q 11, .inl (z.1, 1584, .inl (aI fco)))] H := hP.sub [0, 1, 2, 3, 4] rfl
    have hD9 : va_D A [(q 2, .inr (0, [.ref (q 6), .ref (q 7), .ref (q 8), .ref (q 9), .ref (q 10), .ref (q 11)])), (q 8, .inl (z.1, 66, .inl (aI fsz))), (q 9, .inl (z.1, 1584, .inl (aI frt))), (q 10, .inl (z.1, 1584, .inl (aI fnt))), (q 11, .inl (z.1, 1584, .inl (aI fco)))] := hD.sub [0, 1, 2, 3, 4] (by decide) rfl
    refine rv_iret hx hb hRt nar_b0 hlocks (Nat.le_of_ble_eq_true rfl) (Nat.le_of_ble_eq_true rfl) hP9 hD9 hS d_A_haveSameEntries_16 ?_
    exact ⟨0, rfl, rfl, (Or.inr ⟨rfl, fun q => hne q.1⟩)⟩
set_option maxHeartbeats 4000000 in
set_option maxRecDepth 100000 in
theorem k_A_copyEntries (l : Launch) (G : va_G) (z : tz3) (q : Nat → Nat) (fsz : Int → Int) (frt : Int → Int) (fnt : Int → Int) (fco : Int → Int) (pa : Int) (pb : Int) (hp1 : 0 ≤ pa ∧ pa < 66) (hp2 : 0 ≤ pb ∧ pb < 66) (rsz : ∀ i : Int, 0 ≤ fsz i ∧ fsz i ≤ 24) : Kv l y_A_copyEntries c_A_copyEntries 4 (rmD 3) G z [.ref (q 2), .int (iI pa), .int (iI pb)] [(q 2, .inr (0, [.ref (q 6), .ref (q 7), .ref (q 8), .ref (q 9), .ref (q 10), .ref (q 11)])), (q 8, .inl (z.1, 66, .inl (aI fsz))), (q 9, .inl (z.1, 1584, .inl (aI frt))), (q 10, .inl (z.1, 1584, .inl (aI fnt))), (q 11, .inl (z.1, 1584, .inl (aI fco)))] (fun u9 => u9 = [(q 2, .inr (0, [.ref (q 6), .ref (q 7), .ref (q 8), .ref (q 9), .ref (q 10), .ref (q 11)])), (q 8, .inl (z.1, 66, .inl (aI (uZ fsz pb (fsz pa))))), (q 9, .inl (z.1, 1584, .inl (aI (cZ frt (pa * 24 + 0) (pb * 24 + 0) (fsz pa))))), (q 10, .inl (z.1, 1584, .inl (aI (cZ fnt (pa * 24 + 0) (pb * 24 + 0) (fsz pa))))), (q 11, .inl (z.1, 1584, .inl (aI (cZ fco (pa * 24 + 0) (pb * 24 + 0) (fsz pa)))))]) := by
  refine Kv.of (by decide) (Nat.le_of_ble_eq_true rfl) ?_
  intro p e s m below meth c A hB hP hD ls hl
  obtain ⟨hx, hb, hRt, hml, hown, hlocks, hg, hE, hA, hin⟩ := hB
  have hown : s.vm.findClass R_A = some m.cls := hown
  have hl : lv_has ls 4 [(0, .ref (q 2)), (1, .int (iI pa)), (2, .int (iI pb))] := hl
  obtain ⟨H, hH⟩ : ∃ H, H = s.heap := ⟨_, rfl⟩
  have hS : va_S A s.heap H [] := by rw [hH]; exact va_S.rf
  rw [← hH] at hP
  rw [← hH]
  have hP : va_P G cls0 [(q 2, .inr (0, [.ref (q 6), .ref (q 7), .ref (q 8), .ref (q 9), .ref (q 10), .ref (q 11)])), (q 8, .inl (z.1, 66, .inl (aI fsz))), (q 9, .inl (z.1, 1584, .inl (aI frt))), (q 10, .inl (z.1, 1584, .inl (aI fnt))), (q 11, .inl (z.1, 1584, .inl (aI fco)))] H := hP
  have hD : va_D A [(q 2, .inr (0, [.ref (q 6), .ref (q 7), .ref (q 8), .ref (q 9), .ref (q 10), .ref (q 11)])), (q 8, .inl (z.1, 66, .inl (aI fsz))), (q 9, .inl (z.1, 1584, .inl (aI frt))), (q 10, .inl (z.1, 1584, .inl (aI fnt))), (q 11, .inl (z.1, 1584, .inl (aI fco)))] := hD
  refine lv_aload_n hx hb d_A_copyEntries_0 rfl (lv_at hl 0 rfl) ?_
  refine va_get (D := G) (ci := 0) (v := .ref (q 8)) (C := R_A) (T := T_A) (N := 6) hx hb hg iw_A hown hE.1 hP 0 rfl rfl 2 (by decide) (hg _ fl_A_18) (fun _ h9 => h9) rfl d_A_copyEntries_1 ?_
  refine lv_iload_n hx hb d_A_copyEntries_4 rfl (lv_at hl 1 rfl) ?_
  refine rv_iald hx hb hE hP 1 rfl (i := pa) (by omega) (by omega) (by decide) d_A_copyEntries_5 ?_
  refine lv_istore_n (lv' := [(3, .int (iI (fsz pa))), (0, .ref (q 2)), (1, .int (iI pa)), (2, .int (iI pb))]) hx hb d_A_copyEntries_6 rfl hl (by decide) rfl (fun ls hl => ?_)
  refine lv_aload_n hx hb d_A_copyEntries_7 rfl (lv_at hl 1 rfl) ?_
  refine va_get (D := G) (ci := 0) (v := .ref (q 9)) (C := R_A) (T := T_A) (N := 6) hx hb hg iw_A hown hE.1 hP 0 rfl rfl 3 (by decide) (hg _ fl_A_21) (fun _ h9 => h9) rfl d_A_copyEntries_8 ?_
  refine lv_iload_n hx hb d_A_copyEntries_11 rfl (lv_at hl 2 rfl) ?_
  refine lv_iconst (v := iI 0) hx hb d_A_copyEntries_12 rfl ?_
  refine qS_i (As := [.int (iI pa), .int (iI 0)]) (rest := [.ref (q 9)]) (wr := [(q 2, .inr (0, [.ref (q 6), .ref (q 7), .ref (q 8), .ref (q 9), .ref (q 10), .ref (q 11)])), (q 8, .inl (z.1, 66, .inl (aI fsz))), (q 9, .inl (z.1, 1584, .inl (aI frt))), (q 10, .inl (z.1, 1584, .inl (aI fnt))), (q 11, .inl (z.1, 1584, .inl (aI fco)))]) hx hb hml hown hg hE hA hS hP hD (k_A_indexOf l G z pa 0) [] [0, 1, 2, 3, 4] rfl rfl (by decide) (by decide) (by decide) ml_A_40 st_A_indexOf in_A co_A_indexOf ok_A_indexOf ⟨Nat.le_of_ble_eq_true rfl, Nat.le_of_ble_eq_true rfl⟩ hl.1 rfl (Nat.le_of_ble_eq_true rfl) d_A_copyEntries_13 ⟨Nat.le_of_ble_eq_true rfl, Nat.le_of_ble_eq_true rfl⟩ (fun r9 u9 H locs hw hP hD hS => ?_)
  obtain ⟨rfl, rfl⟩ := hw
  have hP : va_P G cls0 [(q 2, .inr (0, [.ref (q 6), .ref (q 7), .ref (q 8), .ref (q 9), .ref (q 10), .ref (q 11)])), (q 8, .inl (z.1, 66, .inl (aI fsz))), (q 9, .inl (z.1, 1584, .inl (aI frt))), (q 10, .inl (z.1, 1584, .inl (aI fnt))), (q 11, .inl (z.1, 1584, .inl (aI fco)))] H := hP
  have hD : va_D A [(q 2, .inr (0, [.ref (q 6), .ref (q 7), .ref (q 8), .ref (q 9), .ref (q 10), .ref (q 11)])), (q 8, .inl (z.1, 66, .inl (aI fsz))), (q 9, .inl (z.1, 1584, .inl (aI frt))), (q 10, .inl (z.1, 1584, .inl (aI fnt))), (q 11, .inl (z.1, 1584, .inl (aI fco)))] := hD
  refine lv_aload_n hx hb d_A_copyEntries_16 rfl (lv_at hl 1 rfl) ?_
  refine va_get (D := G) (ci := 0) (v := .ref (q 9)) (C := R_A) (T := T_A) (N := 6) hx hb hg iw_A hown hE.1 hP 0 rfl rfl 3 (by decide) (hg _ fl_A_21) (fun _ h9 => h9) rfl d_A_copyEntries_17 ?_
  refine lv_iload_n hx hb d_A_copyEntries_20 rfl (lv_at hl 3 rfl) ?_
  refine lv_iconst (v := iI 0) hx hb d_A_copyEntries_21 rfl ?_
  refine qS_i (As := [.int (iI pb), .int (iI 0)]) (rest := [.ref (q 9), .int (iI (pa * 24 + 0)), .ref (q 9)]) (wr := [(q 2, .inr (0, [.ref (q 6), .ref (q 7), .ref (q 8), .ref (q 9), .ref (q 10), .ref (q 11)])), (q 8, .inl (z.1, 66, .inl (aI fsz))), (q 9, .inl (z.1, 1584, .inl (aI frt))), (q 10, .inl (z.1, 1584, .inl (aI fnt))), (q 11, .inl (z.1, 1584, .inl (aI fco)))]) hx hb hml hown hg hE hA hS hP hD (k_A_indexOf l G z pb 0) [] [0, 1, 2, 3, 4] rfl rfl (by decide) (by decide) (by decide) ml_A_40 st_A_indexOf in_A co_A_indexOf ok_A_indexOf ⟨Nat.le_of_ble_eq_true rfl, Nat.le_of_ble_eq_true rfl⟩ hl.1 rfl (Nat.le_of_ble_eq_true rfl) d_A_copyEntries_22 ⟨Nat.le_of_ble_eq_true rfl, Nat.le_of_ble_eq_true rfl⟩ (fun r9 u9 H locs hw hP hD hS => ?_)
  obtain ⟨rfl, rfl⟩ := hw
  have hP : va_P G cls0 [(q 2, .inr (0, [.ref (q 6), .ref (q 7), .ref (q 8), .ref (q 9), .ref (q 10), .ref (q 11)])), (q 8, .inl (z.1, 66, .inl (aI fsz))), (q 9, .inl (z.1, 1584, .inl (aI frt))), (q 10, .inl (z.1, 1584, .inl (aI fnt))), (q 11, .inl (z.1, 1584, .inl (aI fco)))] H := hP
  have hD : va_D A [(q 2, .inr (0, [.ref (q 6), .ref (q 7), .ref (q 8), .ref (q 9), .ref (q 10), .ref (q 11)])), (q 8, .inl (z.1, 66, .inl (aI fsz))), (q 9, .inl (z.1, 1584, .inl (aI frt))), (q 10, .inl (z.1, 1584, .inl (aI fnt))), (q 11, .inl (z.1, 1584, .inl (aI fco)))] := hD
  refine lv_iload_n hx hb d_A_copyEntries_25 rfl (lv_at hl 0 rfl) ?_
  refine rv_copy hx hb (hml.trans hl.1.symm) hown hg ml_A_48 hE hP hD hS 2 rfl (sp := pa * 24 + 0) (dp := pb * 24 + 0) (n := fsz pa) (by omega) (by omega) (by (try have := rsz pa); omega) (by (try have := rsz pa); omega) (by (try have := rsz pa); omega) (by decide) (Nat.le_of_ble_eq_true rfl) (Nat.le_of_ble_eq_true rfl) d_A_copyEntries_26 (fun H locs hP hD hS => ?_)
  have hP : va_P G cls0 [(q 2, .inr (0, [.ref (q 6), .ref (q 7), .ref (q 8), .ref (q 9), .ref (q 10), .ref (q 11)])), (q 8, .inl (z.1, 66, .inl (aI fsz))), (q 9, .inl (z.1, 1584, .inl (aI (cZ frt (pa * 24 + 0) (pb * 24 + 0) (fsz pa))))), (q 10, .inl (z.1, 1584, .inl (aI fnt))), (q 11, .inl (z.1, 1584, .inl (aI fco)))] H := hP
  have hD : va_D A [(q 2, .inr (0, [.ref (q 6), .ref (q 7), .ref (q 8), .ref (q 9), .ref (q 10), .ref (q 11)])), (q 8, .inl (z.1, 66, .inl (aI fsz))), (q 9, .inl (z.1, 1584, .inl (aI (cZ frt (pa * 24 + 0) (pb * 24 + 0) (fsz pa))))), (q 10, .inl (z.1, 1584, .inl (aI fnt))), (q 11, .inl (z.1, 1584, .inl (aI fco)))] := hD
  refine lv_aload_n hx hb d_A_copyEntries_29 rfl (lv_at hl 1 rfl) ?_
  refine va_get (D := G) (ci := 0) (v := .ref (q 10)) (C := R_A) (T := T_A) (N := 6) hx hb hg iw_A hown hE.1 hP 0 rfl rfl 4 (by decide) (hg _ fl_A_24) (fun _ h9 => h9) rfl d_A_copyEntries_30 ?_
  refine lv_iload_n hx hb d_A_copyEntries_33 rfl (lv_at hl 2 rfl) ?_
  refine lv_iconst (v := iI 0) hx hb d_A_copyEntries_34 rfl ?_
  refine qS_i (As := [.int (iI pa), .int (iI 0)]) (rest := [.ref (q 10)]) (wr := [(q 2, .inr (0, [.ref (q 6), .ref (q 7), .ref (q 8), .ref (q 9), .ref (q 10), .ref (q 11)])), (q 8, .inl (z.1, 66, .inl (aI fsz))), (q 9, .inl (z.1, 1584, .inl (aI (cZ frt (pa * 24 + 0) (pb * 24 + 0) (fsz pa))))), (q 10, .inl (z.1, 1584, .inl (aI fnt))), (q 11, .inl (z.1, 1584, .inl (aI fco)))]) hx hb hml hown hg hE hA hS hP hD (k_A_indexOf l G z pa 0) [] [0, 1, 2, 3, 4] rfl rfl (by decide) (by decide) (by decide) ml_A_40 st_A_indexOf in_A co_A_indexOf ok_A_indexOf ⟨Nat.le_of_ble_eq_true rfl, Nat.le_of_ble_eq_true rfl⟩ hl.1 rfl (Nat.le_of_ble_eq_true rfl) d_A_copyEntries_35 ⟨Nat.le_of_ble_eq_true rfl, Nat.le_of_ble_eq_true rfl⟩ (fun r9 u9 H locs hw hP hD hS => ?_)
  obtain ⟨rfl, rfl⟩ := hw
  have hP : va_P G cls0 [(q 2, .inr (0, [.ref (q 6), .ref (q 7), .ref (q 8), .ref (q 9), .ref (q 10), .ref (q 11)])), (q 8, .inl (z.1, 66, .inl (aI fsz))), (q 9, .inl (z.1, 1584, .inl (aI (cZ frt (pa * 24 + 0) (pb * 24 + 0) (fsz pa))))), (q 10, .inl (z.1, 1584, .inl (aI fnt))), (q 11, .inl (z.1, 1584, .inl (aI fco)))] H := hP
  have hD : va_D A [(q 2, .inr (0, [.ref (q 6), .ref (q 7), .ref (q 8), .ref (q 9), .ref (q 10), .ref (q 11)])), (q 8, .inl (z.1, 66, .inl (aI fsz))), (q 9, .inl (z.1, 1584, .inl (aI (cZ frt (pa * 24 + 0) (pb * 24 + 0) (fsz pa))))), (q 10, .inl (z.1, 1584, .inl (aI fnt))), (q 11, .inl (z.1, 1584, .inl (aI fco)))] := hD
  refine lv_aload_n hx hb d_A_copyEntries_38 rfl (lv_at hl 1 rfl) ?_
  refine va_get (D := G) (ci := 0) (v := .ref (q 10)) (C := R_A) (T := T_A) (N := 6) hx hb hg iw_A hown hE.1 hP 0 rfl rfl 4 (by decide) (hg _ fl_A_24) (fun _ h9 => h9) rfl d_A_copyEntries_39 ?_
  refine lv_iload_n hx hb d_A_copyEntries_42 rfl (lv_at hl 3 rfl) ?_
  refine lv_iconst (v := iI 0) hx hb d_A_copyEntries_43 rfl ?_
  refine qS_i (As := [.int (iI pb), .int (iI 0)]) (rest := [.ref (q 10), .int (iI (pa * 24 + 0)), .ref (q 10)]) (wr := [(q 2, .inr (0, [.ref (q 6), .ref (q 7), .ref (q 8), .ref (q 9), .ref (q 10), .ref (q 11)])), (q 8, .inl (z.1, 66, .inl (aI fsz))), (q 9, .inl (z.1, 1584, .inl (aI (cZ frt (pa * 24 + 0) (pb * 24 + 0) (fsz pa))))), (q 10, .inl (z.1, 1584, .inl (aI fnt))), (q 11, .inl (z.1, 1584, .inl (aI fco)))]) hx hb hml hown hg hE hA hS hP hD (k_A_indexOf l G z pb 0) [] [0, 1, 2, 3, 4] rfl rfl (by decide) (by decide) (by decide) ml_A_40 st_A_indexOf in_A co_A_indexOf ok_A_indexOf ⟨Nat.le_of_ble_eq_true rfl, Nat.le_of_ble_eq_true rfl⟩ hl.1 rfl (Nat.le_of_ble_eq_true rfl) d_A_copyEntries_44 ⟨Nat.le_of_ble_eq_true rfl, Nat.le_of_ble_eq_true rfl⟩ (fun r9 u9 H locs hw hP hD hS => ?_)
  obtain ⟨rfl, rfl⟩ := hw
  have hP : va_P G cls0 [(q 2, .inr (0, [.ref (q 6), .ref (q 7), .ref (q 8), .ref (q 9), .ref (q 10), .ref (q 11)])), (q 8, .inl (z.1, 66, .inl (aI fsz))), (q 9, .inl (z.1, 1584, .inl (aI (cZ frt (pa * 24 + 0) (pb * 24 + 0) (fsz pa))))), (q 10, .inl (z.1, 1584, .inl (aI fnt))), (q 11, .inl (z.1, 1584, .inl (aI fco)))] H := hP
  have hD : va_D A [(q 2, .inr (0, [.ref (q 6), .ref (q 7), .ref (q 8), .ref (q 9), .ref (q 10), .ref (q 11)])), (q 8, .inl (z.1, 66, .inl (aI fsz))), (q 9, .inl (z.1, 1584, .inl (aI (cZ frt (pa * 24 + 0) (pb * 24 + 0) (fsz pa))))), (q 10, .inl (z.1, 1584, .inl (aI fnt))), (q 11, .inl (z.1, 1584, .inl (aI fco)))] := hD
  refine lv_iload_n hx hb d_A_copyEntries_47 rfl (lv_at hl 0 rfl) ?_
  refine rv_copy hx hb (hml.trans hl.1.symm) hown hg ml_A_48 hE hP hD hS 3 rfl (sp := pa * 24 + 0) (dp := pb * 24 + 0) (n := fsz pa) (by omega) (by omega) (by (try have := rsz pa); omega) (by (try have := rsz pa); omega) (by (try have := rsz pa); omega) (by decide) (Nat.le_of_ble_eq_true rfl) (Nat.le_of_ble_eq_true rfl) d_A_copyEntries_48 (fun H locs hP hD hS => ?_)
  have hP : va_P G cls0 [(q 2, .inr (0, [.ref (q 6), .ref (q 7), .ref (q 8), .ref (q 9), .ref (q 10), .ref (q 11)])), (q 8, .inl (z.1, 66, .inl (aI fsz))), (q 9, .inl (z.1, 1584, .inl (aI (cZ frt (pa * 24 + 0) (pb * 24 + 0) (fsz pa))))), (q 10, .inl (z.1, 1584, .inl (aI (cZ fnt (pa * 24 + 0) (pb * 24 + 0) (fsz pa))))), (q 11, .inl (z.1, 1584, .inl (aI fco)))] H := hP
  have hD : va_D A [(q 2, .inr (0, [.ref (q 6), .ref (q 7), .ref (q 8), .ref (q 9), .ref (q 10), .ref (q 11)])), (q 8, .inl (z.1, 66, .inl (aI fsz))), (q 9, .inl (z.1, 1584, .inl (aI (cZ frt (pa * 24 + 0) (pb * 24 + 0) (fsz pa))))), (q 10, .inl (z.1, 1584, .inl (aI (cZ fnt (pa * 24 + 0) (pb * 24 + 0) (fsz pa))))), (q 11, .inl (z.1, 1584, .inl (aI fco)))] := hD
  refine lv_aload_n hx hb d_A_copyEntries_51 rfl (lv_at hl 1 rfl) ?_
  refine va_get (D := G) (ci := 0) (v := .ref (q 11)) (C := R_A) (T := T_A) (N := 6) hx hb hg iw_A hown hE.1 hP 0 rfl rfl 5 (by decide) (hg _ fl_A_27) (fun _ h9 => h9) rfl d_A_copyEntries_52 ?_
  refine lv_iload_n hx hb d_A_copyEntries_55 rfl (lv_at hl 2 rfl) ?_
  refine lv_iconst (v := iI 0) hx hb d_A_copyEntries_56 rfl ?_
  refine qS_i (As := [.int (iI pa), .int (iI 0)]) (rest := [.ref (q 11)]) (wr := [(q 2, .inr (0, [.ref (q 6), .ref (q 7), .ref (q 8), .ref (q 9), .ref (q 10), .ref (q 11)])), (q 8, .inl (z.1, 66, .inl (aI fsz))), (q 9, .inl (z.1, 1584, .inl (aI (cZ frt (pa * 24 + 0) (pb * 24 + 0) (fsz pa))))), (q 10, .inl (z.1, 1584, .inl (aI (cZ fnt (pa * 24 + 0) (pb * 24 + 0) (fsz pa))))), (q 11, .inl (z.1, 1584, .inl (aI fco)))]) hx hb hml hown hg hE hA hS hP hD (k_A_indexOf l G z pa 0) [] [0, 1, 2, 3, 4] rfl rfl (by decide) (by decide) (by decide) ml_A_40 st_A_indexOf in_A co_A_indexOf ok_A_indexOf ⟨Nat.le_of_ble_eq_true rfl, Nat.le_of_ble_eq_true rfl⟩ hl.1 rfl (Nat.le_of_ble_eq_true rfl) d_A_copyEntries_57 ⟨Nat.le_of_ble_eq_true rfl, Nat.le_of_ble_eq_true rfl⟩ (fun r9 u9 H locs hw hP hD hS => ?_)
  obtain ⟨rfl, rfl⟩ := hw
  have hP : va_P G cls0 [(q 2, .inr (0, [.ref (q 6), .ref (q 7), .ref (q 8), .ref (q 9), .ref (q 10), .ref (q 11)])), (q 8, .inl (z.1, 66, .inl (aI fsz))), (q 9, .inl (z.1, 1584, .inl (aI (cZ frt (pa * 24 + 0) (pb * 24 + 0) (fsz pa))))), (q 10, .inl (z.1, 1584, .inl (aI (cZ fnt (pa * 24 + 0) (pb * 24 + 0) (fsz pa))))), (q 11, .inl (z.1, 1584, .inl (aI fco)))] H := hP
  have hD : va_D A [(q 2, .inr (0, [.ref (q 6), .ref (q 7), .ref (q 8), .ref (q 9), .ref (q 10), .ref (q 11)])), (q 8, .inl (z.1, 66, .inl (aI fsz))), (q 9, .inl (z.1, 1584, .inl (aI (cZ frt (pa * 24 + 0) (pb * 24 + 0) (fsz pa))))), (q 10, .inl (z.1, 1584, .inl (aI (cZ fnt (pa * 24 + 0) (pb * 24 + 0) (fsz pa))))), (q 11, .inl (z.1, 1584, .inl (aI fco)))] := hD
  refine lv_aload_n hx hb d_A_copyEntries_60 rfl (lv_at hl 1 rfl) ?_
  refine va_get (D := G) (ci := 0) (v := .ref (q 11)) (C := R_A) (T := T_A) (N := 6) hx hb hg iw_A hown hE.1 hP 0 rfl rfl 5 (by decide) (hg _ fl_A_27) (fun _ h9 => h9) rfl d_A_copyEntries_61 ?_
  refine lv_iload_n hx hb d_A_copyEntries_64 rfl (lv_at hl 3 rfl) ?_
  refine lv_iconst (v := iI 0) hx hb d_A_copyEntries_65 rfl ?_
  refine qS_i (As := [.int (iI pb), .int (iI 0)]) (rest := [.ref (q 11), .int (iI (pa * 24 + 0)), .ref (q 11)]) (wr := [(q 2, .inr (0, [.ref (q 6), .ref (q 7), .ref (q 8), .ref (q 9), .ref (q 10), .ref (q 11)])), (q 8, .inl (z.1, 66, .inl (aI fsz))), (q 9, .inl (z.1, 1584, .inl (aI (cZ frt (pa * 24 + 0) (pb * 24 + 0) (fsz pa))))), (q 10, .inl (z.1, 1584, .inl (aI (cZ fnt (pa * 24 + 0) (pb * 24 + 0) (fsz pa))))), (q 11, .inl (z.1, 1584, .inl (aI fco)))]) hx hb hml hown hg hE hA hS hP hD (k_A_indexOf l G z pb 0) [] [0, 1, 2, 3, 4] rfl rfl (by decide) (by decide) (by decide) ml_A_40 st_A_indexOf in_A co_A_indexOf ok_A_indexOf ⟨Nat.le_of_ble_eq_true rfl, Nat.le_of_ble_eq_true rfl⟩ hl.1 rfl (Nat.le_of_ble_eq_true rfl) d_A_copyEntries_66 ⟨Nat.le_of_ble_eq_true rfl, Nat.le_of_ble_eq_true rfl⟩ (fun r9 u9 H locs hw hP hD hS => ?_)
  obtain ⟨rfl, rfl⟩ := hw
  have hP : va_P G cls0 [(q 2, .inr (0, [.ref (q 6), .ref (q 7), .ref (q 8), .ref (q 9), .ref (q 10), .ref (q 11)])), (q 8, .inl (z.1, 66, .inl (aI fsz))), (q 9, .inl (z.1, 1584, .inl (aI (cZ frt (pa * 24 + 0) (pb * 24 + 0) (fsz pa))))), (q 10, .inl (z.1, 1584, .inl (aI (cZ fnt (pa * 24 + 0) (pb * 24 + 0) (fsz pa))))), (q 11, .inl (z.1, 1584, .inl (aI fco)))] H := hP
  have hD : va_D A [(q 2, .inr (0, [.ref (q 6), .ref (q 7), .ref (q 8), .ref (q 9), .ref (q 10), .ref (q 11)])), (q 8, .inl (z.1, 66, .inl (aI fsz))), (q 9, .inl (z.1, 1584, .inl (aI (cZ frt (pa * 24 + 0) (pb * 24 + 0) (fsz pa))))), (q 10, .inl (z.1, 1584, .inl (aI (cZ fnt (pa * 24 + 0) (pb * 24 + 0) (fsz pa))))), (q 11, .inl (z.1, 1584, .inl (aI fco)))] := hD
  refine lv_iload_n hx hb d_A_copyEntries_69 rfl (lv_at hl 0 rfl) ?_
  refine rv_copy hx hb (hml.trans hl.1.symm) hown hg ml_A_48 hE hP hD hS 4 rfl (sp := pa * 24 + 0) (dp := pb * 24 + 0) (n := fsz pa) (by omega) (by omega) (by (try have := rsz pa); omega) (by (try have := rsz pa); omega) (by (try have := rsz pa); omega) (by decide) (Nat.le_of_ble_eq_true rfl) (Nat.le_of_ble_eq_true rfl) d_A_copyEntries_70 (fun H locs hP hD hS => ?_)
  have hP : va_P G cls0 [(q 2, .inr (0, [.ref (q 6), .ref (q 7), .ref (q 8), .ref (q 9), .ref (q 10), .ref (q 11)])), (q 8, .inl (z.1, 66, .inl (aI fsz))), (q 9, .inl (z.1, 1584, .inl (aI (cZ frt (pa * 24 + 0) (pb * 24 + 0) (fsz pa))))), (q 10, .inl (z.1, 1584, .inl (aI (cZ fnt (pa * 24 + 0) (pb * 24 + 0) (fsz pa))))), (q 11, .inl (z.1, 1584, .inl (aI (cZ fco (pa * 24 + 0) (pb * 24 + 0) (fsz pa)))))] H := hP
  have hD : va_D A [(q 2, .inr (0, [.ref (q 6), .ref (q 7), .ref (q 8), .ref (q 9), .ref (q 10), .ref (q 11)])), (q 8, .inl (z.1, 66, .inl (aI fsz))), (q 9, .inl (z.1, 1584, .inl (aI (cZ frt (pa * 24 + 0) (pb * 24 + 0) (fsz pa))))), (q 10, .inl (z.1, 1584, .inl (aI (cZ fnt (pa * 24 + 0) (pb * 24 + 0) (fsz pa))))), (q 11, .inl (z.1, 1584, .inl (aI (cZ fco (pa * 24 + 0) (pb * 24 + 0) (fsz pa)))))] := hD
  refine lv_aload_n hx hb d_A_copyEntries_73 rfl (lv_at hl 1 rfl) ?_
  refine va_get (D := G) (ci := 0) (v := .ref (q 8)) (C := R_A) (T := T_A) (N := 6) hx hb hg iw_A hown hE.1 hP 0 rfl rfl 2 (by decide) (hg _ fl_A_18) (fun _ h9 => h9) rfl d_A_copyEntries_74 ?_
  refine lv_iload_n hx hb d_A_copyEntries_77 rfl (lv_at hl 3 rfl) ?_
  refine lv_iload_n hx hb d_A_copyEntries_78 rfl (lv_at hl 0 rfl) ?_
  refine rv_iast hx hb hE hP hD hS 1 rfl (i := pb) (x := fsz pa) (by omega) (by omega) (by decide) d_A_copyEntries_79 (fun H locs hP hD hS => ?_)
  have hP : va_P G cls0 [(q 2, .inr (0, [.ref (q 6), .ref (q 7), .ref (q 8), .ref (q 9), .ref (q 10), .ref (q 11)])), (q 8, .inl (z.1, 66, .inl (aI (uZ fsz pb (fsz pa))))), (q 9, .inl (z.1, 1584, .inl (aI (cZ frt (pa * 24 + 0) (pb * 24 + 0) (fsz pa))))), (q 10, .inl (z.1, 1584, .inl (aI (cZ fnt (pa * 24 + 0) (pb * 24 + 0) (fsz pa))))), (q 11, .inl (z.1, 1584, .inl (aI (cZ fco (pa * 24 + 0) (pb * 24 + 0) (fsz pa)))))] H := hP
  have hD : va_D A [(q 2, .inr (0, [.ref (q 6), .ref (q 7), .ref (q 8), .ref (q 9), .ref (q 10), .ref (q 11)])), (q 8, .inl (z.1, 66, .inl (aI (uZ fsz pb (fsz pa))))), (q 9, .inl (z.1, 1584, .inl (aI (cZ frt (pa * 24 + 0) (pb * 24 + 0) (fsz pa))))), (q 10, .inl (z.1, 1584, .inl (aI (cZ fnt (pa * 24 + 0) (pb * 24 + 0) (fsz pa))))), (q 11, .inl (z.1, 1584, .inl (aI (cZ fco (pa * 24 + 0) (pb * 24 + 0) (fsz pa)))))] := hD
  have hP9 : va_P G cls0 [(q 2, .inr (0, [.ref (q 6), .ref (q 7), .ref (q 8), .ref (q 9), .ref (q 10), .ref (q 11)])), (q 8, .inl (z.1, 66, .inl (aI (uZ fsz pb (fsz pa))))), (q 9, .inl (z.1, 1584, .inl (aI (cZ frt (pa * 24 + 0) (pb * 24 + 0) (fsz pa))))), (q 10, .inl (z.1, 1584, .inl (aI (cZ fnt (pa * 24 + 0) (pb * 24 + 0) (fsz pa))))), (q 11, .inl (z.1, 1584, .inl (aI (cZ fco (pa * 24 + 0) (pb * 24 + 0) (fsz pa)))))] H := hP.sub [0, 1, 2, 3, 4] rfl
  have hD9 : va_D A [(q 2, .inr (0, [.ref (q 6), .ref (q 7), .ref (q 8), .ref (q 9), .ref (q 10), .ref (q 11)])), (q 8, .inl (z.1, 66, .inl (aI (uZ fsz pb (fsz pa))))), (q 9, .inl (z.1, 1584, .inl (aI (cZ frt (pa * 24 + 0) (pb * 24 + 0) (fsz pa))))), (q 10, .inl (z.1, 1584, .inl (aI (cZ fnt (pa * 24 + 0) (pb * 24 + 0) (fsz pa))))), (q 11, .inl (z.1, 1584, .inl (aI (cZ fco (pa * 24 + 0) (pb * 24 + 0) (fsz pa)))))] := hD.sub [0, 1, 2, 3, 4] (by decide) rfl
  refine rv_vret hx hb hRt hlocks (Nat.le_of_ble_eq_true rfl) (Nat.le_of_ble_eq_true rfl) hP9 hD9 hS d_A_copyEntries_80 ?_
  exact rfl
