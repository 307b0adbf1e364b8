/-! The law's loop, and its start. -/
theorem rv_slen {p : Program} {l : Launch} {e : Env} {R : Room} {s : State} {m : MethodId} {args : Array Value} {below : List Frame} {meth : Method} {c : Code} {H : Heap} {locs : List Loc} {cells slots : Nat} {Q : State → Prop} {cc : ByteArray} {pc : Nat} {ls : Array Slot} {rest : List Value} {A : Nat → Prop} {H0 : Heap} (hexec : p.tables.exec = Jvm.exec) (hb : c.code = cc) {b L : Nat} {xs : Nat → Int32} (hX : va_X b L xs s H0) (hbl : b < H0.size) (hbA : ¬ A b) (hS : va_S A H0 H locs) (hdg : decode cc pc = .ok (.arraylength, 1))
    (kk : W p l e R s m args below meth c H locs cells slots Q (F0 m (pc + 1) ls (.int (iI (L : Int)) :: rest))) : W p l e R s m args below meth c H locs cells slots Q (F0 m pc ls (.ref b :: rest)) := by
  refine va_slen hexec hb hX hbl hbA hS hdg ?_
  rw [show Int32.ofNat L = iI (L : Int) from (iI_n L).symm]
  exact kk
theorem and31 (x : Int32) : 0 ≤ (x &&& iI 31).toInt ∧ (x &&& iI 31).toInt ≤ 31 := by
  have h : (x &&& iI 31).toBitVec.toNat ≤ 31 := by
    rw [Int32.toBitVec_and, BitVec.toNat_and]
    exact Nat.le_trans Nat.and_le_right (by decide +kernel)
  have e : (x &&& iI 31).toInt = ((x &&& iI 31).toBitVec.toNat : Int) := by
    show (x &&& iI 31).toBitVec.toInt = _
    exact BitVec.toInt_eq_toNat_of_lt (by omega)
  omega
set_option maxHeartbeats 4000000 in
set_option maxRecDepth 100000 in
theorem law_loop {p : Program} {l : Launch} {e : Env} {s : State} {m : MethodId} {below : List Frame} {meth : Method} {c : Code} {Q : State → Prop} {A : Nat → Prop} {b L : Nat} {xs : Nat → Int32} {X : Int → Int} {G : va_G} {z : tz3} {q w : Nat → Nat} {ou : Nat} (C : LC p l s m c A b L xs X G z) (KE : ∀ (H : Heap) (locs : List Loc) (ls : Array Slot), va_S A s.heap H locs → W p l e room_1 s m #[Value.ref b] below meth c H locs 1068 24268 Q (F0 m 1060 ls [])) :
    ∀ (n : Nat) (i gb : Int) (nc ns : Nat) (cd : Int) (F : Nat → Int64) (self : Int) (dO : Int) (dN : Int) (now : Int) (lm : Int) (go : Int) (fpo : Int → Int) (ffr : Int → Int) (pn : Int) (fn : Int) (fnu : Int → Int) (ftk : Int → Int) (fsz : Int → Int) (frt : Int → Int) (fnt : Int → Int) (fco : Int → Int) (fresh : Int) (fsu : Int → Int) (fsr : Int → Int) (fse : Int → Int) (it : Int) (mnow : Int) (gr : Int) (md : Int) (mO : Int) (ppo : Int → Int) (pfr : Int → Int) (pnu : Int → Int) (psi : Int → Int) (pcn : Int → Int) (prt : Int → Int) (pnt : Int → Int) (pco : Int → Int) (pus : Int → Int) (pfa : Int → Int) (H : Heap) (locs : List Loc) (ls : Array Slot), ((L : Int) - i).toNat < n → (1 ≤ i ∧ i ≤ (L : Int) + 3) → (1000000000 ≤ gb ∧ 4 * gb + ((L : Int) - i) ≤ 4001000000) → (nc ≤ 1068 ∧ 4 * (nc : Int) + 2 * ((L : Int) - i) ≤ 4272) → (ns ≤ 24268 ∧ 4 * (ns : Int) + 12 * ((L : Int) - i) ≤ 97072) → REL self dO dN now lm go fpo ffr pn fn fnu ftk fsz frt fnt fco fresh fsu fsr fse it mnow gr md mO ppo pfr pnu psi pcn prt pnt pco pus pfa gb → va_P G cls0 (WLD z q w ou cd F self dO dN now lm go fpo ffr pn fn fnu ftk fsz frt fnt fco fresh fsu fsr fse it mnow gr md mO ppo pfr pnu psi pcn prt pnt pco pus pfa) H → va_D A (WLD z q w ou cd F self dO dN now lm go fpo ffr pn fn fnu ftk fsz frt fnt fco fresh fsu fsr fse it mnow gr md mO ppo pfr pnu psi pcn prt pnt pco pus pfa) → va_S A s.heap H locs → lv_has ls 7 [(0, .ref b), (1, .ref (q 0)), (2, .ref (w 0)), (3, .ref ou), (4, .int (iI i))] → W p l e room_1 s m #[Value.ref b] below meth c H locs nc ns Q (F0 m 33 ls []) := by
  intro n
  induction n with
  | zero => intro i gb nc ns cd F self dO dN now lm go fpo ffr pn fn fnu ftk fsz frt fnt fco fresh fsu fsr fse it mnow gr md mO ppo pfr pnu psi pcn prt pnt pco pus pfa H locs ls hmu; exact absurd hmu (Nat.not_lt_zero _)
  | succ n ih =>
    intro i gb nc ns cd F self dO dN now lm go fpo ffr pn fn fnu ftk fsz frt fnt fco fresh fsu fsr fse it mnow gr md mO ppo pfr pnu psi pcn prt pnt pco pus pfa H locs ls hmu hi hgb hnc hns hR hP hD hS hl
    obtain ⟨hx, hb, hml, hown, hg, hE, hX, hNC, hlt, hXs, hbl, hL, hXi, rX, hA, hbA⟩ := id C
    refine lv_iload hx hb d_L_law_33 (lv_at hl 4 rfl) ?_
    refine lv_aload_n hx hb d_L_law_35 rfl (lv_at hl 0 rfl) ?_
    refine rv_slen hx hb hXs hbl hbA hS d_L_law_36 ?_
    refine lv_iconst (v := iI 4) hx hb d_L_law_37 rfl ?_
    refine rv_isub hx hb d_L_law_38 ?_
    refine rv_icmp_gt (tgt := 1060) hx hb d_L_law_39 (by decide) ⟨by omega, by omega⟩ ⟨by omega, by omega⟩ (fun h1 => ?_) (fun h1 => ?_)
    · exact W.widen hnc.1 hns.1 (KE H locs ls hS)
    · have hi' : 1 ≤ i ∧ i + 3 < (L : Int) := by omega
      have hgb' : 1000000000 ≤ gb ∧ gb ≤ 1000400000 := by omega
      have hn' : nc + 2 ≤ 1068 ∧ ns + 12 ≤ 24268 := by omega
      have K : KON p l e s m below meth c Q A b G z q w ou i gb nc ns := by
        clear hR hP hD hS hl
        intro cd F self dO dN now lm go fpo ffr pn fn fnu ftk fsz frt fnt fco fresh fsu fsr fse it mnow gr md mO ppo pfr pnu psi pcn prt pnt pco pus pfa H locs ls hR hP hD hS hl
        refine lv_iinc (v := iI (i + 4)) (lv' := [(4, .int (iI (i + 4))), (0, .ref b), (1, .ref (q 0)), (2, .ref (w 0)), (3, .ref ou)]) hx hb d_L_law_1054 hl (k := 4) rfl (iI_add _ _) (by decide) rfl (fun ls hl => ?_)
        refine lv_goto (tgt := 33) hx hb d_L_law_1057 (by decide) ?_
        exact ih (i + 4) (gb + 1) (nc + 2) (ns + 12) cd F self dO dN now lm go fpo ffr pn fn fnu ftk fsz frt fnt fco fresh fsu fsr fse it mnow gr md mO ppo pfr pnu psi pcn prt pnt pco pus pfa H locs ls (by omega) (by omega) (by omega) (by omega) (by omega) hR hP hD hS (lv_sub hl [1, 2, 3, 4, 0] rfl)
      refine lv_aload_n hx hb d_L_law_42 rfl (lv_at hl 0 rfl) ?_
      refine lv_iload hx hb d_L_law_43 (lv_at hl 4 rfl) ?_
      refine rv_sld hx hb hXs hbl hbA hS hXi (j := i) (by omega) (by omega) hL d_L_law_45 ?_
      refine lv_bipush (v := iI 31) hx hb d_L_law_46 (by decide +kernel) ?_
      refine lv_iand hx hb d_L_law_48 ?_
      have hv := and31 (iI (X i))
      by_cases h16 : 16 < (iI (X i) &&& iI 31).toInt
      · refine lv_tableOut (tgt := 1054) hx hb d_L_law_49 (Or.inr h16) (by decide) ?_
        exact W.widen (Nat.le_add_right _ _) (Nat.le_add_right _ _) (K cd F self dO dN now lm go fpo ffr pn fn fnu ftk fsz frt fnt fco fresh fsu fsr fse it mnow gr md mO ppo pfr pnu psi pcn prt pnt pco pus pfa H locs ls (REL_up hR) hP hD hS hl)
      · obtain ⟨k, hk⟩ : ∃ k : Nat, (iI (X i) &&& iI 31).toInt = (k : Int) := ⟨(iI (X i) &&& iI 31).toInt.toNat, by omega⟩
        have hk17 : k < 17 := by omega
        have hlo : ¬ (iI (X i) &&& iI 31).toInt < 0 := by omega
        match k, hk, hk17 with
        | 0, hk, _ => exact lv_tableIn (off := 83) (tgt := 132) hx hb d_L_law_49 hlo h16 (by rw [hk]; rfl) (by decide) (lc_port C hi' hgb' hn' hR hP hD hS hl K)
        | 1, hk, _ => exact lv_tableIn (off := 151) (tgt := 200) hx hb d_L_law_49 hlo h16 (by rw [hk]; rfl) (by decide) (lc_friend C hi' hgb' hn' hR hP hD hS hl K)
        | 2, hk, _ => exact lv_tableIn (off := 254) (tgt := 303) hx hb d_L_law_49 hlo h16 (by rw [hk]; rfl) (by decide) (lc_begin C hi' hgb' hn' hR hP hD hS hl K)
        | 3, hk, _ => exact lv_tableIn (off := 302) (tgt := 351) hx hb d_L_law_49 hlo h16 (by rw [hk]; rfl) (by decide) (lc_entry C hi' hgb' hn' hR hP hD hS hl K)
        | 4, hk, _ => exact lv_tableIn (off := 382) (tgt := 431) hx hb d_L_law_49 hlo h16 (by rw [hk]; rfl) (by decide) (lc_come C hi' hgb' hn' hR hP hD hS hl K)
        | 5, hk, _ => exact lv_tableIn (off := 426) (tgt := 475) hx hb d_L_law_49 hlo h16 (by rw [hk]; rfl) (by decide) (lc_pass C hi' hgb' hn' hR hP hD hS hl K)
        | 6, hk, _ => exact lv_tableIn (off := 482) (tgt := 531) hx hb d_L_law_49 hlo h16 (by rw [hk]; rfl) (by decide) (lc_make C hi' hgb' hn' hR hP hD hS hl K)
        | 7, hk, _ => exact lv_tableIn (off := 495) (tgt := 544) hx hb d_L_law_49 hlo h16 (by rw [hk]; rfl) (by decide) (lc_number C hi' hgb' hn' hR hP hD hS hl K)
        | 8, hk, _ => exact lv_tableIn (off := 551) (tgt := 600) hx hb d_L_law_49 hlo h16 (by rw [hk]; rfl) (by decide) (lc_told C hi' hgb' hn' hR hP hD hS hl K)
        | 9, hk, _ => exact lv_tableIn (off := 631) (tgt := 680) hx hb d_L_law_49 hlo h16 (by rw [hk]; rfl) (by decide) (lc_entries C hi' hgb' hn' hR hP hD hS hl K)
        | 10, hk, _ => exact lv_tableIn (off := 687) (tgt := 736) hx hb d_L_law_49 hlo h16 (by rw [hk]; rfl) (by decide) (lc_age C hi' hgb' hn' hR hP hD hS hl K)
        | 11, hk, _ => exact lv_tableIn (off := 743) (tgt := 792) hx hb d_L_law_49 hlo h16 (by rw [hk]; rfl) (by decide) (lc_distance C hi' hgb' hn' hR hP hD hS hl K)
        | 12, hk, _ => exact lv_tableIn (off := 799) (tgt := 848) hx hb d_L_law_49 hlo h16 (by rw [hk]; rfl) (by decide) (lc_cost C hi' hgb' hn' hR hP hD hS hl K)
        | 13, hk, _ => exact lv_tableIn (off := 855) (tgt := 904) hx hb d_L_law_49 hlo h16 (by rw [hk]; rfl) (by decide) (lc_firsts C hi' hgb' hn' hR hP hD hS hl K)
        | 14, hk, _ => exact lv_tableIn (off := 911) (tgt := 960) hx hb d_L_law_49 hlo h16 (by rw [hk]; rfl) (by decide) (lc_first C hi' hgb' hn' hR hP hD hS hl K)
        | 15, hk, _ => exact lv_tableIn (off := 979) (tgt := 1028) hx hb d_L_law_49 hlo h16 (by rw [hk]; rfl) (by decide) (lc_known C hi' hgb' hn' hR hP hD hS hl K)
        | 16, hk, _ => exact lv_tableIn (off := 992) (tgt := 1041) hx hb d_L_law_49 hlo h16 (by rw [hk]; rfl) (by decide) (lc_time C hi' hgb' hn' hR hP hD hS hl K)
        | n9 + 17, _, h9 => exact absurd h9 (by omega)
def Pcl (b L : Nat) (xs : Nat → Int32) (G : va_G) (z : tz3) (sz : Nat) : State → Prop := fun U => Pq G z sz [] U ∧ va_X b L xs U U.heap ∧ b < U.heap.size
theorem Pcl_blind (b L : Nat) (xs : Nat → Int32) (G : va_G) (z : tz3) (sz : Nat) (av : List Value) : FrameBlind (va_Pc av (Pcl b L xs G z sz)) := by
  intro a U g mk q
  obtain ⟨q0, q1, q2, q3⟩ := q
  obtain ⟨r0, r1⟩ := Pq_blind G z sz [] av a U g mk ⟨q0, q1⟩
  exact ⟨r0, r1, va_X.moved (u := U) (U := U.calling g mk a) (Vm.Alike.refl U.vm) q2, q3⟩
def cel (L : Nat) (X : Int → Int) : Int := if 0 < L then X 0 else 0
theorem cel_r {L : Nat} {X : Int → Int} (h : ∀ j : Int, inR (X j)) : inR (cel L X) := by
  unfold cel
  split
  · exact h 0
  · exact ⟨by decide, by decide⟩
theorem k_L_cell (l : Launch) (G : va_G) (z : tz3) {b L : Nat} {xs : Nat → Int32} {X : Int → Int} (hL : L ≤ 2049) (hXi : ∀ j : Int, iI (X j) = xs j.toNat) (sz : Nat) : Met l y_L_cell (.code y_L_cell c_L_cell 2 (some .int) :: gW) (rmD 0) (va_Pc [.ref b, .int (iI 0)] (Pcl b L xs G z sz)) (va_Qi (fun r u => u = [] ∧ r = iI (cel L X)) (Bq G (va_A [] sz)) (va_A [] sz)) 0 0 (va_A [] sz) := by
  refine Met.ofW (cc := c_L_cell) (maxL := 2) (ret := some .int) (by decide) rfl ?_
  intro p e s m args below meth c s₁ B hml hv
  obtain ⟨rfl, ⟨hsz, hE, hP, hD0⟩, hXs, hbl⟩ := hv
  subst hsz
  have hl := lv_entry [.ref b, .int (iI 0)] (n := 2) (Nat.le_of_ble_eq_true rfl)
  rw [lg_entry_eq]
  have hl : lv_has _ 2 [(0, .ref b), (1, .int (iI 0))] := hl
  have hx := B.exec
  have hb := B.bytes
  have hRt := B.returns
  have hlocks := B.notSynchronized
  have hbA : ¬ va_A [] s.heap.size b := by
    rintro (⟨k, e9, h⟩ | h)
    · simp at h
    · omega
  have hS : va_S (va_A [] s.heap.size) s.heap s.heap [] := va_S.rf
  have hD : va_D (va_A [] s.heap.size) [] := hD0.self
  refine lv_iload_n hx hb d_L_cell_0 rfl (lv_at hl 1 rfl) ?_
  refine lv_aload_n hx hb d_L_cell_1 rfl (lv_at hl 0 rfl) ?_
  refine rv_slen hx hb hXs hbl hbA hS d_L_cell_2 ?_
  refine rv_icmp_ge (tgt := 12) hx hb d_L_cell_3 (by decide) ⟨by decide, by decide⟩ ⟨by omega, by omega⟩ (fun h => ?_) (fun h => ?_)
  · refine lv_iconst (v := iI 0) hx hb d_L_cell_12 rfl ?_
    exact rv_iret (rm := rmD 0) hx hb hRt (nar_int _) hlocks (Nat.le_refl _) (Nat.le_refl _) hP hD hS d_L_cell_13 ⟨rfl, by unfold cel; rw [if_neg (by omega)]⟩
  · refine lv_aload_n hx hb d_L_cell_6 rfl (lv_at hl 0 rfl) ?_
    refine lv_iload_n hx hb d_L_cell_7 rfl (lv_at hl 1 rfl) ?_
    refine rv_sld hx hb hXs hbl hbA hS hXi (j := 0) (by omega) (by omega) hL d_L_cell_8 ?_
    refine lv_goto (tgt := 13) hx hb d_L_cell_9 (by decide) ?_
    exact rv_iret (rm := rmD 0) hx hb hRt (nar_int _) hlocks (Nat.le_refl _) (Nat.le_refl _) hP hD hS d_L_cell_13 ⟨rfl, by unfold cel; rw [if_pos (by omega)]⟩
theorem cell_call {p : Program} {l : Launch} {e : Env} {R : Room} {s : State} {m : MethodId} {args : Array Value} {below : List Frame} {meth : Method} {c : Code} {H : Heap} {locs : List Loc} {cells slots : Nat} {Q : State → Prop} {cc : ByteArray} {pc : Nat} {ls : Array Slot} {rest : List Value} {A : Nat → Prop} {b L nL : Nat} {xs : Nat → Int32} {X : Int → Int} {G : va_G} {z : tz3} {ws : va_W} (hx : p.tables.exec = Jvm.exec) (hb : c.code = cc) (hml : c.maxLocals = nL) (hown : s.vm.findClass R_L = some m.cls) (hg : ∀ w ∈ gW, w.before args s = true) (hE : EV G z s) (hXs : va_X b L xs s s.heap) (hbl : b < s.heap.size) (hbA : ¬ A b) (hL : L ≤ 2049) (hXi : ∀ j : Int, iI (X j) = xs j.toNat) (hA : ∀ q : Nat, s.heap.size ≤ q → A q) (hS : va_S A s.heap H locs) (hP : va_P G cls0 ws H) (hD : va_D A ws) (isR : List Nat) (hR : isR.map (fun i => ws[i]?) = ws.map some) (hnR : va_nd isR = true)
    (hRm : 0 + 1 ≤ R.frames ∧ 8 + (2 + 11) + 26 * 0 ≤ R.locals) (hls : ls.size = nL) (hrest : (rest.map fun v => v.category).sum ≤ 8) (hdg : decode cc pc = .ok (.invokestatic 63, 3)) (hf : cells + 0 ≤ R.cells ∧ slots + 0 ≤ R.slots)
    (kk : ∀ (H1 : Heap) (locs1 : List Loc), va_P G cls0 ws H1 → va_D A ws → va_S A s.heap H1 locs1 → W p l e R s m args below meth c H1 locs1 (cells + 0) (slots + 0) Q (F0 m (pc + 3) ls (.int (iI (cel L X)) :: rest))) : W p l e R s m args below meth c H locs cells slots Q (F0 m pc ls (.int (iI 0) :: .ref b :: rest)) := by
  have hPc : va_P G cls0 [] H := hP.sub' [] rfl
  have hDc : va_D A [] := hD.sub [] rfl rfl
  have hFc := va_free (wc := []) hD hS hA [] rfl
  refine va_calli (va_runS (As := [.ref b, .int (iI 0)]) (rest := rest) ⟨hx, hb, hml, hown, hg⟩ (k_L_cell l G z (X := X) hL hXi H.size) (va_cwS 2 hg (gI_S ml_L_63 st_L_cell in_L co_L_cell) rfl rfl rfl ok_L_cell hRm) ⟨Pcl_blind b L xs G z H.size _, fun U hU hW => ?_⟩ rfl rfl hls rfl (lv_room hrest) hdg hf) hS (fun q _ h => hFc q h) hFc (fun r u t H1 locs1 ht hvm hw hB hz1 hk1 hS1 => ?_)
  · obtain ⟨r0, r1⟩ := Pq_of (ws := ws) (av := [.ref b, .int (iI 0)]) hE hPc hDc U hU hW
    exact ⟨r0, r1, va_X.moved hW.alike (by rw [hU]; exact hXs.kept (hS.2.1 b hbl hbA)), by rw [hU]; exact Nat.lt_of_lt_of_le hbl hS.1⟩
  · obtain ⟨hP1, hD1⟩ := hB
    obtain ⟨rfl, rfl⟩ := hw
    rw [ht] at hP1
    obtain ⟨hP2, hD2⟩ := va_join (wr := ws) (w1 := []) hP hD [] isR rfl hR hnR (fun _ _ h => (by simp at h)) hk1 hFc hP1 hD1
    rw [List.append_nil] at hP2 hD2
    exact kk H1 locs1 hP2 hD2 hS1
abbrev z0 : Int → Int := fun _ => 0
theorem z0r {lo hi : Int} (h1 : lo ≤ 0) (h2 : 0 ≤ hi) : ∀ i : Int, lo ≤ z0 i ∧ z0 i ≤ hi := fun _ => ⟨h1, h2⟩
theorem cI_z (k : Int) (h : 0 ≤ k) : cI z0 k = 0 := cI_gp z0 (Int.le_refl 0) h (fun _ _ _ => rfl)
theorem REL_0 {sf sm : Int} {g : Int → Int} (hs : 0 ≤ sf ∧ sf < 64) (hm : sm = sf) (g1 : ∀ i : Int, 0 ≤ i → i < 66 → g i = -1) (g2 : ∀ i : Int, g i = -1 ∨ g i = 0) : REL sf (-1) 0 0 (-10) 0 z0 z0 0 0 g z0 z0 z0 z0 z0 0 z0 z0 z0 sm 0 0 (-10) 0 z0 z0 z0 z0 z0 z0 z0 z0 z0 z0 1000000000 := by
  have rg : RRg z0 z0 z0 z0 := ⟨z0r (by decide) (by decide), z0r (by decide) (by decide), z0r (by decide) (by decide), z0r (by decide) (by decide)⟩
  refine ⟨⟨⟨hs.1, hs.2, hm⟩, ⟨by decide, by decide, rfl⟩, ⟨by decide, by decide, rfl⟩, by decide, by decide, rfl⟩, ⟨by decide, by decide, Or.inl ⟨rfl, rfl⟩⟩, ?_, ⟨fun i => ?_, z0r (by decide) (by decide), z0r (by decide) (by decide), z0r (by decide) (by decide), fun r r0 r1 => Or.inl ⟨g1 r r0 (by omega), rfl, rfl⟩⟩, rg, rg, fun r _ _ => ROWE.zero rfl rfl, fun r _ _ => ROWK.zero rfl, ⟨Or.inl rfl, z0r (by decide) (by decide), z0r (by decide) (by decide), z0r (by decide) (by decide), z0r (by decide) (by decide), z0r (by decide) (by decide), fun h => absurd h (by decide)⟩⟩
  · refine ⟨z0r (by decide) (by decide), z0r (by decide) (by decide), z0r (by decide) (by decide), z0r (by decide) (by decide), fun _ _ _ => rfl, ⟨(cI_z 64 (by decide)).symm, by decide⟩, fun i j h0 h1 h2 => by omega, by decide, fun s => ⟨?_, ?_⟩, fun s _ _ h => absurd rfl h⟩
    · rintro ⟨i, h0, h1, -⟩
      omega
    · rintro ⟨-, -, h⟩
      exact absurd rfl h
  · have := g2 i
    omega
set_option maxHeartbeats 4000000 in
set_option maxRecDepth 100000 in
theorem law_start {p : Program} {l : Launch} {e : Env} {s : State} {m : MethodId} {below : List Frame} {meth : Method} {c : Code} {Q : State → Prop} {A : Nat → Prop} {b L : Nat} {xs : Nat → Int32} {X : Int → Int} {G : va_G} {z : tz3} {ls : Array Slot} (C : LC p l s m c A b L xs X G z) (hl : lv_has ls 7 [(0, .ref b)]) (KE : ∀ (H : Heap) (locs : List Loc) (ls : Array Slot), va_S A s.heap H locs → W p l e room_1 s m #[Value.ref b] below meth c H locs 1068 24268 Q (F0 m 1060 ls [])) : W p l e room_1 s m #[Value.ref b] below meth c s.heap [] 0 0 Q (F0 m 0 ls []) := by
  obtain ⟨hx, hb, hml, hown, hg, hE, hX, hNC, hlt, hXs, hbl, hL, hXi, rX, hA, hbA⟩ := id C
  obtain ⟨H, hH⟩ : ∃ H, H = s.heap := ⟨_, rfl⟩
  have hS : va_S A s.heap H [] := by rw [hH]; exact va_S.rf
  rw [← hH]
  have hP : va_P G cls0 [] H := fun k q h => (by simp at h)
  have hD : va_D A [] := ⟨fun i j p q h => (by simp at h), fun k q h => (by simp at h)⟩
  refine va_new (ci := 3) (fs := [.int (iI 0), .null, .null, .null, .int (iI 0), .int (iI 0), .int (iI 0), .int (iI 0), .int (iI 0)]) (C := R_B) (T := T_B) (N := 9) hx hb hg iw_B ty_B ty_B_ok hown (hg _ cl_L_8) (hg _ it_B) (hg _ in_B) hE.1 hP hD hS hA rfl (fun j hj => by rcases (show j = 0 ∨ j = 1 ∨ j = 2 ∨ j = 3 ∨ j = 4 ∨ j = 5 ∨ j = 6 ∨ j = 7 ∨ j = 8 by omega) with rfl | rfl | rfl | rfl | rfl | rfl | rfl | rfl | rfl <;> rfl) (Nat.le_of_ble_eq_true rfl) (Nat.le_of_ble_eq_true rfl) d_L_law_0 (fun a0 H hP hD hS => ?_)
  have hP : va_P G cls0 [(a0, .inr (3, [.int (iI 0), .null, .null, .null, .int (iI 0), .int (iI 0), .int (iI 0), .int (iI 0), .int (iI 0)]))] H := hP
  have hD : va_D A [(a0, .inr (3, [.int (iI 0), .null, .null, .null, .int (iI 0), .int (iI 0), .int (iI 0), .int (iI 0), .int (iI 0)]))] := hD
  refine lv_dup hx hb d_L_law_3 rfl ?_
  refine lv_aload_n hx hb d_L_law_4 rfl (lv_at hl 0 rfl) ?_
  refine lv_iconst (v := iI 0) hx hb d_L_law_5 rfl ?_
  refine cell_call (rest := [.ref a0, .ref a0]) hx hb hml hown hg hE hXs hbl hbA hL hXi hA hS hP hD [0] rfl (by decide) ⟨Nat.le_of_ble_eq_true rfl, Nat.le_of_ble_eq_true rfl⟩ hl.1 (Nat.le_of_ble_eq_true rfl) d_L_law_6 ⟨Nat.le_of_ble_eq_true rfl, Nat.le_of_ble_eq_true rfl⟩ (fun H locs hP hD hS => ?_)
  refine qI_v (As := [.int (iI (cel L X))]) (rest := [.ref a0]) (wr := []) hx hb hml hown hg hE hA hS hP hD (k_B_init l G z a0 (cel L X) (cel_r rX)) [0] [] rfl rfl (by decide) (by decide) (by decide) ml_L_69 im_B_init rfl in_B co_B_init ok_B_init ⟨Nat.le_of_ble_eq_true rfl, Nat.le_of_ble_eq_true rfl⟩ hl.1 rfl (Nat.le_of_ble_eq_true rfl) d_L_law_9 ⟨Nat.le_of_ble_eq_true rfl, Nat.le_of_ble_eq_true rfl⟩ (fun u9 H locs hw hP hD hS => ?_)
  obtain ⟨sf, g, q1, q2, q3, q4, q5, q6, q7, q8, q9, q10, q11, q12, q13, q14, rfl, f0, f1, f2⟩ := hw
  have hP : va_P G cls0 [(a0, .inr (3, [.int (iI sf), .ref q1, .ref q2, .ref q3, .int (iI ((-1))), .int (iI 0), .int (iI 0), .int (iI ((-10))), .int (iI 0)])), (q1, .inr (1, [.ref q4, .ref q5, .int (iI 0), .int (iI 0)])), (q2, .inr (0, [.ref q6, .ref q7, .ref q8, .ref q9, .ref q10, .ref q11])), (q3, .inr (2, [.ref q2, .int (iI sf), .ref q12, .ref q13, .ref q14, .int (iI 0)])), (q4, .inl (z.1, 64, .inl (aI (fun _ => 0)))), (q5, .inl (z.1, 16, .inl (aI (fun _ => 0)))), (q6, .inl (z.1, 66, .inl (aI g))), (q7, .inl (z.1, 66, .inl (aI (fun _ => 0)))), (q8, .inl (z.1, 66, .inl (aI (fun _ => 0)))), (q9, .inl (z.1, 1584, .inl (aI (fun _ => 0)))), (q10, .inl (z.1, 1584, .inl (aI (fun _ => 0)))), (q11, .inl (z.1, 1584, .inl (aI (fun _ => 0)))), (q12, .inl (z.1, 64, .inl (aI (fun _ => 0)))), (q13, .inl (z.1, 64, .inl (aI (fun _ => 0)))), (q14, .inl (z.2.1, 64, .inl (aI (fun _ => 0))))] H := hP
  have hD : va_D A [(a0, .inr (3, [.int (iI sf), .ref q1, .ref q2, .ref q3, .int (iI ((-1))), .int (iI 0), .int (iI 0), .int (iI ((-10))), .int (iI 0)])), (q1, .inr (1, [.ref q4, .ref q5, .int (iI 0), .int (iI 0)])), (q2, .inr (0, [.ref q6, .ref q7, .ref q8, .ref q9, .ref q10, .ref q11])), (q3, .inr (2, [.ref q2, .int (iI sf), .ref q12, .ref q13, .ref q14, .int (iI 0)])), (q4, .inl (z.1, 64, .inl (aI (fun _ => 0)))), (q5, .inl (z.1, 16, .inl (aI (fun _ => 0)))), (q6, .inl (z.1, 66, .inl (aI g))), (q7, .inl (z.1, 66, .inl (aI (fun _ => 0)))), (q8, .inl (z.1, 66, .inl (aI (fun _ => 0)))), (q9, .inl (z.1, 1584, .inl (aI (fun _ => 0)))), (q10, .inl (z.1, 1584, .inl (aI (fun _ => 0)))), (q11, .inl (z.1, 1584, .inl (aI (fun _ => 0)))), (q12, .inl (z.1, 64, .inl (aI (fun _ => 0)))), (q13, .inl (z.1, 64, .inl (aI (fun _ => 0)))), (q14, .inl (z.2.1, 64, .inl (aI (fun _ => 0))))] := hD
  refine lv_astore_n (lv' := [(1, .ref a0), (0, .ref b)]) hx hb d_L_law_12 rfl hl (by decide) rfl (fun ls hl => ?_)
  refine va_new (ci := 4) (fs := [.int (iI 0), .int (iI 0), .int (iI 0), .null, .null, .int (iI 0), .int (iI 0), .null, .null, .null, .null, .null, .null, .int (iI 0), .null, .null]) (C := R_M) (T := T_M) (N := 16) hx hb hg iw_M ty_M ty_M_ok hown (hg _ cl_L_72) (hg _ it_M) (hg _ in_M) hE.1 hP hD hS hA rfl (fun j hj => by rcases (show j = 0 ∨ j = 1 ∨ j = 2 ∨ j = 3 ∨ j = 4 ∨ j = 5 ∨ j = 6 ∨ j = 7 ∨ j = 8 ∨ j = 9 ∨ j = 10 ∨ j = 11 ∨ j = 12 ∨ j = 13 ∨ j = 14 ∨ j = 15 by omega) with rfl | rfl | rfl | rfl | rfl | rfl | rfl | rfl | rfl | rfl | rfl | rfl | rfl | rfl | rfl | rfl <;> rfl) (Nat.le_of_ble_eq_true rfl) (Nat.le_of_ble_eq_true rfl) d_L_law_13 (fun a1 H hP hD hS => ?_)
  have hP : va_P G cls0 [(a0, .inr (3, [.int (iI sf), .ref q1, .ref q2, .ref q3, .int (iI ((-1))), .int (iI 0), .int (iI 0), .int (iI ((-10))), .int (iI 0)])), (q1, .inr (1, [.ref q4, .ref q5, .int (iI 0), .int (iI 0)])), (q2, .inr (0, [.ref q6, .ref q7, .ref q8, .ref q9, .ref q10, .ref q11])), (q3, .inr (2, [.ref q2, .int (iI sf), .ref q12, .ref q13, .ref q14, .int (iI 0)])), (q4, .inl (z.1, 64, .inl (aI (fun _ => 0)))), (q5, .inl (z.1, 16, .inl (aI (fun _ => 0)))), (q6, .inl (z.1, 66, .inl (aI g))), (q7, .inl (z.1, 66, .inl (aI (fun _ => 0)))), (q8, .inl (z.1, 66, .inl (aI (fun _ => 0)))), (q9, .inl (z.1, 1584, .inl (aI (fun _ => 0)))), (q10, .inl (z.1, 1584, .inl (aI (fun _ => 0)))), (q11, .inl (z.1, 1584, .inl (aI (fun _ => 0)))), (q12, .inl (z.1, 64, .inl (aI (fun _ => 0)))), (q13, .inl (z.1, 64, .inl (aI (fun _ => 0)))), (q14, .inl (z.2.1, 64, .inl (aI (fun _ => 0)))), (a1, .inr (4, [.int (iI 0), .int (iI 0), .int (iI 0), .null, .null, .int (iI 0), .int (iI 0), .null, .null, .null, .null, .null, .null, .int (iI 0), .null, .null]))] H := hP
  have hD : va_D A [(a0, .inr (3, [.int (iI sf), .ref q1, .ref q2, .ref q3, .int (iI ((-1))), .int (iI 0), .int (iI 0), .int (iI ((-10))), .int (iI 0)])), (q1, .inr (1, [.ref q4, .ref q5, .int (iI 0), .int (iI 0)])), (q2, .inr (0, [.ref q6, .ref q7, .ref q8, .ref q9, .ref q10, .ref q11])), (q3, .inr (2, [.ref q2, .int (iI sf), .ref q12, .ref q13, .ref q14, .int (iI 0)])), (q4, .inl (z.1, 64, .inl (aI (fun _ => 0)))), (q5, .inl (z.1, 16, .inl (aI (fun _ => 0)))), (q6, .inl (z.1, 66, .inl (aI g))), (q7, .inl (z.1, 66, .inl (aI (fun _ => 0)))), (q8, .inl (z.1, 66, .inl (aI (fun _ => 0)))), (q9, .inl (z.1, 1584, .inl (aI (fun _ => 0)))), (q10, .inl (z.1, 1584, .inl (aI (fun _ => 0)))), (q11, .inl (z.1, 1584, .inl (aI (fun _ => 0)))), (q12, .inl (z.1, 64, .inl (aI (fun _ => 0)))), (q13, .inl (z.1, 64, .inl (aI (fun _ => 0)))), (q14, .inl (z.2.1, 64, .inl (aI (fun _ => 0)))), (a1, .inr (4, [.int (iI 0), .int (iI 0), .int (iI 0), .null, .null, .int (iI 0), .int (iI 0), .null, .null, .null, .null, .null, .null, .int (iI 0), .null, .null]))] := hD
  refine lv_dup hx hb d_L_law_16 rfl ?_
  refine lv_aload_n hx hb d_L_law_17 rfl (lv_at hl 1 rfl) ?_
  refine lv_iconst (v := iI 0) hx hb d_L_law_18 rfl ?_
  refine cell_call (rest := [.ref a1, .ref a1]) hx hb hml hown hg hE hXs hbl hbA hL hXi hA hS hP hD [0, 1, 2, 3, 4, 5, 6, 7, 8, 9, 10, 11, 12, 13, 14, 15] rfl (by decide) ⟨Nat.le_of_ble_eq_true rfl, Nat.le_of_ble_eq_true rfl⟩ hl.1 (Nat.le_of_ble_eq_true rfl) d_L_law_19 ⟨Nat.le_of_ble_eq_true rfl, Nat.le_of_ble_eq_true rfl⟩ (fun H locs hP hD hS => ?_)
  refine qI_v (As := [.int (iI (cel L X))]) (rest := [.ref a1]) (wr := [(a0, .inr (3, [.int (iI sf), .ref q1, .ref q2, .ref q3, .int (iI ((-1))), .int (iI 0), .int (iI 0), .int (iI ((-10))), .int (iI 0)])), (q1, .inr (1, [.ref q4, .ref q5, .int (iI 0), .int (iI 0)])), (q2, .inr (0, [.ref q6, .ref q7, .ref q8, .ref q9, .ref q10, .ref q11])), (q3, .inr (2, [.ref q2, .int (iI sf), .ref q12, .ref q13, .ref q14, .int (iI 0)])), (q4, .inl (z.1, 64, .inl (aI (fun _ => 0)))), (q5, .inl (z.1, 16, .inl (aI (fun _ => 0)))), (q6, .inl (z.1, 66, .inl (aI g))), (q7, .inl (z.1, 66, .inl (aI (fun _ => 0)))), (q8, .inl (z.1, 66, .inl (aI (fun _ => 0)))), (q9, .inl (z.1, 1584, .inl (aI (fun _ => 0)))), (q10, .inl (z.1, 1584, .inl (aI (fun _ => 0)))), (q11, .inl (z.1, 1584, .inl (aI (fun _ => 0)))), (q12, .inl (z.1, 64, .inl (aI (fun _ => 0)))), (q13, .inl (z.1, 64, .inl (aI (fun _ => 0)))), (q14, .inl (z.2.1, 64, .inl (aI (fun _ => 0))))]) hx hb hml hown hg hE hA hS hP hD (k_M_init l G z a1 (cel L X) (cel_r rX)) [15] [0, 1, 2, 3, 4, 5, 6, 7, 8, 9, 10, 11, 12, 13, 14] rfl rfl (by decide) (by decide) (by decide) ml_L_74 im_M_init rfl in_M co_M_init ok_M_init ⟨Nat.le_of_ble_eq_true rfl, Nat.le_of_ble_eq_true rfl⟩ hl.1 rfl (Nat.le_of_ble_eq_true rfl) d_L_law_22 ⟨Nat.le_of_ble_eq_true rfl, Nat.le_of_ble_eq_true rfl⟩ (fun u9 H locs hw hP hD hS => ?_)
  obtain ⟨sm, w1, w2, w3, w4, w5, w6, w7, w8, w9, w10, rfl, f3⟩ := hw
  have hP : va_P G cls0 [(a0, .inr (3, [.int (iI sf), .ref q1, .ref q2, .ref q3, .int (iI ((-1))), .int (iI 0), .int (iI 0), .int (iI ((-10))), .int (iI 0)])), (q1, .inr (1, [.ref q4, .ref q5, .int (iI 0), .int (iI 0)])), (q2, .inr (0, [.ref q6, .ref q7, .ref q8, .ref q9, .ref q10, .ref q11])), (q3, .inr (2, [.ref q2, .int (iI sf), .ref q12, .ref q13, .ref q14, .int (iI 0)])), (q4, .inl (z.1, 64, .inl (aI (fun _ => 0)))), (q5, .inl (z.1, 16, .inl (aI (fun _ => 0)))), (q6, .inl (z.1, 66, .inl (aI g))), (q7, .inl (z.1, 66, .inl (aI (fun _ => 0)))), (q8, .inl (z.1, 66, .inl (aI (fun _ => 0)))), (q9, .inl (z.1, 1584, .inl (aI (fun _ => 0)))), (q10, .inl (z.1, 1584, .inl (aI (fun _ => 0)))), (q11, .inl (z.1, 1584, .inl (aI (fun _ => 0)))), (q12, .inl (z.1, 64, .inl (aI (fun _ => 0)))), (q13, .inl (z.1, 64, .inl (aI (fun _ => 0)))), (q14, .inl (z.2.1, 64, .inl (aI (fun _ => 0)))), (a1, .inr (4, [.int (iI sm), .int (iI 0), .int (iI 0), .ref w1, .ref w2, .int (iI 0), .int (iI ((-10))), .ref w3, .ref w4, .ref w5, .ref w6, .ref w7, .ref w8, .int (iI 0), .ref w9, .ref w10])), (w1, .inl (z.1, 64, .inl (aI (fun _ => 0)))), (w2, .inl (z.2.1, 4096, .inl (aI (fun _ => 0)))), (w3, .inl (z.1, 66, .inl (aI (fun _ => 0)))), (w4, .inl (z.1, 66, .inl (aI (fun _ => 0)))), (w5, .inl (z.1, 66, .inl (aI (fun _ => 0)))), (w6, .inl (z.1, 1584, .inl (aI (fun _ => 0)))), (w7, .inl (z.1, 1584, .inl (aI (fun _ => 0)))), (w8, .inl (z.1, 1584, .inl (aI (fun _ => 0)))), (w9, .inl (z.2.1, 1536, .inl (aI (fun _ => 0)))), (w10, .inl (z.1, 64, .inl (aI (fun _ => 0))))] H := hP
  have hD : va_D A [(a0, .inr (3, [.int (iI sf), .ref q1, .ref q2, .ref q3, .int (iI ((-1))), .int (iI 0), .int (iI 0), .int (iI ((-10))), .int (iI 0)])), (q1, .inr (1, [.ref q4, .ref q5, .int (iI 0), .int (iI 0)])), (q2, .inr (0, [.ref q6, .ref q7, .ref q8, .ref q9, .ref q10, .ref q11])), (q3, .inr (2, [.ref q2, .int (iI sf), .ref q12, .ref q13, .ref q14, .int (iI 0)])), (q4, .inl (z.1, 64, .inl (aI (fun _ => 0)))), (q5, .inl (z.1, 16, .inl (aI (fun _ => 0)))), (q6, .inl (z.1, 66, .inl (aI g))), (q7, .inl (z.1, 66, .inl (aI (fun _ => 0)))), (q8, .inl (z.1, 66, .inl (aI (fun _ => 0)))), (q9, .inl (z.1, 1584, .inl (aI (fun _ => 0)))), (q10, .inl (z.1, 1584, .inl (aI (fun _ => 0)))), (q11, .inl (z.1, 1584, .inl (aI (fun _ => 0)))), (q12, .inl (z.1, 64, .inl (aI (fun _ => 0)))), (q13, .inl (z.1, 64, .inl (aI (fun _ => 0)))), (q14, .inl (z.2.1, 64, .inl (aI (fun _ => 0)))), (a1, .inr (4, [.int (iI sm), .int (iI 0), .int (iI 0), .ref w1, .ref w2, .int (iI 0), .int (iI ((-10))), .ref w3, .ref w4, .ref w5, .ref w6, .ref w7, .ref w8, .int (iI 0), .ref w9, .ref w10])), (w1, .inl (z.1, 64, .inl (aI (fun _ => 0)))), (w2, .inl (z.2.1, 4096, .inl (aI (fun _ => 0)))), (w3, .inl (z.1, 66, .inl (aI (fun _ => 0)))), (w4, .inl (z.1, 66, .inl (aI (fun _ => 0)))), (w5, .inl (z.1, 66, .inl (aI (fun _ => 0)))), (w6, .inl (z.1, 1584, .inl (aI (fun _ => 0)))), (w7, .inl (z.1, 1584, .inl (aI (fun _ => 0)))), (w8, .inl (z.1, 1584, .inl (aI (fun _ => 0)))), (w9, .inl (z.2.1, 1536, .inl (aI (fun _ => 0)))), (w10, .inl (z.1, 64, .inl (aI (fun _ => 0))))] := hD
  refine lv_astore_n (lv' := [(2, .ref a1), (1, .ref a0), (0, .ref b)]) hx hb d_L_law_25 rfl hl (by decide) rfl (fun ls hl => ?_)
  refine lv_iconst (v := iI 1) hx hb d_L_law_26 rfl ?_
  refine rv_newaJ hx hb hg hE hP hD hS hA (N := 1) rfl (by decide) (Nat.le_of_ble_eq_true rfl) (Nat.le_of_ble_eq_true rfl) d_L_law_27 (fun ou H hP hD hS => ?_)
  have hP : va_P G cls0 [(a0, .inr (3, [.int (iI sf), .ref q1, .ref q2, .ref q3, .int (iI ((-1))), .int (iI 0), .int (iI 0), .int (iI ((-10))), .int (iI 0)])), (q1, .inr (1, [.ref q4, .ref q5, .int (iI 0), .int (iI 0)])), (q2, .inr (0, [.ref q6, .ref q7, .ref q8, .ref q9, .ref q10, .ref q11])), (q3, .inr (2, [.ref q2, .int (iI sf), .ref q12, .ref q13, .ref q14, .int (iI 0)])), (q4, .inl (z.1, 64, .inl (aI (fun _ => 0)))), (q5, .inl (z.1, 16, .inl (aI (fun _ => 0)))), (q6, .inl (z.1, 66, .inl (aI g))), (q7, .inl (z.1, 66, .inl (aI (fun _ => 0)))), (q8, .inl (z.1, 66, .inl (aI (fun _ => 0)))), (q9, .inl (z.1, 1584, .inl (aI (fun _ => 0)))), (q10, .inl (z.1, 1584, .inl (aI (fun _ => 0)))), (q11, .inl (z.1, 1584, .inl (aI (fun _ => 0)))), (q12, .inl (z.1, 64, .inl (aI (fun _ => 0)))), (q13, .inl (z.1, 64, .inl (aI (fun _ => 0)))), (q14, .inl (z.2.1, 64, .inl (aI (fun _ => 0)))), (a1, .inr (4, [.int (iI sm), .int (iI 0), .int (iI 0), .ref w1, .ref w2, .int (iI 0), .int (iI ((-10))), .ref w3, .ref w4, .ref w5, .ref w6, .ref w7, .ref w8, .int (iI 0), .ref w9, .ref w10])), (w1, .inl (z.1, 64, .inl (aI (fun _ => 0)))), (w2, .inl (z.2.1, 4096, .inl (aI (fun _ => 0)))), (w3, .inl (z.1, 66, .inl (aI (fun _ => 0)))), (w4, .inl (z.1, 66, .inl (aI (fun _ => 0)))), (w5, .inl (z.1, 66, .inl (aI (fun _ => 0)))), (w6, .inl (z.1, 1584, .inl (aI (fun _ => 0)))), (w7, .inl (z.1, 1584, .inl (aI (fun _ => 0)))), (w8, .inl (z.1, 1584, .inl (aI (fun _ => 0)))), (w9, .inl (z.2.1, 1536, .inl (aI (fun _ => 0)))), (w10, .inl (z.1, 64, .inl (aI (fun _ => 0)))), (ou, .inl (z.2.2, 1, .inr (.inl (fun _ => 0))))] H := hP
  have hD : va_D A [(a0, .inr (3, [.int (iI sf), .ref q1, .ref q2, .ref q3, .int (iI ((-1))), .int (iI 0), .int (iI 0), .int (iI ((-10))), .int (iI 0)])), (q1, .inr (1, [.ref q4, .ref q5, .int (iI 0), .int (iI 0)])), (q2, .inr (0, [.ref q6, .ref q7, .ref q8, .ref q9, .ref q10, .ref q11])), (q3, .inr (2, [.ref q2, .int (iI sf), .ref q12, .ref q13, .ref q14, .int (iI 0)])), (q4, .inl (z.1, 64, .inl (aI (fun _ => 0)))), (q5, .inl (z.1, 16, .inl (aI (fun _ => 0)))), (q6, .inl (z.1, 66, .inl (aI g))), (q7, .inl (z.1, 66, .inl (aI (fun _ => 0)))), (q8, .inl (z.1, 66, .inl (aI (fun _ => 0)))), (q9, .inl (z.1, 1584, .inl (aI (fun _ => 0)))), (q10, .inl (z.1, 1584, .inl (aI (fun _ => 0)))), (q11, .inl (z.1, 1584, .inl (aI (fun _ => 0)))), (q12, .inl (z.1, 64, .inl (aI (fun _ => 0)))), (q13, .inl (z.1, 64, .inl (aI (fun _ => 0)))), (q14, .inl (z.2.1, 64, .inl (aI (fun _ => 0)))), (a1, .inr (4, [.int (iI sm), .int (iI 0), .int (iI 0), .ref w1, .ref w2, .int (iI 0), .int (iI ((-10))), .ref w3, .ref w4, .ref w5, .ref w6, .ref w7, .ref w8, .int (iI 0), .ref w9, .ref w10])), (w1, .inl (z.1, 64, .inl (aI (fun _ => 0)))), (w2, .inl (z.2.1, 4096, .inl (aI (fun _ => 0)))), (w3, .inl (z.1, 66, .inl (aI (fun _ => 0)))), (w4, .inl (z.1, 66, .inl (aI (fun _ => 0)))), (w5, .inl (z.1, 66, .inl (aI (fun _ => 0)))), (w6, .inl (z.1, 1584, .inl (aI (fun _ => 0)))), (w7, .inl (z.1, 1584, .inl (aI (fun _ => 0)))), (w8, .inl (z.1, 1584, .inl (aI (fun _ => 0)))), (w9, .inl (z.2.1, 1536, .inl (aI (fun _ => 0)))), (w10, .inl (z.1, 64, .inl (aI (fun _ => 0)))), (ou, .inl (z.2.2, 1, .inr (.inl (fun _ => 0))))] := hD
  refine lv_astore_n (lv' := [(3, .ref ou), (2, .ref a1), (1, .ref a0), (0, .ref b)]) hx hb d_L_law_29 rfl hl (by decide) rfl (fun ls hl => ?_)
  refine lv_iconst (v := iI 1) hx hb d_L_law_30 rfl ?_
  refine lv_istore (lv' := [(4, .int (iI 1)), (3, .ref ou), (2, .ref a1), (1, .ref a0), (0, .ref b)]) hx hb d_L_law_31 hl (by decide) rfl (fun ls hl => ?_)
  have hs0 : 0 ≤ sf ∧ sf < 64 ∧ sm = sf := (by rcases f0 with ⟨h1, h2, h3⟩ | ⟨h1, h2⟩ <;> rcases f3 with ⟨h4, h5, h6⟩ | ⟨h4, h5⟩ <;> omega)
  exact law_loop (q := (fun n => [a0, q1, q2, q3, q4, q5, q6, q7, q8, q9, q10, q11, q12, q13, q14].getD n 0)) (w := (fun n => [a1, w1, w2, w3, w4, w5, w6, w7, w8, w9, w10].getD n 0)) (ou := ou) C KE (((L : Int) - 1).toNat + 1) 1 1000000000 27 15974 0 (fun _ => 0) sf ((-1)) 0 0 ((-10)) 0 z0 z0 0 0 g z0 z0 z0 z0 z0 0 z0 z0 z0 sm 0 0 ((-10)) 0 z0 z0 z0 z0 z0 z0 z0 z0 z0 z0 H _ ls (Nat.lt_succ_self _) (by omega) (by omega) (by omega) (by omega) (REL_0 ⟨hs0.1, hs0.2.1⟩ hs0.2.2 f1 f2) (hP.sub [0, 1, 4, 5, 2, 6, 7, 8, 9, 10, 11, 3, 12, 13, 14, 15, 16, 17, 18, 19, 20, 21, 22, 23, 24, 25, 26] rfl) (hD.sub [0, 1, 4, 5, 2, 6, 7, 8, 9, 10, 11, 3, 12, 13, 14, 15, 16, 17, 18, 19, 20, 21, 22, 23, 24, 25, 26] (by decide) rfl) hS (lv_sub hl [4, 3, 2, 1, 0] rfl)
