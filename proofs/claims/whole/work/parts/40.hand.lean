/-! The law's helpers: bodies with handlers. -/
def NC (U : State) : Prop := va_Nc eIS eIA U ∧ va_Nc eIO eIA U
def Pz (G : va_G) (z : tz3) (sz : Nat) (ws : va_W) : State → Prop := fun U => Px G z sz ws U ∧ NC U
theorem Pz_blind (G : va_G) (z : tz3) (sz : Nat) (ws : va_W) (av : List Value) : FrameBlind (va_Pc av (Pz G z sz ws)) := by
  intro a U g mk q
  obtain ⟨q0, q1, q2, q3⟩ := q
  obtain ⟨r0, r1⟩ := Px_blind G z sz ws av a U g mk ⟨q0, q1⟩
  exact ⟨r0, r1, va_Nc.moved (u := U) (U := U.calling g mk a) (Vm.Alike.refl U.vm) q2, va_Nc.moved (u := U) (U := U.calling g mk a) (Vm.Alike.refl U.vm) q3⟩
theorem Pz_of {G : va_G} {z : tz3} {wc : va_W} {s : State} {H : Heap} {A : Nat → Prop} {locs : List Loc} {av : List Value} (hE : EV G z s) (hX : XV A s) (hNC : NC s) (hS : va_S A s.heap H locs) (hF : ∀ q, va_A wc H.size q → A q) (hP : va_P G cls0 wc H) (hD : va_D A wc) : ∀ U : State, U.heap = H → s.WarmedH U.vm → va_Pc av (Pz G z H.size wc) av.toArray U := by
  intro U hU hW
  obtain ⟨r0, r1⟩ := Px_of (av := av) hE hX hS hF hP hD U hU hW
  exact ⟨r0, r1, va_Nc.moved hW.alike hNC.1, va_Nc.moved hW.alike hNC.2⟩
def Hi (l : Launch) (y : MethodName) (cc : ByteArray) (n : Nat) (ret : Option FieldType) (hh : List (Nat × Nat × Nat × Nat)) (rm : Room) (G : va_G) (z : tz3) (av : List Value) (ws : va_W) (post : Int32 → va_W → Prop) : Prop :=
  ∀ sz : Nat, Met l y (.codeWith y cc n ret hh :: gW) rm (va_Pc av (Pz G z sz ws)) (va_Qi post (Bq G (va_A ws sz)) (va_A ws sz)) rm.cells rm.slots (va_A ws sz)
theorem gW_ofW {y : MethodName} {cc : ByteArray} {n : Nat} {ret : Option FieldType} {hh : List (Nat × Nat × Nat × Nat)} {s : State} {args : Array Value} (h : ∀ w ∈ (Cond.codeWith y cc n ret hh :: gW), w.before args s = true) : ∀ w ∈ gW, w.before args s = true := fun w hw => h w (List.mem_cons_of_mem _ hw)
theorem Hi.of {l : Launch} {y : MethodName} {cc : ByteArray} {n : Nat} {ret : Option FieldType} {hh : List (Nat × Nat × Nat × Nat)} {rm : Room} {G : va_G} {z : tz3} {av : List Value} {ws : va_W} {post : Int32 → va_W → Prop} (hy : plainName y.cls = true) (hn : (lg_sl av).length ≤ n)
    (body : ∀ (p : Program) (e : Env) (s : State) (m : MethodId) (below : List Frame) (meth : Method) (c : Code) (A : Nat → Prop), Bd p s m meth c y cc n ret G z av A → XV A s → NC s → c.exceptionTable.toList = tableOf hh → va_P G cls0 ws s.heap → va_D A ws → ∀ ls : Array Slot, lv_has ls n (lv_args 0 av) →
      W p l e rm s m av.toArray below meth c s.heap [] 0 0 (Zi below av.toArray s rm G A post) (F0 m 0 ls [])) : Hi l y cc n ret hh rm G z av ws post := by
  intro sz
  refine va_MetW (cc := cc) (maxL := n) (ret := ret) (hh := hh) hy rfl ?_
  intro p e s m args below meth c s₁ B hml hv
  have htab := vx_table (x := y) B (atoms_spec B.pre _ List.mem_cons_self)
  obtain ⟨rfl, ⟨⟨hsz, hE, hP, hD0⟩, hX⟩, hNC⟩ := hv
  subst hsz
  have hl := lv_entry av (n := n) hn
  rw [lg_entry_eq]
  exact body p e s m below meth c _ ⟨B.exec, B.bytes, B.returns, hml, findClass_of_methodNamed B.named, B.notSynchronized, gW_ofW (atoms_spec B.pre), hE, fun q h => Or.inr h, (name_of_methodNamed B.named B.method).1⟩ hX hNC htab hP hD0.self _ hl
theorem gI_cW {y : MethodName} {bytes : ByteArray} {maxL : Nat} {ret : Option FieldType} {hh : List (Nat × Nat × Nat × Nat)} (m5 : Cond.codeWith y bytes maxL ret hh ∈ gW) : GoodIn gW (Cond.codeWith y bytes maxL ret hh :: gW) := by
  intro w hw
  rcases List.mem_cons.mp hw with rfl | h
  · exact ⟨m5, good_of_word (gW_good m5)⟩
  · exact ⟨h, good_of_word (gW_good h)⟩
theorem gI_SW {own : String} {index : Nat} {y : MethodName} {bytes : ByteArray} {maxL : Nat} {ret : Option FieldType} {hh : List (Nat × Nat × Nat × Nat)} (m1 : Cond.methodLink own index y ∈ gW) (m2 : Cond.static y ∈ gW) (m4 : Cond.initialized y.cls ∈ gW) (m5 : Cond.codeWith y bytes maxL ret hh ∈ gW) : GoodIn gW (va_wsS own index y (Cond.codeWith y bytes maxL ret hh :: gW)) := by
  intro w hw
  simp only [va_wsS, List.cons_append, List.nil_append] at hw
  rcases List.mem_cons.mp hw with rfl | hw
  · exact ⟨m1, good_of_word (gW_good m1)⟩
  rcases List.mem_cons.mp hw with rfl | hw
  · exact ⟨m2, good_of_word (gW_good m2)⟩
  rcases List.mem_cons.mp hw with rfl | hw
  · exact ⟨m4, good_of_word (gW_good m4)⟩
  exact gI_cW m5 w hw
section HR
variable {p : Program} {l : Launch} {e : Env} {R : Room} {s : State} {m : MethodId} {args : Array Value} {below : List Frame} {meth : Method} {c : Code} {H : Heap} {locs : List Loc} {cells slots : Nat} {Q : State → Prop}
variable {cc : ByteArray} {pc : Nat} {ls : Array Slot} {rest st0 As : List Value} {y : MethodName} {bytes : ByteArray} {maxL nL index : Nat} {ret : Option FieldType} {rm : Room} {G : va_G} {z : tz3} {ws wc wr : va_W} {A : Nat → Prop} {own : String} {b : Nat} {hh : List (Nat × Nat × Nat × Nat)}
theorem hS_i {post : Int32 → va_W → Prop} (hx : p.tables.exec = Jvm.exec) (hb : c.code = cc) (hml : c.maxLocals = nL) (hown : s.vm.findClass own = some m.cls) (hg : ∀ w ∈ gW, w.before args s = true) (hE : EV G z s) (hX : XV A s) (hNC : NC s) (hA : ∀ q : Nat, s.heap.size ≤ q → A q) (hS : va_S A s.heap H locs) (hP : va_P G cls0 ws H) (hD : va_D A ws)
    (hM : Hi l y bytes maxL ret hh rm G z As wc post) (isC isR : List Nat) (hC : isC.map (fun i => ws[i]?) = wc.map some) (hR : isR.map (fun i => ws[i]?) = wr.map some) (hnC : va_nd isC = true) (hnR : va_nd isR = true) (hdis : ∀ i ∈ isR, i ∉ isC)
    (m1 : Cond.methodLink own index y ∈ gW) (m2 : Cond.static y ∈ gW) (m4 : Cond.initialized y.cls ∈ gW) (m5 : Cond.codeWith y bytes maxL ret hh ∈ gW) (hd : okY y As.length) (hRm : rm.frames + 1 ≤ R.frames ∧ 8 + (maxL + 11) + rm.locals ≤ R.locals)
    (hls : ls.size = nL) (hst : st0 = As.reverse ++ rest) (hrest : (rest.map fun v => v.category).sum ≤ 8) (hdg : decode cc pc = .ok (.invokestatic index, 3)) (hf : cells + rm.cells ≤ R.cells ∧ slots + rm.slots ≤ R.slots)
    (kk : ∀ (r : Int32) (u : va_W) (H1 : Heap) (locs1 : List Loc), post r u → va_P G cls0 (wr ++ u) H1 → va_D A (wr ++ u) → va_S A s.heap H1 locs1 → W p l e R s m args below meth c H1 locs1 (cells + rm.cells) (slots + rm.slots) Q (F0 m (pc + 3) ls (.int r :: rest))) : W p l e R s m args below meth c H locs cells slots Q (F0 m pc ls st0) := by
  subst hst
  have hPc : va_P G cls0 wc H := hP.sub' isC hC
  have hDc : va_D A wc := hD.sub isC hnC hC
  have hFc := va_free (wc := wc) hD hS hA isC hC
  refine va_calli (vx_runSW (As := As) (rest := rest) ⟨hx, hb, hml, hown, hg⟩ (hM H.size) (vx_cwSW As.length hg (gI_SW m1 m2 m4 m5) rfl rfl rfl hd hRm) ⟨Pz_blind G z H.size wc _, Pz_of hE hX hNC hS hFc hPc hDc⟩ rfl rfl hls rfl (lv_room hrest) hdg hf) hS (fun q _ h => hFc q h) hFc (fun r u t H1 locs1 ht hvm hw hB hz1 hk1 hS1 => ?_)
  obtain ⟨hP1, hD1⟩ := hB
  rw [ht] at hP1
  obtain ⟨hP2, hD2⟩ := va_join (wr := wr) (w1 := u) hP hD isC isR hC hR hnR hdis hk1 hFc hP1 hD1
  exact kk r u H1 locs1 hw hP2 hD2 hS1
/-- caught by the first row, or by the second where the first names eIA -/
theorem hx_1 {E : String} {ce : Cell} {q : Addr} {x0 x1 x2 x3 : Nat} {suf : List (Nat × Nat × Nat × Nat)} (hown : s.vm.findClass own = some m.cls) (htab : c.exceptionTable.toList = tableOf ((x0, x1, x2, x3) :: suf)) (h1 : covers ⟨x0, x1, x2, x3⟩ pc = true) (h0 : x3 ≠ 0) (hl : (Cond.classLink own x3 E).before args s = true) (hc : (Cond.castable E E).before args s = true)
    (hcell : H[q]? = some ce) (hv : ce.vm = .none) (hcl : s.vm.findClass E = some ce.cls) (kk : W p l e R s m args below meth c H locs cells slots Q (F0 m x2 ls [.ref q])) : vx_W p l e R s m args below meth c H locs cells slots Q (F0 m pc ls rest) q :=
  vx_catch hown [] ⟨x0, x1, x2, x3⟩ (tableOf suf) htab (fun _ hz => nomatch hz) h1 h0 hl hc hcell hv hcl kk
theorem hx_2 {E E1 : String} {ce : Cell} {q : Addr} {x0 x1 x2 x3 y0 y1 y2 y3 : Nat} {suf : List (Nat × Nat × Nat × Nat)} (hown : s.vm.findClass own = some m.cls) (htab : c.exceptionTable.toList = tableOf ((y0, y1, y2, y3) :: (x0, x1, x2, x3) :: suf)) (hy0 : y3 ≠ 0) (hyl : (Cond.classLink own y3 E1).before args s = true) (hnc : va_Nc E E1 s)
    (h1 : covers ⟨x0, x1, x2, x3⟩ pc = true) (h0 : x3 ≠ 0) (hl : (Cond.classLink own x3 E).before args s = true) (hc : (Cond.castable E E).before args s = true)
    (hcell : H[q]? = some ce) (hv : ce.vm = .none) (hcl : s.vm.findClass E = some ce.cls) (kk : W p l e R s m args below meth c H locs cells slots Q (F0 m x2 ls [.ref q])) : vx_W p l e R s m args below meth c H locs cells slots Q (F0 m pc ls rest) q :=
  vx_catch hown [⟨y0, y1, y2, y3⟩] ⟨x0, x1, x2, x3⟩ (tableOf suf) htab (fun z hz => by
    rw [List.mem_singleton.mp hz]
    exact Or.inr ⟨hy0, E1, hyl, hnc⟩) h1 h0 hl hc hcell hv hcl kk
variable {H0 : Heap} {a : Nat}
theorem rv_last (hexec : p.tables.exec = Jvm.exec) (hb : c.code = cc) (hE : EV G z s) (hP : va_P G cls0 ws H) (hD : va_D A ws) (hS : va_S A H0 H locs) (q0 : Nat) {f : Nat → Int64} (ha : ws[q0]? = some (a, .inl (z.2.2, 1, .inr (.inl f)))) {x : Int64} (hdg : decode cc pc = .ok (.lastore, 1))
    (kk : ∀ (H1 : Heap) (locs1 : List Loc), va_P G cls0 (ws.set q0 (a, .inl (z.2.2, 1, .inr (.inl (vp_updL f 0 x))))) H1 → va_D A (ws.set q0 (a, .inl (z.2.2, 1, .inr (.inl (vp_updL f 0 x))))) → va_S A H0 H1 locs1 → W p l e R s m args below meth c H1 locs1 cells slots Q (F0 m (pc + 1) ls rest)) : W p l e R s m args below meth c H locs cells slots Q (F0 m pc ls (.long x :: .int (iI 0) :: .ref a :: rest)) :=
  va_last hexec hb hE.1 hP hD hS q0 2 ha rfl (iI_in (by decide) (by decide) (by decide)) hdg (by rw [show (iI 0).toNatClampNeg = 0 by decide +kernel]; exact kk)
theorem rv_lald (hexec : p.tables.exec = Jvm.exec) (hb : c.code = cc) (hE : EV G z s) (hP : va_P G cls0 ws H) (q0 : Nat) {f : Nat → Int64} (ha : ws[q0]? = some (a, .inl (z.2.2, 1, .inr (.inl f)))) (hdg : decode cc pc = .ok (.laload, 1))
    (kk : W p l e R s m args below meth c H locs cells slots Q (F0 m (pc + 1) ls (.long (f 0) :: rest))) : W p l e R s m args below meth c H locs cells slots Q (F0 m pc ls (.int (iI 0) :: .ref a :: rest)) :=
  va_lald hexec hb hE.1 hP q0 2 ha rfl (iI_in (by decide) (by decide) (by decide)) hdg (by rw [show (iI 0).toNatClampNeg = 0 by decide +kernel]; exact kk)
/-- two equal longs -/
theorem rv_lceq (hexec : p.tables.exec = Jvm.exec) (hb : c.code = cc) {x y : Int64} (h : x = y) (hdg : decode cc pc = .ok (.lcmp, 1))
    (k : W p l e R s m args below meth c H locs cells slots Q (F0 m (pc + 1) ls (.int (iI 0) :: rest))) : W p l e R s m args below meth c H locs cells slots Q (F0 m pc ls (.long y :: .long x :: rest)) := by
  subst h
  exact W.lcmp hexec hb hdg (by rw [show lg_cmp x x = iI 0 by unfold lg_cmp; rw [if_neg (Int64.lt_irrefl), if_pos rfl]; decide +kernel]; exact k)
end HR
theorem updL0 {f : Nat → Int64} {x : Int64} : vp_updL f 0 x 0 = x := if_pos rfl
