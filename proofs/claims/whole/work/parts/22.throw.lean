abbrev eIA : String := "java/lang/IllegalArgumentException"
abbrev eIS : String := "java/lang/IllegalStateException"
abbrev eIO : String := "java/lang/IndexOutOfBoundsException"
abbrev enL : List String := ["java/lang/RuntimeException", "java/lang/Exception"]
def strs : List (Nat × String) := [(54, "no net or no cost"), (64, "8 other ports"), (71, "no other router or no net"), (76, "no port on the net"), (92, "16 other friends"), (98, "no router or no number"), (106, "no router, no net or no cost"), (108, "the origin is no friend of its own"), (117, "no draft, no room in it, or it has that one"), (127, "no draft"), (136, "ticks are 0 .. 10000"), (142, "time ends at 1000000"), (231, "no router"), (167, "no router, or not 0, 1 or 2"), (171, "no such advert or entry"), (233, "no net"), (212, "no such first step")]
theorem sr_54 : ((54, "no net or no cost") : Nat × String) ∈ strs := List.mem_of_getElem? (i := 0) rfl
theorem sr_64 : ((64, "8 other ports") : Nat × String) ∈ strs := List.mem_of_getElem? (i := 1) rfl
theorem sr_71 : ((71, "no other router or no net") : Nat × String) ∈ strs := List.mem_of_getElem? (i := 2) rfl
theorem sr_76 : ((76, "no port on the net") : Nat × String) ∈ strs := List.mem_of_getElem? (i := 3) rfl
theorem sr_92 : ((92, "16 other friends") : Nat × String) ∈ strs := List.mem_of_getElem? (i := 4) rfl
theorem sr_98 : ((98, "no router or no number") : Nat × String) ∈ strs := List.mem_of_getElem? (i := 5) rfl
theorem sr_106 : ((106, "no router, no net or no cost") : Nat × String) ∈ strs := List.mem_of_getElem? (i := 6) rfl
theorem sr_108 : ((108, "the origin is no friend of its own") : Nat × String) ∈ strs := List.mem_of_getElem? (i := 7) rfl
theorem sr_117 : ((117, "no draft, no room in it, or it has that one") : Nat × String) ∈ strs := List.mem_of_getElem? (i := 8) rfl
theorem sr_127 : ((127, "no draft") : Nat × String) ∈ strs := List.mem_of_getElem? (i := 9) rfl
theorem sr_136 : ((136, "ticks are 0 .. 10000") : Nat × String) ∈ strs := List.mem_of_getElem? (i := 10) rfl
theorem sr_142 : ((142, "time ends at 1000000") : Nat × String) ∈ strs := List.mem_of_getElem? (i := 11) rfl
theorem sr_231 : ((231, "no router") : Nat × String) ∈ strs := List.mem_of_getElem? (i := 12) rfl
theorem sr_167 : ((167, "no router, or not 0, 1 or 2") : Nat × String) ∈ strs := List.mem_of_getElem? (i := 13) rfl
theorem sr_171 : ((171, "no such advert or entry") : Nat × String) ∈ strs := List.mem_of_getElem? (i := 14) rfl
theorem sr_233 : ((233, "no net") : Nat × String) ∈ strs := List.mem_of_getElem? (i := 15) rfl
theorem sr_212 : ((212, "no such first step") : Nat × String) ∈ strs := List.mem_of_getElem? (i := 16) rfl
def yiS (c : String) : MethodName := ⟨c, "<init>", "(Ljava/lang/String;)V"⟩
abbrev dcR : Cond := .declares (yiS "java/lang/RuntimeException")
abbrev dcE : Cond := .declares (yiS "java/lang/Exception")
abbrev dcT : Cond := .declares (yiS "java/lang/Throwable")
theorem strs_tbl : ∀ q ∈ strs, Cond.stringRef R_B q.1 q.2 ∈ lw_tbl := by decide +kernel
theorem at_IA : ∀ w ∈ vx_atS R_B 56 eIA enL, w ∈ lw_tbl := by decide +kernel
theorem bad_IA : ∀ w ∈ (vx_atS R_B 56 eIA enL).filter (fun w => !goodWord w), w ∈ [Cond.castable eIA eIA, dcR, dcE, dcT] := by decide +kernel
theorem ot_IA : ∀ w ∈ Cond.classLink R_B 52 eIA :: Cond.initialized eIA :: vx_atS R_B 56 eIA enL, vx_ot w = true := by decide +kernel
theorem at_IS : ∀ w ∈ vx_atS R_B 66 eIS enL, w ∈ lw_tbl := by decide +kernel
theorem bad_IS : ∀ w ∈ (vx_atS R_B 66 eIS enL).filter (fun w => !goodWord w), w ∈ [Cond.castable eIS eIS, dcR, dcE, dcT] := by decide +kernel
theorem ot_IS : ∀ w ∈ Cond.classLink R_B 62 eIS :: Cond.initialized eIS :: vx_atS R_B 66 eIS enL, vx_ot w = true := by decide +kernel
theorem at_IO : ∀ w ∈ vx_atS R_B 173 eIO enL, w ∈ lw_tbl := by decide +kernel
theorem bad_IO : ∀ w ∈ (vx_atS R_B 173 eIO enL).filter (fun w => !goodWord w), w ∈ [Cond.castable eIO eIO, dcR, dcE, dcT] := by decide +kernel
theorem ot_IO : ∀ w ∈ Cond.classLink R_B 169 eIO :: Cond.initialized eIO :: vx_atS R_B 173 eIO enL, vx_ot w = true := by decide +kernel
theorem cst_tbl : (Cond.castable eIA eIA ∈ lw_tbl ∧ Cond.castable eIS eIS ∈ lw_tbl ∧ Cond.castable eIO eIO ∈ lw_tbl) ∧ dcR ∈ lw_tbl ∧ dcE ∈ lw_tbl ∧ dcT ∈ lw_tbl := by decide +kernel
abbrev zqU (A : Nat → Prop) (U : State) (H : Heap) : Prop := vx_Zq Bundle.tN "UNASSIGNED_STACK" Bundle.steD A U H
abbrev zqN (A : Nat → Prop) (U : State) (H : Heap) : Prop := vx_Zq Bundle.tN "SUPPRESSED_SENTINEL" Bundle.listD A U H
/-- what a method that may throw needs beside -/
def XV (A : Nat → Prop) (U : State) : Prop := ((va_Nw (.castable eIA eIA) U ∧ va_Nw (.castable eIS eIS) U ∧ va_Nw (.castable eIO eIO) U) ∧ va_Nw dcR U ∧ va_Nw dcE U ∧ va_Nw dcT U) ∧ zqU A U U.heap ∧ zqN A U U.heap ∧ ∀ q ∈ strs, ∃ sa : Nat, vk_R R_B q.1 q.2 sa U
theorem XV.call {A : Nat → Prop} {U : State} {g : JFrame} {mk : MethodId} {a : Array Value} (h : XV A U) : XV A (U.calling g mk a) := by
  obtain ⟨⟨⟨h1, h2, h3⟩, i1, i2, i3⟩, h4, h5, h6⟩ := h
  have sm : ∀ {w : Cond}, w.onTables = true → va_Nw w U → va_Nw w (U.calling g mk a) := fun hw h => va_Nw.same (u := U) (U := U.calling g mk a) hw rfl h
  refine ⟨⟨⟨sm rfl h1, sm rfl h2, sm rfl h3⟩, sm rfl i1, sm rfl i2, sm rfl i3⟩, ?_, ?_, fun q hq => ?_⟩
  · exact vx_Zq.moved (u := U) (U := U.calling g mk a) (Vm.Alike.refl U.vm) h4
  · exact vx_Zq.moved (u := U) (U := U.calling g mk a) (Vm.Alike.refl U.vm) h5
  · obtain ⟨sa, h7⟩ := h6 q hq
    exact ⟨sa, vk_R.same (u := U) (U := U.calling g mk a) rfl h7⟩
theorem XV.at {A B : Nat → Prop} {s U : State} {H : Heap} {locs : List Loc} (h : XV A s) (hS : va_S A s.heap H locs) (hB : ∀ q, B q → A q) (hU : U.heap = H) (hW : s.WarmedH U.vm) : XV B U := by
  obtain ⟨⟨⟨h1, h2, h3⟩, i1, i2, i3⟩, h4, h5, h6⟩ := h
  refine ⟨⟨⟨va_Nw.warmC hW h1, va_Nw.warmC hW h2, va_Nw.warmC hW h3⟩, va_Nw.warmD hW i1, va_Nw.warmD hW i2, va_Nw.warmD hW i3⟩, ?_, ?_, fun q hq => ?_⟩
  · rw [hU]; exact vx_Zq.moved hW.alike ((h4.kept hS.2.1).narrow hB)
  · rw [hU]; exact vx_Zq.moved hW.alike ((h5.kept hS.2.1).narrow hB)
  · obtain ⟨sa, h7⟩ := h6 q hq
    exact ⟨sa, vk_R.warm hW h7⟩
def Px (G : va_G) (z : tz3) (sz : Nat) (ws : va_W) : State → Prop := fun U => Pq G z sz ws U ∧ XV (va_A ws sz) U
theorem Px_blind (G : va_G) (z : tz3) (sz : Nat) (ws : va_W) (av : List Value) : FrameBlind (va_Pc av (Px G z sz ws)) := by
  intro a U g mk q
  obtain ⟨q0, ⟨q1, q2, q3, q4⟩, q5⟩ := q
  exact ⟨q0, ⟨q1, q2.call, q3, q4⟩, q5.call⟩
theorem Px_of {G : va_G} {z : tz3} {wc : va_W} {s : State} {H : Heap} {A : Nat → Prop} {locs : List Loc} {av : List Value} (hE : EV G z s) (hX : XV A s) (hS : va_S A s.heap H locs) (hF : ∀ q, va_A wc H.size q → A q) (hP : va_P G cls0 wc H) (hD : va_D A wc) : ∀ U : State, U.heap = H → s.WarmedH U.vm → va_Pc av (Px G z H.size wc) av.toArray U := by
  intro U hU hW
  exact ⟨rfl, ⟨by rw [hU], hE.warm hW, by rw [hU]; exact hP, hD.weaken (fun _ _ _ _ => trivial)⟩, hX.at hS hF hU hW⟩
/-- what is left where a method has thrown -/
def XCq (G : va_G) (xp : String → va_W → Prop) (A : Nat → Prop) : String → State → State → Prop := vx_X (S := va_W) (fun _ => True) (fun E u t => xp E u ∧ va_P G cls0 u t.heap ∧ va_D A u) A
def Xi (l : Launch) (y : MethodName) (cc : ByteArray) (n : Nat) (ret : Option FieldType) (rm : Room) (G : va_G) (z : tz3) (av : List Value) (ws : va_W) (post : Int32 → va_W → Prop) (xp : String → va_W → Prop) : Prop :=
  ∀ sz : Nat, vx_Met l y (.code y cc n ret :: gW) rm (va_Pc av (Px G z sz ws)) (va_Qi post (Bq G (va_A ws sz)) (va_A ws sz)) (XCq G xp (va_A ws sz)) rm.cells rm.slots (va_A ws sz)
def Xv (l : Launch) (y : MethodName) (cc : ByteArray) (n : Nat) (rm : Room) (G : va_G) (z : tz3) (av : List Value) (ws : va_W) (post : va_W → Prop) (xp : String → va_W → Prop) : Prop :=
  ∀ sz : Nat, vx_Met l y (.code y cc n none :: gW) rm (va_Pc av (Px G z sz ws)) (va_Qv post (Bq G (va_A ws sz)) (va_A ws sz)) (XCq G xp (va_A ws sz)) rm.cells rm.slots (va_A ws sz)
def Yi (below : List Frame) (args : Array Value) (s : State) (rm : Room) (G : va_G) (A : Nat → Prop) (post : Int32 → va_W → Prop) (xp : String → va_W → Prop) : State → Prop := vx_MQ below (va_Qi post (Bq G A) A) (XCq G xp A) args s rm.cells rm.slots A
def Yv (below : List Frame) (args : Array Value) (s : State) (rm : Room) (G : va_G) (A : Nat → Prop) (post : va_W → Prop) (xp : String → va_W → Prop) : State → Prop := vx_MQ below (va_Qv post (Bq G A) A) (XCq G xp A) args s rm.cells rm.slots A
def rmX (d : Nat) : Room := { frames := d, cells := 1, slots := 6, locals := 26 * d }
theorem Xi.of {l : Launch} {y : MethodName} {cc : ByteArray} {n : Nat} {ret : Option FieldType} {rm : Room} {G : va_G} {z : tz3} {av : List Value} {ws : va_W} {post : Int32 → va_W → Prop} {xp : String → va_W → Prop} (hy : plainName y.cls = true) (hn : (lg_sl av).length ≤ n)
    (body : ∀ (p : Program) (e : Env) (s : State) (m : MethodId) (below : List Frame) (meth : Method) (c : Code) (A : Nat → Prop), Bd p s m meth c y cc n ret G z av A → XV A s → (∀ x ∈ c.exceptionTable.toList, False) → va_P G cls0 ws s.heap → va_D A ws → ∀ ls : Array Slot, lv_has ls n (lv_args 0 av) →
      W p l e rm s m av.toArray below meth c s.heap [] 0 0 (Yi below av.toArray s rm G A post xp) (F0 m 0 ls [])) : Xi l y cc n ret rm G z av ws post xp := by
  intro sz
  refine vx_ofW (cc := cc) (maxL := n) (ret := ret) hy rfl ?_
  intro p e s m args below meth c s₁ B hml hout hv
  obtain ⟨rfl, ⟨hsz, hE, hP, hD0⟩, hX⟩ := hv
  subst hsz
  have hl := lv_entry av (n := n) hn
  rw [lg_entry_eq]
  exact body p e s m below meth c _ ⟨B.exec, B.bytes, B.returns, hml, findClass_of_methodNamed B.named, B.notSynchronized, gW_of (atoms_spec B.pre), hE, fun q h => Or.inr h, (name_of_methodNamed B.named B.method).1⟩ hX hout hP hD0.self _ hl
theorem Xv.of {l : Launch} {y : MethodName} {cc : ByteArray} {n : Nat} {rm : Room} {G : va_G} {z : tz3} {av : List Value} {ws : va_W} {post : va_W → Prop} {xp : String → va_W → Prop} (hy : plainName y.cls = true) (hn : (lg_sl av).length ≤ n)
    (body : ∀ (p : Program) (e : Env) (s : State) (m : MethodId) (below : List Frame) (meth : Method) (c : Code) (A : Nat → Prop), Bd p s m meth c y cc n none G z av A → XV A s → (∀ x ∈ c.exceptionTable.toList, False) → va_P G cls0 ws s.heap → va_D A ws → ∀ ls : Array Slot, lv_has ls n (lv_args 0 av) →
      W p l e rm s m av.toArray below meth c s.heap [] 0 0 (Yv below av.toArray s rm G A post xp) (F0 m 0 ls [])) : Xv l y cc n rm G z av ws post xp := by
  intro sz
  refine vx_ofW (cc := cc) (maxL := n) (ret := none) hy rfl ?_
  intro p e s m args below meth c s₁ B hml hout hv
  obtain ⟨rfl, ⟨hsz, hE, hP, hD0⟩, hX⟩ := hv
  subst hsz
  have hl := lv_entry av (n := n) hn
  rw [lg_entry_eq]
  exact body p e s m below meth c _ ⟨B.exec, B.bytes, B.returns, hml, findClass_of_methodNamed B.named, B.notSynchronized, gW_of (atoms_spec B.pre), hE, fun q h => Or.inr h, (name_of_methodNamed B.named B.method).1⟩ hX hout hP hD0.self _ hl
section XR
variable {p : Program} {l : Launch} {e : Env} {R : Room} {s : State} {m : MethodId} {args : Array Value} {below : List Frame} {meth : Method} {c : Code} {H : Heap} {locs : List Loc} {cells slots : Nat} {Q : State → Prop}
variable {cc : ByteArray} {pc : Nat} {ls : Array Slot} {rest st0 As : List Value} {y : MethodName} {bytes : ByteArray} {maxL nL index : Nat} {ret : Option FieldType} {rm : Room} {G : va_G} {z : tz3} {ws wc wr : va_W} {A : Nat → Prop} {own : String} {b : Nat} {xp : String → va_W → Prop}
theorem rx_iret {post : Int32 → va_W → Prop} {v : Int32} {u : va_W} {ty : FieldType} (hexec : p.tables.exec = Jvm.exec) (hb : c.code = cc) (hr : meth.sig.returnType = some ty) (hn : narrow ty (.int v) = .int v) (hlocks : meth.locks = false) (hc : cells ≤ rm.cells) (hs : slots ≤ rm.slots) (hP : va_P G cls0 u H) (hD : va_D A u) (hS : va_S A s.heap H locs) (hdg : decode cc pc = .ok (.ireturn, 1)) (hp : post v u) :
    W p l e R s m args below meth c H locs cells slots (Yi below args s rm G A post xp) (F0 m pc ls [.int v]) :=
  vx_ret (rv_iret hexec hb hr hn hlocks hc hs hP hD hS hdg hp)
theorem rx_vret {post : va_W → Prop} {u : va_W} (hexec : p.tables.exec = Jvm.exec) (hb : c.code = cc) (hr : meth.sig.returnType = none) (hlocks : meth.locks = false) (hc : cells ≤ rm.cells) (hs : slots ≤ rm.slots) (hP : va_P G cls0 u H) (hD : va_D A u) (hS : va_S A s.heap H locs) (hdg : decode cc pc = .ok (.return_, 1)) (hp : post u) :
    W p l e R s m args below meth c H locs cells slots (Yv below args s rm G A post xp) (F0 m pc ls []) :=
  vx_ret (rv_vret hexec hb hr hlocks hc hs hP hD hS hdg hp)
/-- throw new E("text") of the class: all stays -/
theorem rx_throw {Qc : Array Value → State → Outcome → State → Prop} {u : va_W} {cls text : String} {ik is ic : Nat} (hexec : p.tables.exec = Jvm.exec) (hb : c.code = cc) (hlt : l.stackTraces = false) (hown : s.vm.findClass R_B = some m.cls) (hg : ∀ w ∈ gW, w.before args s = true) (hX : XV A s)
    (h1 : ∀ w ∈ vx_atS R_B ic cls enL, w ∈ lw_tbl) (h2 : ∀ w ∈ (vx_atS R_B ic cls enL).filter (fun w => !goodWord w), w ∈ [Cond.castable cls cls, dcR, dcE, dcT]) (h3 : ∀ w ∈ Cond.classLink R_B ik cls :: Cond.initialized cls :: vx_atS R_B ic cls enL, vx_ot w = true)
    (m1 : Cond.classLink R_B ik cls ∈ gW) (m2 : Cond.initialized cls ∈ gW) (hcast : va_Nw (.castable cls cls) s) (hstr : ((is, text) : Nat × String) ∈ strs) (hfit : Bundle.fit cls = true) (hml : c.maxLocals = nL) (hsize : ls.size = nL)
    (d0 : decode cc pc = .ok (.new ik, 3)) (d3 : decode cc (pc + 3) = .ok (.dup, 1)) (d4 : decode cc (pc + 4) = .ok (.ldc is, 2)) (d6 : decode cc (pc + 6) = .ok (.invokespecial ic, 3)) (d9 : decode cc (pc + 9) = .ok (.athrow, 1))
    (hout : ∀ x ∈ c.exceptionTable.toList, False) (hRf : 5 < R.frames) (hRl : (rest.map fun v => v.category).sum + 82 ≤ R.locals) (hRc : cells + 1 ≤ R.cells) (hRs : slots + 6 ≤ R.slots) (hlocks : meth.locks = false)
    (hP : va_P G cls0 u H) (hD : va_D A u) (hS : va_S A s.heap H locs) (hc : cells + 1 ≤ rm.cells) (hs : slots + 6 ≤ rm.slots) (hxp : xp cls u) :
    W p l e R s m args below meth c H locs cells slots (vx_MQ below Qc (XCq G xp A) args s rm.cells rm.slots A) (F0 m pc ls rest) := by
  obtain ⟨⟨-, i1, i2, i3⟩, hU, hN, hst⟩ := hX
  obtain ⟨sa, hsa⟩ := hst _ hstr
  refine vx_throwS hexec hb hlt (own := R_B) (cls := cls) (text := text) (names := enL) (sa := sa) (A := A) hown hfit (by decide +kernel) (hg _ m1) (hg _ m2) hsa ?_ h3 hU hN hS (hsize.trans hml.symm) d0 d3 d4 d6 d9 (fun x hx => (hout x hx).elim) hRf hRl hRc hRs hlocks ?_ hS.2.2 hc hs
  · refine vx_hat (B := [Cond.castable cls cls, dcR, dcE, dcT]) (fun w hw => hg w ?_) h2 (vx_c (va_Nw.use rfl hcast) (vx_c (va_Nw.use rfl i1) (vx_c (va_Nw.use rfl i2) (vx_c (va_Nw.use rfl i3) vx_n))))
    have h := List.mem_filter.mp hw
    exact List.mem_filter.mpr ⟨h1 w h.1, h.2⟩
  · intro t hvm hz hk
    exact ⟨u, trivial, ⟨hxp, hP.kept (fun k q hq => hk q.1 ((hP k q hq).lt)), hD⟩, Nat.le_trans hS.1 hz, fun q h4 h5 => (hk q (Nat.lt_of_lt_of_le h4 hS.1)).trans (hS.2.1 q h4 h5)⟩
/-- what came from a callee goes on to the caller -/
theorem rx_out {Qc : Array Value → State → Outcome → State → Prop} {u : va_W} {E : String} {ce : Cell} {q : Addr} (hout : ∀ x ∈ c.exceptionTable.toList, False) (hlocks : meth.locks = false) (hcell : H[q]? = some ce) (hv : ce.vm = .none) (hcl : s.vm.findClass E = some ce.cls)
    (hP : va_P G cls0 u H) (hD : va_D A u) (hS : va_S A s.heap H locs) (hc : cells ≤ rm.cells) (hs : slots ≤ rm.slots) (hxp : xp E u) :
    vx_W p l e R s m args below meth c H locs cells slots (vx_MQ below Qc (XCq G xp A) args s rm.cells rm.slots A) (F0 m pc ls rest) q :=
  vx_out (fun x hx => (hout x hx).elim) hlocks hcell hv hcl (fun t ht _ => ⟨u, trivial, ⟨hxp, by rw [ht]; exact hP, hD⟩, hS.F ht⟩) hS.2.2 hc hs
theorem xV_i {post : Int32 → va_W → Prop} (hx : p.tables.exec = Jvm.exec) (hb : c.code = cc) (hml : c.maxLocals = nL) (hown : s.vm.findClass own = some m.cls) (hg : ∀ w ∈ gW, w.before args s = true) (hE : EV G z s) (hX : XV A s) (hA : ∀ q : Nat, s.heap.size ≤ q → A q) (hS : va_S A s.heap H locs) (hP : va_P G cls0 ws H) (hD : va_D A ws)
    (hM : Xi l y bytes maxL ret rm G z (.ref b :: As) wc post xp) (isC isR : List Nat) (hC : isC.map (fun i => ws[i]?) = wc.map some) (hR : isR.map (fun i => ws[i]?) = wr.map some) (hnC : va_nd isC = true) (hnR : va_nd isR = true) (hdis : ∀ i ∈ isR, i ∉ isC) {ci q0 N : Nat} {T : u_T} {fs : List Value} (hrec : wc[q0]? = some (b, .inr (ci, fs))) (hcls : cls0[ci]? = some (y.cls, T, N))
    (m1 : Cond.methodLink own index y ∈ gW) (m2 : Cond.instanceMethod y ∈ gW) (m3 : Cond.selects y.cls y y ∈ gW) (m4 : Cond.initialized y.cls ∈ gW) (m5 : Cond.code y bytes maxL ret ∈ gW) (hd : okY y As.length) (hRm : rm.frames + 1 ≤ R.frames ∧ 8 + (maxL + 11) + rm.locals ≤ R.locals)
    (hls : ls.size = nL) (hst : st0 = As.reverse ++ .ref b :: rest) (hrest : (rest.map fun v => v.category).sum ≤ 8) (hdg : decode cc pc = .ok (.invokevirtual index, 3)) (hf : cells + rm.cells ≤ R.cells ∧ slots + rm.slots ≤ R.slots)
    (kx : ∀ (E : String) (ce : Cell) (q9 : Addr) (u : va_W) (H1 : Heap) (locs1 : List Loc), xp E u → va_P G cls0 (wr ++ u) H1 → va_D A (wr ++ u) → va_S A s.heap H1 locs1 → H1[q9]? = some ce → ce.vm = .none → s.vm.findClass E = some ce.cls → vx_W p l e R s m args below meth c H1 locs1 (cells + rm.cells) (slots + rm.slots) Q (F0 m pc ls rest) q9)
    (kk : ∀ (r : Int32) (u : va_W) (H1 : Heap) (locs1 : List Loc), post r u → va_P G cls0 (wr ++ u) H1 → va_D A (wr ++ u) → va_S A s.heap H1 locs1 → W p l e R s m args below meth c H1 locs1 (cells + rm.cells) (slots + rm.slots) Q (F0 m (pc + 3) ls (.int r :: rest))) : W p l e R s m args below meth c H locs cells slots Q (F0 m pc ls st0) := by
  subst hst
  have hPc : va_P G cls0 wc H := hP.sub' isC hC
  have hDc : va_D A wc := hD.sub isC hnC hC
  have hFc := va_free (wc := wc) hD hS hA isC hC
  refine vx_calli (vx_runV (As := As) (rest := rest) ⟨hx, hb, hml, hown, hg⟩ (hM H.size) (cwV As.length hg (gI_V m1 m2 m3 m4 m5) rfl rfl rfl ⟨rfl, hd⟩ hRm) ⟨Px_blind G z H.size wc _, va_recv hE.1 hPc hcls hrec, Px_of hE hX hS hFc hPc hDc⟩ rfl rfl hls rfl (lv_room hrest) hdg hf) hS (fun q _ h => hFc q h) hFc (fun q _ h => hFc q h) (fun E ce q9 u t H1 locs1 ht hvm _ hB hz1 hk1 hS1 hce hcv hcl => ?_) (fun r u t H1 locs1 ht hvm hw hB hz1 hk1 hS1 => ?_)
  · obtain ⟨hxp, hP1, hD1⟩ := hB
    rw [ht] at hP1
    obtain ⟨hP2, hD2⟩ := va_join (wr := wr) (w1 := u) hP hD isC isR hC hR hnR hdis hk1 hFc hP1 hD1
    exact kx E ce q9 u H1 locs1 hxp hP2 hD2 hS1 hce hcv hcl
  · obtain ⟨hP1, hD1⟩ := hB
    rw [ht] at hP1
    obtain ⟨hP2, hD2⟩ := va_join (wr := wr) (w1 := u) hP hD isC isR hC hR hnR hdis hk1 hFc hP1 hD1
    exact kk r u H1 locs1 hw hP2 hD2 hS1
theorem xV_v {post : va_W → Prop} (hx : p.tables.exec = Jvm.exec) (hb : c.code = cc) (hml : c.maxLocals = nL) (hown : s.vm.findClass own = some m.cls) (hg : ∀ w ∈ gW, w.before args s = true) (hE : EV G z s) (hX : XV A s) (hA : ∀ q : Nat, s.heap.size ≤ q → A q) (hS : va_S A s.heap H locs) (hP : va_P G cls0 ws H) (hD : va_D A ws)
    (hM : Xv l y bytes maxL rm G z (.ref b :: As) wc post xp) (isC isR : List Nat) (hC : isC.map (fun i => ws[i]?) = wc.map some) (hR : isR.map (fun i => ws[i]?) = wr.map some) (hnC : va_nd isC = true) (hnR : va_nd isR = true) (hdis : ∀ i ∈ isR, i ∉ isC) {ci q0 N : Nat} {T : u_T} {fs : List Value} (hrec : wc[q0]? = some (b, .inr (ci, fs))) (hcls : cls0[ci]? = some (y.cls, T, N))
    (m1 : Cond.methodLink own index y ∈ gW) (m2 : Cond.instanceMethod y ∈ gW) (m3 : Cond.selects y.cls y y ∈ gW) (m4 : Cond.initialized y.cls ∈ gW) (m5 : Cond.code y bytes maxL none ∈ gW) (hd : okY y As.length) (hRm : rm.frames + 1 ≤ R.frames ∧ 8 + (maxL + 11) + rm.locals ≤ R.locals)
    (hls : ls.size = nL) (hst : st0 = As.reverse ++ .ref b :: rest) (hrest : (rest.map fun v => v.category).sum ≤ 8) (hdg : decode cc pc = .ok (.invokevirtual index, 3)) (hf : cells + rm.cells ≤ R.cells ∧ slots + rm.slots ≤ R.slots)
    (kx : ∀ (E : String) (ce : Cell) (q9 : Addr) (u : va_W) (H1 : Heap) (locs1 : List Loc), xp E u → va_P G cls0 (wr ++ u) H1 → va_D A (wr ++ u) → va_S A s.heap H1 locs1 → H1[q9]? = some ce → ce.vm = .none → s.vm.findClass E = some ce.cls → vx_W p l e R s m args below meth c H1 locs1 (cells + rm.cells) (slots + rm.slots) Q (F0 m pc ls rest) q9)
    (kk : ∀ (u : va_W) (H1 : Heap) (locs1 : List Loc), post u → va_P G cls0 (wr ++ u) H1 → va_D A (wr ++ u) → va_S A s.heap H1 locs1 → W p l e R s m args below meth c H1 locs1 (cells + rm.cells) (slots + rm.slots) Q (F0 m (pc + 3) ls rest)) : W p l e R s m args below meth c H locs cells slots Q (F0 m pc ls st0) := by
  subst hst
  have hPc : va_P G cls0 wc H := hP.sub' isC hC
  have hDc : va_D A wc := hD.sub isC hnC hC
  have hFc := va_free (wc := wc) hD hS hA isC hC
  refine vx_callv (vx_runV (As := As) (rest := rest) ⟨hx, hb, hml, hown, hg⟩ (hM H.size) (cwV As.length hg (gI_V m1 m2 m3 m4 m5) rfl rfl rfl ⟨rfl, hd⟩ hRm) ⟨Px_blind G z H.size wc _, va_recv hE.1 hPc hcls hrec, Px_of hE hX hS hFc hPc hDc⟩ rfl rfl hls rfl (lv_room hrest) hdg hf) hS (fun q _ h => hFc q h) hFc (fun q _ h => hFc q h) (fun E ce q9 u t H1 locs1 ht hvm _ hB hz1 hk1 hS1 hce hcv hcl => ?_) (fun u t H1 locs1 ht hvm hw hB hz1 hk1 hS1 => ?_)
  · obtain ⟨hxp, hP1, hD1⟩ := hB
    rw [ht] at hP1
    obtain ⟨hP2, hD2⟩ := va_join (wr := wr) (w1 := u) hP hD isC isR hC hR hnR hdis hk1 hFc hP1 hD1
    exact kx E ce q9 u H1 locs1 hxp hP2 hD2 hS1 hce hcv hcl
  · obtain ⟨hP1, hD1⟩ := hB
    rw [ht] at hP1
    obtain ⟨hP2, hD2⟩ := va_join (wr := wr) (w1 := u) hP hD isC isR hC hR hnR hdis hk1 hFc hP1 hD1
    exact kk u H1 locs1 hw hP2 hD2 hS1
theorem xS_i {post : Int32 → va_W → Prop} (hx : p.tables.exec = Jvm.exec) (hb : c.code = cc) (hml : c.maxLocals = nL) (hown : s.vm.findClass own = some m.cls) (hg : ∀ w ∈ gW, w.before args s = true) (hE : EV G z s) (hX : XV A s) (hA : ∀ q : Nat, s.heap.size ≤ q → A q) (hS : va_S A s.heap H locs) (hP : va_P G cls0 ws H) (hD : va_D A ws)
    (hM : Xi l y bytes maxL ret rm G z As wc post xp) (isC isR : List Nat) (hC : isC.map (fun i => ws[i]?) = wc.map some) (hR : isR.map (fun i => ws[i]?) = wr.map some) (hnC : va_nd isC = true) (hnR : va_nd isR = true) (hdis : ∀ i ∈ isR, i ∉ isC)
    (m1 : Cond.methodLink own index y ∈ gW) (m2 : Cond.static y ∈ gW) (m4 : Cond.initialized y.cls ∈ gW) (m5 : Cond.code y bytes maxL ret ∈ gW) (hd : okY y As.length) (hRm : rm.frames + 1 ≤ R.frames ∧ 8 + (maxL + 11) + rm.locals ≤ R.locals)
    (hls : ls.size = nL) (hst : st0 = As.reverse ++ rest) (hrest : (rest.map fun v => v.category).sum ≤ 8) (hdg : decode cc pc = .ok (.invokestatic index, 3)) (hf : cells + rm.cells ≤ R.cells ∧ slots + rm.slots ≤ R.slots)
    (kx : ∀ (E : String) (ce : Cell) (q9 : Addr) (u : va_W) (H1 : Heap) (locs1 : List Loc), xp E u → va_P G cls0 (wr ++ u) H1 → va_D A (wr ++ u) → va_S A s.heap H1 locs1 → H1[q9]? = some ce → ce.vm = .none → s.vm.findClass E = some ce.cls → vx_W p l e R s m args below meth c H1 locs1 (cells + rm.cells) (slots + rm.slots) Q (F0 m pc ls rest) q9)
    (kk : ∀ (r : Int32) (u : va_W) (H1 : Heap) (locs1 : List Loc), post r u → va_P G cls0 (wr ++ u) H1 → va_D A (wr ++ u) → va_S A s.heap H1 locs1 → W p l e R s m args below meth c H1 locs1 (cells + rm.cells) (slots + rm.slots) Q (F0 m (pc + 3) ls (.int r :: rest))) : W p l e R s m args below meth c H locs cells slots Q (F0 m pc ls st0) := by
  subst hst
  have hPc : va_P G cls0 wc H := hP.sub' isC hC
  have hDc : va_D A wc := hD.sub isC hnC hC
  have hFc := va_free (wc := wc) hD hS hA isC hC
  refine vx_calli (vx_runS (As := As) (rest := rest) ⟨hx, hb, hml, hown, hg⟩ (hM H.size) (va_cwS As.length hg (gI_S m1 m2 m4 m5) rfl rfl rfl hd hRm) ⟨Px_blind G z H.size wc _, Px_of hE hX hS hFc hPc hDc⟩ rfl rfl hls rfl (lv_room hrest) hdg hf) hS (fun q _ h => hFc q h) hFc (fun q _ h => hFc q h) (fun E ce q9 u t H1 locs1 ht hvm _ hB hz1 hk1 hS1 hce hcv hcl => ?_) (fun r u t H1 locs1 ht hvm hw hB hz1 hk1 hS1 => ?_)
  · obtain ⟨hxp, hP1, hD1⟩ := hB
    rw [ht] at hP1
    obtain ⟨hP2, hD2⟩ := va_join (wr := wr) (w1 := u) hP hD isC isR hC hR hnR hdis hk1 hFc hP1 hD1
    exact kx E ce q9 u H1 locs1 hxp hP2 hD2 hS1 hce hcv hcl
  · obtain ⟨hP1, hD1⟩ := hB
    rw [ht] at hP1
    obtain ⟨hP2, hD2⟩ := va_join (wr := wr) (w1 := u) hP hD isC isR hC hR hnR hdis hk1 hFc hP1 hD1
    exact kk r u H1 locs1 hw hP2 hD2 hS1
theorem xS_v {post : va_W → Prop} (hx : p.tables.exec = Jvm.exec) (hb : c.code = cc) (hml : c.maxLocals = nL) (hown : s.vm.findClass own = some m.cls) (hg : ∀ w ∈ gW, w.before args s = true) (hE : EV G z s) (hX : XV A s) (hA : ∀ q : Nat, s.heap.size ≤ q → A q) (hS : va_S A s.heap H locs) (hP : va_P G cls0 ws H) (hD : va_D A ws)
    (hM : Xv l y bytes maxL rm G z As wc post xp) (isC isR : List Nat) (hC : isC.map (fun i => ws[i]?) = wc.map some) (hR : isR.map (fun i => ws[i]?) = wr.map some) (hnC : va_nd isC = true) (hnR : va_nd isR = true) (hdis : ∀ i ∈ isR, i ∉ isC)
    (m1 : Cond.methodLink own index y ∈ gW) (m2 : Cond.static y ∈ gW) (m4 : Cond.initialized y.cls ∈ gW) (m5 : Cond.code y bytes maxL none ∈ gW) (hd : okY y As.length) (hRm : rm.frames + 1 ≤ R.frames ∧ 8 + (maxL + 11) + rm.locals ≤ R.locals)
    (hls : ls.size = nL) (hst : st0 = As.reverse ++ rest) (hrest : (rest.map fun v => v.category).sum ≤ 8) (hdg : decode cc pc = .ok (.invokestatic index, 3)) (hf : cells + rm.cells ≤ R.cells ∧ slots + rm.slots ≤ R.slots)
    (kx : ∀ (E : String) (ce : Cell) (q9 : Addr) (u : va_W) (H1 : Heap) (locs1 : List Loc), xp E u → va_P G cls0 (wr ++ u) H1 → va_D A (wr ++ u) → va_S A s.heap H1 locs1 → H1[q9]? = some ce → ce.vm = .none → s.vm.findClass E = some ce.cls → vx_W p l e R s m args below meth c H1 locs1 (cells + rm.cells) (slots + rm.slots) Q (F0 m pc ls rest) q9)
    (kk : ∀ (u : va_W) (H1 : Heap) (locs1 : List Loc), post u → va_P G cls0 (wr ++ u) H1 → va_D A (wr ++ u) → va_S A s.heap H1 locs1 → W p l e R s m args below meth c H1 locs1 (cells + rm.cells) (slots + rm.slots) Q (F0 m (pc + 3) ls rest)) : W p l e R s m args below meth c H locs cells slots Q (F0 m pc ls st0) := by
  subst hst
  have hPc : va_P G cls0 wc H := hP.sub' isC hC
  have hDc : va_D A wc := hD.sub isC hnC hC
  have hFc := va_free (wc := wc) hD hS hA isC hC
  refine vx_callv (vx_runS (As := As) (rest := rest) ⟨hx, hb, hml, hown, hg⟩ (hM H.size) (va_cwS As.length hg (gI_S m1 m2 m4 m5) rfl rfl rfl hd hRm) ⟨Px_blind G z H.size wc _, Px_of hE hX hS hFc hPc hDc⟩ rfl rfl hls rfl (lv_room hrest) hdg hf) hS (fun q _ h => hFc q h) hFc (fun q _ h => hFc q h) (fun E ce q9 u t H1 locs1 ht hvm _ hB hz1 hk1 hS1 hce hcv hcl => ?_) (fun u t H1 locs1 ht hvm hw hB hz1 hk1 hS1 => ?_)
  · obtain ⟨hxp, hP1, hD1⟩ := hB
    rw [ht] at hP1
    obtain ⟨hP2, hD2⟩ := va_join (wr := wr) (w1 := u) hP hD isC isR hC hR hnR hdis hk1 hFc hP1 hD1
    exact kx E ce q9 u H1 locs1 hxp hP2 hD2 hS1 hce hcv hcl
  · obtain ⟨hP1, hD1⟩ := hB
    rw [ht] at hP1
    obtain ⟨hP2, hD2⟩ := va_join (wr := wr) (w1 := u) hP hD isC isR hC hR hnR hdis hk1 hFc hP1 hD1
    exact kk u H1 locs1 hw hP2 hD2 hS1
end XR
