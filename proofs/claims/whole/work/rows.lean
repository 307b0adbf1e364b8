section
-- ===== PART A: goes FIRST, ahead of the names: the tables' words, and 'selects' of the private methods out of them =====
/-- a private method of a class that the tables say can be made, by its rows of tables_1 -/
def lw_okq (q : MethodName × Nat) : Prop := (q.1.cls ≠ "java/lang/invoke/MethodHandle" ∧ q.1.cls ≠ "java/lang/invoke/VarHandle") ∧ Cond.instantiable q.1.cls q.2 ∈ tables_1 ∧ Cond.privateMethod q.1 ∈ tables_1 ∧ Cond.instanceMethod q.1 ∈ tables_1
theorem lw_p0 : lw_okq (⟨"StateBench", "mustMake", "()Z"⟩, 9) := ⟨⟨by decide +kernel, by decide +kernel⟩, List.mem_of_getElem? (i := 16) (by decide +kernel), List.mem_of_getElem? (i := 144) (by decide +kernel), List.mem_of_getElem? (i := 145) (by decide +kernel)⟩
theorem lw_p1 : lw_okq (⟨"StateBench", "ageOf", "(I)I"⟩, 9) := ⟨⟨by decide +kernel, by decide +kernel⟩, List.mem_of_getElem? (i := 16) (by decide +kernel), List.mem_of_getElem? (i := 152) (by decide +kernel), List.mem_of_getElem? (i := 153) (by decide +kernel)⟩
theorem lw_p2 : lw_okq (⟨"StateBench$Adverts", "isSameEntry", "(II)Z"⟩, 6) := ⟨⟨by decide +kernel, by decide +kernel⟩, List.mem_of_getElem? (i := 47) (by decide +kernel), List.mem_of_getElem? (i := 183) (by decide +kernel), List.mem_of_getElem? (i := 184) (by decide +kernel)⟩
theorem lw_p3 : lw_okq (⟨"StateBench", "takeIn", "(III)V"⟩, 9) := ⟨⟨by decide +kernel, by decide +kernel⟩, List.mem_of_getElem? (i := 16) (by decide +kernel), List.mem_of_getElem? (i := 187) (by decide +kernel), List.mem_of_getElem? (i := 188) (by decide +kernel)⟩
theorem lw_p4 : lw_okq (⟨"java/lang/Throwable", "fillInStackTrace", "(I)Ljava/lang/Throwable;"⟩, 6) := ⟨⟨by decide +kernel, by decide +kernel⟩, List.mem_of_getElem? (i := 266) (by decide +kernel), List.mem_of_getElem? (i := 264) (by decide +kernel), List.mem_of_getElem? (i := 265) (by decide +kernel)⟩
theorem lw_p5 : lw_okq (⟨"StateBench$Links", "removeFriendsOn", "(I)V"⟩, 4) := ⟨⟨by decide +kernel, by decide +kernel⟩, List.mem_of_getElem? (i := 27) (by decide +kernel), List.mem_of_getElem? (i := 320) (by decide +kernel), List.mem_of_getElem? (i := 321) (by decide +kernel)⟩
theorem lw_p6 : lw_okq (⟨"StateBench$Links", "removeFriendsFrom", "(II)V"⟩, 4) := ⟨⟨by decide +kernel, by decide +kernel⟩, List.mem_of_getElem? (i := 27) (by decide +kernel), List.mem_of_getElem? (i := 327) (by decide +kernel), List.mem_of_getElem? (i := 328) (by decide +kernel)⟩
theorem lw_p7 : lw_okq (⟨"StateBench", "hearOwn", "(I)I"⟩, 9) := ⟨⟨by decide +kernel, by decide +kernel⟩, List.mem_of_getElem? (i := 16) (by decide +kernel), List.mem_of_getElem? (i := 397) (by decide +kernel), List.mem_of_getElem? (i := 398) (by decide +kernel)⟩
theorem lw_p8 : lw_okq (⟨"StateBench", "hearOther", "(II)I"⟩, 9) := ⟨⟨by decide +kernel, by decide +kernel⟩, List.mem_of_getElem? (i := 16) (by decide +kernel), List.mem_of_getElem? (i := 401) (by decide +kernel), List.mem_of_getElem? (i := 402) (by decide +kernel)⟩
theorem lw_p9 : lw_okq (⟨"StateBench", "takeOutOld", "()I"⟩, 9) := ⟨⟨by decide +kernel, by decide +kernel⟩, List.mem_of_getElem? (i := 16) (by decide +kernel), List.mem_of_getElem? (i := 415) (by decide +kernel), List.mem_of_getElem? (i := 416) (by decide +kernel)⟩
theorem lw_p10 : lw_okq (⟨"StateBench$Ways", "beginAnew", "()V"⟩, 6) := ⟨⟨by decide +kernel, by decide +kernel⟩, List.mem_of_getElem? (i := 85) (by decide +kernel), List.mem_of_getElem? (i := 481) (by decide +kernel), List.mem_of_getElem? (i := 482) (by decide +kernel)⟩
theorem lw_p11 : lw_okq (⟨"StateBench$Ways", "nearestUnsettled", "()I"⟩, 6) := ⟨⟨by decide +kernel, by decide +kernel⟩, List.mem_of_getElem? (i := 85) (by decide +kernel), List.mem_of_getElem? (i := 485) (by decide +kernel), List.mem_of_getElem? (i := 486) (by decide +kernel)⟩
theorem lw_p12 : lw_okq (⟨"StateBench$Ways", "goOnFrom", "(I)V"⟩, 6) := ⟨⟨by decide +kernel, by decide +kernel⟩, List.mem_of_getElem? (i := 85) (by decide +kernel), List.mem_of_getElem? (i := 489) (by decide +kernel), List.mem_of_getElem? (i := 490) (by decide +kernel)⟩
theorem lw_p13 : lw_okq (⟨"StateBench$Ways", "reach", "(III)V"⟩, 6) := ⟨⟨by decide +kernel, by decide +kernel⟩, List.mem_of_getElem? (i := 85) (by decide +kernel), List.mem_of_getElem? (i := 495) (by decide +kernel), List.mem_of_getElem? (i := 496) (by decide +kernel)⟩
theorem lw_p14 : lw_okq (⟨"StateBench$Ways", "sumOver", "(II)I"⟩, 6) := ⟨⟨by decide +kernel, by decide +kernel⟩, List.mem_of_getElem? (i := 85) (by decide +kernel), List.mem_of_getElem? (i := 514) (by decide +kernel), List.mem_of_getElem? (i := 515) (by decide +kernel)⟩
theorem lw_p15 : lw_okq (⟨"StateBenchModel", "portCount", "()I"⟩, 16) := ⟨⟨by decide +kernel, by decide +kernel⟩, List.mem_of_getElem? (i := 552) (by decide +kernel), List.mem_of_getElem? (i := 618) (by decide +kernel), List.mem_of_getElem? (i := 619) (by decide +kernel)⟩
def lw_privs_1 : List (MethodName × Nat) := [(⟨"StateBench", "mustMake", "()Z"⟩, 9), (⟨"StateBench", "ageOf", "(I)I"⟩, 9), (⟨"StateBench$Adverts", "isSameEntry", "(II)Z"⟩, 6), (⟨"StateBench", "takeIn", "(III)V"⟩, 9), (⟨"java/lang/Throwable", "fillInStackTrace", "(I)Ljava/lang/Throwable;"⟩, 6), (⟨"StateBench$Links", "removeFriendsOn", "(I)V"⟩, 4), (⟨"StateBench$Links", "removeFriendsFrom", "(II)V"⟩, 4), (⟨"StateBench", "hearOwn", "(I)I"⟩, 9), (⟨"StateBench", "hearOther", "(II)I"⟩, 9), (⟨"StateBench", "takeOutOld", "()I"⟩, 9), (⟨"StateBench$Ways", "beginAnew", "()V"⟩, 6), (⟨"StateBench$Ways", "nearestUnsettled", "()I"⟩, 6), (⟨"StateBench$Ways", "goOnFrom", "(I)V"⟩, 6), (⟨"StateBench$Ways", "reach", "(III)V"⟩, 6), (⟨"StateBench$Ways", "sumOver", "(II)I"⟩, 6), (⟨"StateBenchModel", "portCount", "()I"⟩, 16)]
theorem lw_r1 : ∀ q ∈ lw_privs_1, lw_okq q := List.forall_mem_cons.mpr ⟨lw_p0, List.forall_mem_cons.mpr ⟨lw_p1, List.forall_mem_cons.mpr ⟨lw_p2, List.forall_mem_cons.mpr ⟨lw_p3, List.forall_mem_cons.mpr ⟨lw_p4, List.forall_mem_cons.mpr ⟨lw_p5, List.forall_mem_cons.mpr ⟨lw_p6, List.forall_mem_cons.mpr ⟨lw_p7, List.forall_mem_cons.mpr ⟨lw_p8, List.forall_mem_cons.mpr ⟨lw_p9, List.forall_mem_cons.mpr ⟨lw_p10, List.forall_mem_cons.mpr ⟨lw_p11, List.forall_mem_cons.mpr ⟨lw_p12, List.forall_mem_cons.mpr ⟨lw_p13, List.forall_mem_cons.mpr ⟨lw_p14, List.forall_mem_cons.mpr ⟨lw_p15, fun _ h => absurd h List.not_mem_nil⟩⟩⟩⟩⟩⟩⟩⟩⟩⟩⟩⟩⟩⟩⟩⟩
theorem lw_p16 : lw_okq (⟨"StateBenchModel", "friendCount", "()I"⟩, 16) := ⟨⟨by decide +kernel, by decide +kernel⟩, List.mem_of_getElem? (i := 552) (by decide +kernel), List.mem_of_getElem? (i := 626) (by decide +kernel), List.mem_of_getElem? (i := 627) (by decide +kernel)⟩
theorem lw_p17 : lw_okq (⟨"StateBenchModel", "find", "(III)I"⟩, 16) := ⟨⟨by decide +kernel, by decide +kernel⟩, List.mem_of_getElem? (i := 552) (by decide +kernel), List.mem_of_getElem? (i := 639) (by decide +kernel), List.mem_of_getElem? (i := 640) (by decide +kernel)⟩
theorem lw_p18 : lw_okq (⟨"StateBenchModel", "add", "(IIII)V"⟩, 16) := ⟨⟨by decide +kernel, by decide +kernel⟩, List.mem_of_getElem? (i := 552) (by decide +kernel), List.mem_of_getElem? (i := 643) (by decide +kernel), List.mem_of_getElem? (i := 644) (by decide +kernel)⟩
theorem lw_p19 : lw_okq (⟨"StateBenchModel", "copy", "(II)V"⟩, 16) := ⟨⟨by decide +kernel, by decide +kernel⟩, List.mem_of_getElem? (i := 552) (by decide +kernel), List.mem_of_getElem? (i := 651) (by decide +kernel), List.mem_of_getElem? (i := 652) (by decide +kernel)⟩
theorem lw_p20 : lw_okq (⟨"StateBenchModel", "tell", "()V"⟩, 16) := ⟨⟨by decide +kernel, by decide +kernel⟩, List.mem_of_getElem? (i := 552) (by decide +kernel), List.mem_of_getElem? (i := 664) (by decide +kernel), List.mem_of_getElem? (i := 665) (by decide +kernel)⟩
theorem lw_p21 : lw_okq (⟨"StateBenchModel", "isToldNow", "()Z"⟩, 16) := ⟨⟨by decide +kernel, by decide +kernel⟩, List.mem_of_getElem? (i := 552) (by decide +kernel), List.mem_of_getElem? (i := 668) (by decide +kernel), List.mem_of_getElem? (i := 669) (by decide +kernel)⟩
theorem lw_p22 : lw_okq (⟨"StateBenchModel", "check", "()V"⟩, 16) := ⟨⟨by decide +kernel, by decide +kernel⟩, List.mem_of_getElem? (i := 552) (by decide +kernel), List.mem_of_getElem? (i := 692) (by decide +kernel), List.mem_of_getElem? (i := 693) (by decide +kernel)⟩
theorem lw_p23 : lw_okq (⟨"StateBenchModel", "spread", "(I)V"⟩, 16) := ⟨⟨by decide +kernel, by decide +kernel⟩, List.mem_of_getElem? (i := 552) (by decide +kernel), List.mem_of_getElem? (i := 696) (by decide +kernel), List.mem_of_getElem? (i := 697) (by decide +kernel)⟩
theorem lw_p24 : lw_okq (⟨"StateBenchModel", "reach", "(I)I"⟩, 16) := ⟨⟨by decide +kernel, by decide +kernel⟩, List.mem_of_getElem? (i := 552) (by decide +kernel), List.mem_of_getElem? (i := 704) (by decide +kernel), List.mem_of_getElem? (i := 705) (by decide +kernel)⟩
theorem lw_p25 : lw_okq (⟨"StateBenchModel", "step", "(II)I"⟩, 16) := ⟨⟨by decide +kernel, by decide +kernel⟩, List.mem_of_getElem? (i := 552) (by decide +kernel), List.mem_of_getElem? (i := 712) (by decide +kernel), List.mem_of_getElem? (i := 713) (by decide +kernel)⟩
def lw_privs_2 : List (MethodName × Nat) := [(⟨"StateBenchModel", "friendCount", "()I"⟩, 16), (⟨"StateBenchModel", "find", "(III)I"⟩, 16), (⟨"StateBenchModel", "add", "(IIII)V"⟩, 16), (⟨"StateBenchModel", "copy", "(II)V"⟩, 16), (⟨"StateBenchModel", "tell", "()V"⟩, 16), (⟨"StateBenchModel", "isToldNow", "()Z"⟩, 16), (⟨"StateBenchModel", "check", "()V"⟩, 16), (⟨"StateBenchModel", "spread", "(I)V"⟩, 16), (⟨"StateBenchModel", "reach", "(I)I"⟩, 16), (⟨"StateBenchModel", "step", "(II)I"⟩, 16)]
theorem lw_r2 : ∀ q ∈ lw_privs_2, lw_okq q := List.forall_mem_cons.mpr ⟨lw_p16, List.forall_mem_cons.mpr ⟨lw_p17, List.forall_mem_cons.mpr ⟨lw_p18, List.forall_mem_cons.mpr ⟨lw_p19, List.forall_mem_cons.mpr ⟨lw_p20, List.forall_mem_cons.mpr ⟨lw_p21, List.forall_mem_cons.mpr ⟨lw_p22, List.forall_mem_cons.mpr ⟨lw_p23, List.forall_mem_cons.mpr ⟨lw_p24, List.forall_mem_cons.mpr ⟨lw_p25, fun _ h => absurd h List.not_mem_nil⟩⟩⟩⟩⟩⟩⟩⟩⟩⟩
def lw_privs : List (MethodName × Nat) := lw_privs_1 ++ (lw_privs_2)
def lw_tbl : List Cond := k2_sels lw_privs ++ tables_1
theorem lw_privs_ok : ∀ q ∈ lw_privs, lw_okq q := by
  show ∀ q ∈ lw_privs_1 ++ (lw_privs_2), lw_okq q
  exact List.forall_mem_append.mpr ⟨lw_r1, lw_r2⟩
end
section
/-! ===== BEGIN words of one list among another's, by their places ===== -/
theorem goodIn_r {big : List Cond} (ws : List Cond) (ps : List Nat) (hp : ws = ps.filterMap (fun i => big[i]?)) (h : ws.all goodWord = true) : GoodIn big ws := by
  intro w hw
  have h1 := List.all_eq_true.mp h w hw
  rw [hp] at hw
  obtain ⟨i, -, hi⟩ := List.mem_filterMap.mp hw
  have hm : w ∈ big := by first | exact List.mem_of_getElem? hi | exact List.getElem?_mem hi
  exact ⟨hm, good_of_word h1⟩
theorem goodIn_app {big a b : List Cond} (ha : GoodIn big a) (hb : GoodIn big b) : GoodIn big (a ++ b) := fun w h => (List.mem_append.mp h).elim (ha w) (hb w)
theorem goodIn_ca {big a b : List Cond} {c : Cond} (ha : GoodIn big (c :: a)) (hb : GoodIn big b) : GoodIn big (c :: (a ++ b)) := fun w h => (List.mem_cons.mp h).elim (fun e => ha w (List.mem_cons.mpr (Or.inl e))) (fun h => (List.mem_append.mp h).elim (fun h => ha w (List.mem_cons.mpr (Or.inr h))) (hb w))
theorem goodIn_sub {big ws : List Cond} (hm : ∀ w ∈ ws, w ∈ big) (h : ws.all goodWord = true) : GoodIn big ws := fun w hw => ⟨hm w hw, good_of_word (List.all_eq_true.mp h w hw)⟩
/-! ===== END ===== -/

/-! ===== BEGIN exceptions that leave a method, and their catching by the caller (launches without stack traces) ===== -/
section VXA
/-! The laws vx_back, vx_callV, vx_callS, vx_callSW, vx_throw0, vx_throwS follow proofs of the library, with one case more: JvmDerived/Free/Laws.lean (Back.of_free), Shelf42/LK1.lean (callV, callS), Shelf/KitTraced.lean (throwNew0V, throwNewS). -/
/-- where a method has thrown q: the class by its name, the cell, what was written, the world -/
def vx_T (XC : String → State → State → Prop) (st : State) (q : Addr) (t : State) (mc ms : Nat) (free : Addr → Prop) : Prop :=
  ∃ (E : String) (ce : Cell) (L : List Loc), XC E st t ∧ t.heap[q]? = some ce ∧ ce.vm = .none ∧ st.vm.findClass E = some ce.cls ∧ st.WarmedH t.vm ∧ st.sameButNew ({ t with vm := st.vm } : State) L mc ms ∧ ∀ z ∈ L, free z.base
def vx_Q (Qc : Array Value → State → Outcome → State → Prop) (XC : String → State → State → Prop) (mc ms : Nat) (free : Addr → Prop) : Array Value → State → Outcome → State → Prop := fun a st o t =>
  (Qc a st o t ∧ ∃ L, FrameEnd st o t L mc ms ∧ ∀ q ∈ L, free q.base) ∨ ∃ q, o = .threw q ∧ vx_T XC st q t mc ms free
/-- a callee that returns or throws -/
def vx_Met (l : Launch) (y : MethodName) (ws : List Cond) (rm : Room) (Pc : Array Value → State → Prop) (Qc : Array Value → State → Outcome → State → Prop) (XC : String → State → State → Prop) (mc ms : Nat) (free : Addr → Prop) : Prop :=
  MetFree l y (headSpec ws rm) Pc (fun _ _ _ _ _ => True) (vx_Q Qc XC mc ms free)
def vx_Post (XC : String → State → State → Prop) (mc ms : Nat) (free : Addr → Prop) : Pt → Array Value → Addr → Pt → Prop := fun A a q B =>
  ∃ (g : JFrame) (mk : MethodId) (t : State) (L : List Loc) (E : String) (ce : Cell), B.U.heap = t.heap ∧ B.U.vm = t.vm ∧ XC E (A.U.calling g mk a) t ∧ t.heap[q]? = some ce ∧ ce.vm = .none ∧ A.U.vm.findClass E = some ce.cls ∧ B.locs = A.locs ++ L ∧ (∀ z ∈ L, free z.base) ∧ B.cells = A.cells + mc ∧ B.slots = A.slots + ms
def vx_Back (l : Launch) (R : Room) (p : Program) (e : Env) (below : List Frame) (s : State) (sargs : Array Value) (y : MethodName) (len W9 : Nat)
    (Pre : Pt → Array Value → Prop) (Post : Pt → Array Value → Option Value → Pt → Prop) (PostX : Pt → Array Value → Addr → Pt → Prop) : Prop :=
  ∀ (m : MethodId) (meth : Method) (c : Code) (A : Pt) (g : JFrame) (ig : Instr) (mk : MethodId) (a : Array Value),
    Stand p l e R s m sargs below meth c A.U A.locs A.cells A.slots → g.method = m → g.locals.size = c.maxLocals → decode c.code g.pc = .ok (ig, len) →
    2 * g.monitorRoom + (g.stack.map fun v => v.category).sum ≤ W9 → A.U.methodNamed? y = some mk → Pre A a →
    (∃ (v : Option Value) (B : Pt), Stand p l e R s m sargs below meth c B.U B.locs B.cells B.slots ∧ Post A a v B ∧
      Steps p.tables e below (doInvoke e (A.U.setTop g) [] mk a).1 (B.U.setTop { g with pc := g.pc + len, stack := v.toList ++ g.stack })) ∨
    (∃ (q : Addr) (B : Pt), Stand p l e R s m sargs below meth c B.U B.locs B.cells B.slots ∧ PostX A a q B ∧
      Steps p.tables e below (doInvoke e (A.U.setTop g) [] mk a).1 ((B.U.setTop g).pushFrame (.throwing q)))
section Payer
variable {l : Launch} {R : Room} {p : Program} {e : Env} {below : List Frame} {s : State} {sargs : Array Value} {y : MethodName} {len W9 : Nat}
theorem vx_back {ws : List Cond} {rm : Room} {Pc : Array Value → State → Prop} {Qc : Array Value → State → Outcome → State → Prop} {XC : String → State → State → Prop} {mc ms : Nat} {free : Addr → Prop} {bytes : ByteArray} {maxL : Nat} {ret : Option FieldType}
    (hM : vx_Met l y ws rm Pc Qc XC mc ms free) (hblind : FrameBlind Pc) (hrc : rm.cells = mc) (hrs : rm.slots = ms)
    (hframes : rm.frames + 1 ≤ R.frames) (hlocals : W9 + (maxL + 11) + rm.locals ≤ R.locals)
    (hws : ∀ w ∈ ws, ∀ a' U, s.WarmedH U.vm → w.before a' U = true) (hcode : Cond.code y bytes maxL ret ∈ ws) (hinit : ∀ a' U, s.WarmedH U.vm → (Cond.initialized y.cls).before a' U = true) :
    vx_Back l R p e below s sargs y len W9 (PreOf R mc ms Pc) (PostOf Qc mc ms free) (vx_Post XC mc ms free) := by
  intro m meth c A g ig mk a X hg hsize hdg hW hn hp
  have h1 : (headSpec ws rm).pre.before a A.U = true := atoms_intro fun w hw => hws w hw _ _ X.warmed
  have h2 : (Cond.code y bytes maxL ret).before a A.U = true := hws _ hcode _ _ X.warmed
  have h3 : (Cond.initialized y.cls).before a A.U = true := hinit _ _ X.warmed
  have h4 : A.cells + (headSpec ws rm).room.cells ≤ R.cells := by rw [show (headSpec ws rm).room.cells = mc from hrc]; exact hp.1
  have h5 : A.slots + (headSpec ws rm).room.slots ≤ R.slots := by rw [show (headSpec ws rm).room.slots = ms from hrs]; exact hp.2.1
  have hPc : Pc a (A.U.calling g mk a) := hblind _ _ _ _ hp.2.2
  obtain ⟨U, Ls, c0, s0⟩ := A
  dsimp only [Pt.U, Pt.locs, Pt.cells, Pt.slots] at h1 h2 h3 h4 h5 X hn hPc ⊢
  obtain ⟨methY, cY, hmY, hcY, -, hlY, -, -, -, -⟩ := Cond.code_spec hn h2
  obtain ⟨kY, hkY, -⟩ := className_of_methodNamed hn
  have hinitY : kY.init = .initialized := Cond.initialized_spec (findClass_of_methodNamed hn) hkY h3
  have h : At U g.method c below := by rw [hg]; exact X.here
  have hlocals9 : W9 + (maxL + 11) + (headSpec ws rm).room.locals ≤ R.locals := hlocals
  have happ : (headSpec ws rm).appliesLoose y e.platform (U.calling g mk a) = true :=
    Spec.appliesLoose_calling (g := g) h hdg hn hkY hinitY
      (X.room_calling (g := g) (R' := (headSpec ws rm).room) hsize hmY hcY hframes (by rw [hlY]; omega) h4 h5) h1
  obtain ⟨mid, hmid⟩ := h.above
  have hfr : (U.setTop g).frames = (.java g :: mid) ++ below := by rw [State.frames_setTop' g h.top, hmid]; rfl
  obtain ⟨o, s₂, hsteps, -, hend, hq⟩ := Steps.callFree hM p X.admits X.cas X.clock (acts := []) hfr happ hPc trivial
  have hq' : vx_Q Qc XC mc ms free a (U.calling g mk a) o s₂ := hq
  rw [State.frames_setTop' g h.top] at hend
  obtain ⟨g₀, hg0⟩ := Option.isSome_iff_exists.mp h.top
  obtain ⟨r, hr⟩ := State.topJava?_eq_some.mp hg0
  have hr' : (({ U with heap := s₂.heap, slotsUsed := s₂.slotsUsed } : State).setVm s₂.vm).frames = .java g₀ :: r := hr
  rcases hq' with ⟨hqc, L, hfe, hL⟩ | ⟨q, rfl, E, ce, L, hx, hce, hcv, hcl, hW₂, hsm, hL⟩
  · obtain ⟨⟨v, rfl⟩, hW₂, e2, q2, q3, q4, q5, q6⟩ := id hfe
    have e3 : s₂ = ({ (U.calling g mk a).setFrames s₂.frames with heap := s₂.heap, slotsUsed := s₂.slotsUsed } : State).setVm s₂.vm := by
      have : s₂ = ({ s₂ with vm := (U.calling g mk a).vm } : State).setVm s₂.vm := rfl
      rw [e2] at this
      exact this
    obtain ⟨c₂, i₂, len₂, hc₂, hd₂, hf₂⟩ := hend
    have hW' : U.WarmedH s₂.vm := hW₂
    have hcc : c₂ = c := by
      have h1 : s₂.code? g.method = U.code? g.method := by
        rw [State.code?_eq, State.code?_eq, hW'.alike.method?]
      exact Option.some.inj (hc₂.symm.trans (h1.trans h.code))
    subst hcc
    have hlen : len₂ = len := by rw [hdg] at hd₂; cases hd₂; rfl
    subst hlen
    have hs₂ : s₂ = (({ U with heap := s₂.heap, slotsUsed := s₂.slotsUsed } : State).setVm s₂.vm).setTop { g with pc := g.pc + len₂, stack := v.toList ++ g.stack } := by
      refine e3.trans ?_
      rw [hf₂, State.calling_eq h.top, State.setFrames_setFrames, State.setTop_of_frames _ hr', hr]
      rfl
    have hsame : U.sameButNew ({ U with heap := s₂.heap, slotsUsed := s₂.slotsUsed } : State) L mc ms := by
      refine ⟨?_, q2, q3, q4, q5, q6⟩
      obtain ⟨t, ht, -⟩ := State.frames_cons hr
      show ({ U with heap := s₂.heap, slotsUsed := s₂.slotsUsed } : State) = { U.setFrames U.frames with heap := s₂.heap, slotsUsed := s₂.slotsUsed }
      rw [State.setFrames_self ht]
    subst hg
    refine Or.inl ⟨v, ⟨(({ U with heap := s₂.heap, slotsUsed := s₂.slotsUsed } : State).setVm s₂.vm), Ls ++ L, c0 + mc, s0 + ms⟩,
      ⟨X.admits, X.cas, X.clock, X.frames, X.room, X.hears, X.method, X.code, (X.here.setHeapUsed s₂.heap s₂.slotsUsed).setVm hW'.alike, X.tail, State.WarmedH.trans X.warmed hW', X.limits, X.bytes, X.same.trans (hsame.setVm s.vm)⟩,
      ⟨g, mk, s₂, L, rfl, rfl, hqc, rfl, hL, rfl, rfl⟩, ?_⟩
    show Steps p.tables e below _ ((({ U with heap := s₂.heap, slotsUsed := s₂.slotsUsed } : State).setVm s₂.vm).setTop { g with pc := g.pc + len₂, stack := v.toList ++ g.stack })
    rw [← hs₂]
    exact hsteps
  · obtain ⟨e2, q2, q3, q4, q5, q6⟩ := id hsm
    have e3 : s₂ = ({ (U.calling g mk a).setFrames s₂.frames with heap := s₂.heap, slotsUsed := s₂.slotsUsed } : State).setVm s₂.vm := by
      have : s₂ = ({ s₂ with vm := (U.calling g mk a).vm } : State).setVm s₂.vm := rfl
      rw [e2] at this
      exact this
    have hf₂ : s₂.frames = .throwing q :: .java g :: U.frames.tail := hend
    have hW' : U.WarmedH s₂.vm := hW₂
    have hs₂ : s₂ = ((({ U with heap := s₂.heap, slotsUsed := s₂.slotsUsed } : State).setVm s₂.vm).setTop g).pushFrame (.throwing q) := by
      refine e3.trans ?_
      rw [hf₂, State.calling_eq h.top, State.setFrames_setFrames, State.pushFrame, State.frames_setTop _ hr', State.setTop_of_frames _ hr', State.setFrames_setFrames, hr]
      rfl
    have hsame : U.sameButNew ({ U with heap := s₂.heap, slotsUsed := s₂.slotsUsed } : State) L mc ms := by
      refine ⟨?_, q2, q3, q4, q5, q6⟩
      obtain ⟨t, ht, -⟩ := State.frames_cons hr
      show ({ U with heap := s₂.heap, slotsUsed := s₂.slotsUsed } : State) = { U.setFrames U.frames with heap := s₂.heap, slotsUsed := s₂.slotsUsed }
      rw [State.setFrames_self ht]
    subst hg
    refine Or.inr ⟨q, ⟨(({ U with heap := s₂.heap, slotsUsed := s₂.slotsUsed } : State).setVm s₂.vm), Ls ++ L, c0 + mc, s0 + ms⟩,
      ⟨X.admits, X.cas, X.clock, X.frames, X.room, X.hears, X.method, X.code, (X.here.setHeapUsed s₂.heap s₂.slotsUsed).setVm hW'.alike, X.tail, State.WarmedH.trans X.warmed hW', X.limits, X.bytes, X.same.trans (hsame.setVm s.vm)⟩,
      ⟨g, mk, s₂, L, E, ce, rfl, rfl, hx, hce, hcv, hcl, rfl, hL, rfl, rfl⟩, ?_⟩
    show Steps p.tables e below _ (((({ U with heap := s₂.heap, slotsUsed := s₂.slotsUsed } : State).setVm s₂.vm).setTop g).pushFrame (.throwing q))
    rw [← hs₂]
    exact hsteps
end Payer
section Calls
variable {p : Program} {l : Launch} {e : Env} {R : Room} {s : State} {m : MethodId} {args : Array Value} {below : List Frame} {meth : Method} {c : Code} {T : State} {locs : List Loc} {cells slots : Nat}
theorem vx_callV (X : Stand p l e R s m args below meth c T locs cells slots) (hexec : p.tables.exec = Jvm.exec) {own C : String} {index : Nat} {y : MethodName} {bytes : ByteArray} {maxL : Nat} {ret : Option FieldType}
    (hown : s.vm.findClass own = some m.cls) (hlink : (Cond.methodLink own index y).before args s = true) (hinst : (Cond.instanceMethod y).before args s = true) (hsel : (Cond.selects C y y).before args s = true)
    (hcode : (Cond.code y bytes maxL ret).before args s = true) (hy : y.cls ≠ "java/lang/invoke/MethodHandle" ∧ y.cls ≠ "java/lang/invoke/VarHandle")
    {W9 : Nat} {Pre : Pt → Array Value → Prop} {Post : Pt → Array Value → Option Value → Pt → Prop} {PostX : Pt → Array Value → Addr → Pt → Prop} (hK : vx_Back l R p e below s args y 3 W9 Pre Post PostX)
    {b : Addr} {cellB : Cell} (hcell : T.heap[b]? = some cellB) (hobj : cellB.vm.isStatics = false) (hcls : s.vm.findClass C = some cellB.cls)
    {g : JFrame} (hg : g.method = m) (hsize : g.locals.size = c.maxLocals) {argsL rest : List Value} (hlen : ∀ sig, parseMethodDescriptor y.desc = some sig → argsL.length = sig.parameters.length)
    (hstack : g.stack = argsL.reverse ++ .ref b :: rest) (hW : 2 * g.monitorRoom + (rest.map fun v => v.category).sum ≤ W9) (hdg : decode c.code g.pc = .ok (.invokevirtual index, 3))
    (hpre : ∀ vm₁, s.WarmedH vm₁ → Pre ⟨T.setVm vm₁, locs, cells, slots⟩ (Value.ref b :: argsL).toArray) :
    (∃ (v : Option Value) (vm₁ : Vm) (B : Pt), s.WarmedH vm₁ ∧ Stand p l e R s m args below meth c B.U B.locs B.cells B.slots ∧ Post ⟨T.setVm vm₁, locs, cells, slots⟩ (Value.ref b :: argsL).toArray v B ∧
      ∀ target, Steps p.tables e below (B.U.setTop { g with pc := g.pc + 3, stack := v.toList ++ rest }) target → Steps p.tables e below (T.setTop g) target) ∨
    (∃ (q : Addr) (vm₁ : Vm) (B : Pt), s.WarmedH vm₁ ∧ Stand p l e R s m args below meth c B.U B.locs B.cells B.slots ∧ PostX ⟨T.setVm vm₁, locs, cells, slots⟩ (Value.ref b :: argsL).toArray q B ∧
      Steps p.tables e below (T.setTop g) ((B.U.setTop { g with stack := rest }).pushFrame (.throwing q))) := by
  obtain ⟨mk, methM, hnamed, hmethM, hstM, habM⟩ := Cond.instanceMethod_spec hinst
  obtain ⟨methM', cM, hmethM', -, -, -, -, -, -, hsigM⟩ := Cond.code_spec hnamed hcode
  cases hmethM.symm.trans hmethM'
  obtain ⟨c2, r2, m2, q1, q2, q3, q4, kP, hkP, hkPi⟩ := Cond.selects_spec hsel
  cases hcls.symm.trans q1
  cases (State.methodFound?_of_named hnamed hy).symm.trans q2
  cases hnamed.symm.trans q3
  have hselP : selectMethod e.platform s.vm cellB.cls mk = .method mk := by rw [Launch.admits_selectMethod X.admits]; exact q4
  obtain ⟨vm₁, X₁, hstep₁⟩ := X.invokevirtual hexec hown hlink hnamed hmethM hstM hkP hkPi hy (a := b) (cell := cellB) hcell
    (fun z h => by rw [h] at hobj; cases hobj) hselP hmethM habM hkP hkPi (g := g) hg (argsL := argsL) (rest := rest) (hlen _ hsigM) hstack hdg
  rcases hK m meth c ⟨T.setVm vm₁, locs, cells, slots⟩ { g with stack := rest } (.invokevirtual index) mk (Value.ref b :: argsL).toArray X₁ hg hsize hdg hW (X₁.named hnamed) (hpre vm₁ X₁.warmed) with ⟨v, B, X', hpost, hsteps⟩ | ⟨q, B, X', hpost, hsteps⟩
  · exact Or.inl ⟨v, vm₁, B, X₁.warmed, X', hpost, fun target h => hstep₁ _ fun acts => by rw [doInvoke_state]; exact hsteps.trans h⟩
  · exact Or.inr ⟨q, vm₁, B, X₁.warmed, X', hpost, hstep₁ _ fun acts => by rw [doInvoke_state]; exact hsteps⟩
theorem vx_callS (X : Stand p l e R s m args below meth c T locs cells slots) (hexec : p.tables.exec = Jvm.exec) {own : String} {index : Nat} {y : MethodName} {bytes : ByteArray} {maxL : Nat} {ret : Option FieldType}
    (hown : s.vm.findClass own = some m.cls) (hlink : (Cond.methodLink own index y).before args s = true) (hstat : (Cond.static y).before args s = true) (hinit : (Cond.initialized y.cls).before args s = true)
    (hcode : (Cond.code y bytes maxL ret).before args s = true) (hy : y.cls ≠ "java/lang/invoke/MethodHandle" ∧ y.cls ≠ "java/lang/invoke/VarHandle")
    {W9 : Nat} {Pre : Pt → Array Value → Prop} {Post : Pt → Array Value → Option Value → Pt → Prop} {PostX : Pt → Array Value → Addr → Pt → Prop} (hK : vx_Back l R p e below s args y 3 W9 Pre Post PostX)
    {g : JFrame} (hg : g.method = m) (hsize : g.locals.size = c.maxLocals) {argsL rest : List Value} (hlen : ∀ sig, parseMethodDescriptor y.desc = some sig → argsL.length = sig.parameters.length)
    (hstack : g.stack = argsL.reverse ++ rest) (hW : 2 * g.monitorRoom + (rest.map fun v => v.category).sum ≤ W9) (hdg : decode c.code g.pc = .ok (.invokestatic index, 3))
    (hpre : ∀ vm₁, s.WarmedH vm₁ → Pre ⟨T.setVm vm₁, locs, cells, slots⟩ argsL.toArray) :
    (∃ (v : Option Value) (vm₁ : Vm) (B : Pt), s.WarmedH vm₁ ∧ Stand p l e R s m args below meth c B.U B.locs B.cells B.slots ∧ Post ⟨T.setVm vm₁, locs, cells, slots⟩ argsL.toArray v B ∧
      ∀ target, Steps p.tables e below (B.U.setTop { g with pc := g.pc + 3, stack := v.toList ++ rest }) target → Steps p.tables e below (T.setTop g) target) ∨
    (∃ (q : Addr) (vm₁ : Vm) (B : Pt), s.WarmedH vm₁ ∧ Stand p l e R s m args below meth c B.U B.locs B.cells B.slots ∧ PostX ⟨T.setVm vm₁, locs, cells, slots⟩ argsL.toArray q B ∧
      Steps p.tables e below (T.setTop g) ((B.U.setTop { g with stack := rest }).pushFrame (.throwing q))) := by
  obtain ⟨mk, hnamed⟩ := Cond.code_named hcode
  obtain ⟨methM, cM, hmethM, -, -, -, -, -, -, hsigM⟩ := Cond.code_spec hnamed hcode
  have hstatic : methM.isStatic = true := Cond.static_spec hnamed hmethM hstat
  obtain ⟨kP, hkP, -⟩ := className_of_methodNamed hnamed
  have hinitP : kP.init = .initialized := Cond.initialized_spec (findClass_of_methodNamed hnamed) hkP hinit
  obtain ⟨vm₁, X₁, hstep₁⟩ := X.invokestatic hexec hown hlink hnamed hmethM hstatic hkP hinitP hy (g := g) hg (argsL := argsL) (rest := rest) (hlen _ hsigM) hstack hdg
  rcases hK m meth c ⟨T.setVm vm₁, locs, cells, slots⟩ { g with stack := rest } (.invokestatic index) mk argsL.toArray X₁ hg hsize hdg hW (X₁.named hnamed) (hpre vm₁ X₁.warmed) with ⟨v, B, X', hpost, hsteps⟩ | ⟨q, B, X', hpost, hsteps⟩
  · exact Or.inl ⟨v, vm₁, B, X₁.warmed, X', hpost, fun target h => hstep₁ _ fun acts => by rw [doInvoke_state]; exact hsteps.trans h⟩
  · exact Or.inr ⟨q, vm₁, B, X₁.warmed, X', hpost, hstep₁ _ fun acts => by rw [doInvoke_state]; exact hsteps⟩
end Calls
theorem vx_cls {s : State} {T : State} {vm₁ : Vm} {E : String} {k : ClassId} (hW : s.WarmedH vm₁) (h : (T.setVm vm₁).vm.findClass E = some k) : s.vm.findClass E = some k := by
  have h1 : vm₁.findClass E = some k := h
  rw [hW.alike.findClass] at h1
  exact h1
/-- the method's frame g, with q thrown over it -/
def vx_W (p : Program) (l : Launch) (e : Env) (R : Room) (s : State) (m : MethodId) (args : Array Value) (below : List Frame) (meth : Method) (c : Code) (H : Heap) (locs : List Loc) (cells slots : Nat) (Q : State → Prop) (g : JFrame) (q : Addr) : Prop :=
  ∀ T : State, T.heap = H → Stand p l e R s m args below meth c T locs cells slots → ∃ t, Steps p.tables e below ((T.setTop g).pushFrame (.throwing q)) t ∧ Q t
def vx_Run (p : Program) (l : Launch) (e : Env) (R : Room) (s : State) (m : MethodId) (args : Array Value) (below : List Frame) (meth : Method) (c : Code) (H : Heap) (locs : List Loc) (cells slots mc ms : Nat) (g : JFrame) (rest : List Value) (Qa : State → Outcome → State → Prop) (XC : String → State → State → Prop) (free : Addr → Prop) : Prop :=
  ∀ T : State, T.heap = H → Stand p l e R s m args below meth c T locs cells slots →
    (∃ (v : Option Value) (st₀ t T' : State) (L : List Loc), st₀.heap = H ∧ Stand p l e R s m args below meth c T' (locs ++ L) (cells + mc) (slots + ms) ∧ (∀ q ∈ L, free q.base) ∧ T'.heap = t.heap ∧ T'.vm = t.vm ∧ Qa st₀ (.returned v) t ∧
      Goes p e below T g T' { g with pc := g.pc + 3, stack := v.toList ++ rest }) ∨
    (∃ (q : Addr) (st₀ t T' : State) (L : List Loc) (E : String) (ce : Cell), st₀.heap = H ∧ Stand p l e R s m args below meth c T' (locs ++ L) (cells + mc) (slots + ms) ∧ (∀ z ∈ L, free z.base) ∧ T'.heap = t.heap ∧ T'.vm = t.vm ∧ XC E st₀ t ∧ t.heap[q]? = some ce ∧ ce.vm = .none ∧ s.vm.findClass E = some ce.cls ∧
      Steps p.tables e below (T.setTop g) ((T'.setTop { g with stack := rest }).pushFrame (.throwing q)))
def vx_X {S : Type} (px : S → Prop) (B : String → S → State → Prop) (A : Nat → Prop) : String → State → State → Prop := fun E st t => ∃ u : S, px u ∧ B E u t ∧ va_F A st t
section Runs
variable {p : Program} {l : Launch} {e : Env} {R : Room} {s : State} {m : MethodId} {args : Array Value} {below : List Frame} {meth : Method} {c : Code} {H : Heap} {locs : List Loc} {cells slots : Nat}
variable {y : MethodName} {bytes cc : ByteArray} {maxL nL mc ms n index : Nat} {ret : Option FieldType} {ws : List Cond} {rm : Room} {Pc : Array Value → State → Prop} {Qc : Array Value → State → Outcome → State → Prop} {XC : String → State → State → Prop} {free : Addr → Prop} {Ts : List Cond} {own C : String} {b : Addr} {As rest : List Value} {g : JFrame}
theorem vx_callBack (cb : CallB R s args own index y bytes maxL ret ws rm mc ms n) (hM : vx_Met l y ws rm Pc Qc XC mc ms free) (hbl : FrameBlind Pc) : vx_Back l R p e below s args y 3 8 (PreOf R mc ms Pc) (PostOf Qc mc ms free) (vx_Post XC mc ms free) := by
  obtain ⟨hrc, hrs, hfr, hlo, hws, hcw, -, hini, -⟩ := cb
  exact vx_back (bytes := bytes) (maxL := maxL) (ret := ret) hM hbl hrc hrs hfr hlo hws hcw (fun a' U hW => word_at hW (Or.inl (by first | rfl | simp [Cond.onTables, Cond.keeps, Cond.steady])) hini)
theorem vx_runV (S : CallFix p m c cc nL s args Ts own) (hM : vx_Met l y ws rm Pc Qc XC mc ms free) (cw : CallW R s args own C index y bytes maxL ret ws rm mc ms n) (hp : PreV s H C b Pc As)
    (hg : g.method = m) (hn : As.length = n) (hsize : g.locals.size = nL) (hstack : g.stack = As.reverse ++ .ref b :: rest) (hW : 2 * g.monitorRoom + (rest.map fun v => v.category).sum ≤ 8) (hdg : decode cc g.pc = .ok (.invokevirtual index, 3)) (hf : cells + mc ≤ R.cells ∧ slots + ms ≤ R.slots) :
    vx_Run p l e R s m args below meth c H locs cells slots mc ms g rest (Qc (Value.ref b :: As).toArray) XC free := by
  have hK : vx_Back l R p e below s args y 3 8 (PreOf R mc ms Pc) (PostOf Qc mc ms free) (vx_Post XC mc ms free) := vx_callBack cw.1 hM hp.1
  obtain ⟨⟨-, -, -, -, -, -, hcode, -, hy, hlen, hl⟩, hin, hse⟩ := cw
  obtain ⟨hx, hb, hml, ho, -⟩ := S
  obtain ⟨-, ⟨cellB, hcB, hoB, hclB⟩, hPc⟩ := hp
  intro T hT X
  rcases vx_callV X hx (C := C) (bytes := bytes) (maxL := maxL) (ret := ret) ho hl hin hse hcode hy hK (by rw [hT]; exact hcB) hoB hclB hg (hsize.trans hml.symm) (argsL := As) (rest := rest) (fun sig h => hn.trans (hlen sig h)) hstack hW (by rw [hb]; exact hdg)
    (fun vm₁ hW₁ => ⟨hf.1, hf.2, hPc (T.setVm vm₁) hT hW₁⟩) with ⟨v, vm₁, ⟨U', l2, c2, s2⟩, hW₁, X', ⟨g', mk, t, L, e1, e2, hq, h1, hL, h2, h3⟩, st⟩ | ⟨q, vm₁, ⟨U', l2, c2, s2⟩, hW₁, X', ⟨g', mk, t, L, E, ce, e1, e2, hq, hce, hcv, hcl, h1, hL, h2, h3⟩, st⟩
  · dsimp only [Pt.U, Pt.locs, Pt.cells, Pt.slots] at X' e1 e2 h1 h2 h3 st
    subst h1; subst h2; subst h3
    exact Or.inl ⟨v, (T.setVm vm₁).calling g' mk (Value.ref b :: As).toArray, t, U', L, hT, X', hL, e1, e2, hq, st⟩
  · dsimp only [Pt.U, Pt.locs, Pt.cells, Pt.slots] at X' e1 e2 h1 h2 h3 st hcl
    subst h1; subst h2; subst h3
    exact Or.inr ⟨q, (T.setVm vm₁).calling g' mk (Value.ref b :: As).toArray, t, U', L, E, ce, hT, X', hL, e1, e2, hq, hce, hcv, vx_cls hW₁ hcl, st⟩
theorem vx_runS (S : CallFix p m c cc nL s args Ts own) (hM : vx_Met l y ws rm Pc Qc XC mc ms free) (cw : CallB R s args own index y bytes maxL ret ws rm mc ms n ∧ (Cond.static y).before args s = true) (hp : PreS s H Pc As)
    (hg : g.method = m) (hn : As.length = n) (hsize : g.locals.size = nL) (hstack : g.stack = As.reverse ++ rest) (hW : 2 * g.monitorRoom + (rest.map fun v => v.category).sum ≤ 8) (hdg : decode cc g.pc = .ok (.invokestatic index, 3)) (hf : cells + mc ≤ R.cells ∧ slots + ms ≤ R.slots) :
    vx_Run p l e R s m args below meth c H locs cells slots mc ms g rest (Qc As.toArray) XC free := by
  have hK : vx_Back l R p e below s args y 3 8 (PreOf R mc ms Pc) (PostOf Qc mc ms free) (vx_Post XC mc ms free) := vx_callBack cw.1 hM hp.1
  obtain ⟨⟨-, -, -, -, -, -, hcode, hini, hy, hlen, hl⟩, hstt⟩ := cw
  obtain ⟨hx, hb, hml, ho, -⟩ := S
  intro T hT X
  rcases vx_callS X hx (bytes := bytes) (maxL := maxL) (ret := ret) ho hl hstt hini hcode hy hK hg (hsize.trans hml.symm) (argsL := As) (rest := rest) (fun sig h => hn.trans (hlen sig h)) hstack hW (by rw [hb]; exact hdg)
    (fun vm₁ hW₁ => ⟨hf.1, hf.2, hp.2 (T.setVm vm₁) hT hW₁⟩) with ⟨v, vm₁, ⟨U', l2, c2, s2⟩, hW₁, X', ⟨g', mk, t, L, e1, e2, hq, h1, hL, h2, h3⟩, st⟩ | ⟨q, vm₁, ⟨U', l2, c2, s2⟩, hW₁, X', ⟨g', mk, t, L, E, ce, e1, e2, hq, hce, hcv, hcl, h1, hL, h2, h3⟩, st⟩
  · dsimp only [Pt.U, Pt.locs, Pt.cells, Pt.slots] at X' e1 e2 h1 h2 h3 st
    subst h1; subst h2; subst h3
    exact Or.inl ⟨v, (T.setVm vm₁).calling g' mk As.toArray, t, U', L, hT, X', hL, e1, e2, hq, st⟩
  · dsimp only [Pt.U, Pt.locs, Pt.cells, Pt.slots] at X' e1 e2 h1 h2 h3 st hcl
    subst h1; subst h2; subst h3
    exact Or.inr ⟨q, (T.setVm vm₁).calling g' mk As.toArray, t, U', L, E, ce, hT, X', hL, e1, e2, hq, hce, hcv, vx_cls hW₁ hcl, st⟩
end Runs
section Rows
variable {p : Program} {l : Launch} {e : Env} {R : Room} {s : State} {m : MethodId} {args : Array Value} {below : List Frame} {meth : Method} {c : Code} {H : Heap} {locs : List Loc} {cells slots : Nat} {Q : State → Prop}
variable {mc ms : Nat} {free : Addr → Prop} {A0 A1 : Nat → Prop} {H0 : Heap} {a : Array Value} {pc : Nat} {ls : Array Slot} {st0 rest : List Value}
theorem vx_keep {st₀ t T' : State} {L : List Loc} (h0 : st₀.heap = H) (e1 : T'.heap = t.heap) (hS : va_S A0 H0 H locs) (hA : ∀ q, q < H.size → A1 q → A0 q) (hf : ∀ q, free q → A0 q) (hL : ∀ q ∈ L, free q.base) (hF : va_F A1 st₀ t) :
    H.size ≤ T'.heap.size ∧ (∀ q : Nat, q < H.size → ¬ A1 q → T'.heap[q]? = H[q]?) ∧ va_S A0 H0 T'.heap (locs ++ L) := by
  obtain ⟨hz, hk⟩ := hF
  rw [h0] at hz hk
  exact ⟨by rw [e1]; exact hz, fun q h1 h2 => by rw [e1]; exact hk q h1 h2,
    ⟨Nat.le_trans hS.1 (by rw [e1]; exact hz), fun q h1 h2 => by rw [e1, hk q (Nat.lt_of_lt_of_le h1 hS.1) (fun z => h2 (hA q (Nat.lt_of_lt_of_le h1 hS.1) z))]; exact hS.2.1 q h1 h2, fun q hq => by
      rcases List.mem_append.mp hq with h | h
      · exact hS.2.2 q h
      · exact hf _ (hL q h)⟩⟩
theorem vx_calli {S SX : Type} {post : Int32 → S → Prop} {px : SX → Prop} {B : S → State → Prop} {BX : String → SX → State → Prop} {AX : Nat → Prop} (hr : vx_Run p l e R s m args below meth c H locs cells slots mc ms (F0 m pc ls st0) rest (va_Qi post B A1 a) (vx_X px BX AX) free) (hS : va_S A0 H0 H locs) (hA : ∀ q, q < H.size → A1 q → A0 q) (hf : ∀ q, free q → A0 q) (hAX : ∀ q, q < H.size → AX q → A0 q)
    (kx : ∀ (E : String) (ce : Cell) (q9 : Addr) (u : SX) (t : State) (H1 : Heap) (locs1 : List Loc), t.heap = H1 → s.vm.Alike t.vm → px u → BX E u t → H.size ≤ H1.size → (∀ q : Nat, q < H.size → ¬ AX q → H1[q]? = H[q]?) → va_S A0 H0 H1 locs1 → H1[q9]? = some ce → ce.vm = .none → s.vm.findClass E = some ce.cls → vx_W p l e R s m args below meth c H1 locs1 (cells + mc) (slots + ms) Q (F0 m pc ls rest) q9)
    (kk : ∀ (r : Int32) (u : S) (t : State) (H1 : Heap) (locs1 : List Loc), t.heap = H1 → s.vm.Alike t.vm → post r u → B u t → H.size ≤ H1.size → (∀ q : Nat, q < H.size → ¬ A1 q → H1[q]? = H[q]?) → va_S A0 H0 H1 locs1 → W p l e R s m args below meth c H1 locs1 (cells + mc) (slots + ms) Q (F0 m (pc + 3) ls (.int r :: rest))) : W p l e R s m args below meth c H locs cells slots Q (F0 m pc ls st0) := by
  intro T hT X
  rcases hr T hT X with ⟨v, st₀, t, T', L, h0, X', hL, e1, e2, ⟨⟨r, u, hv, hp, hb⟩, hF⟩, st⟩ | ⟨q, st₀, t, T', L, E, ce, h0, X', hL, e1, e2, ⟨u, hp, hb, hF⟩, hce, hcv, hcl, st⟩
  · cases hv
    obtain ⟨k1, k2, k3⟩ := vx_keep h0 e1 hS hA hf hL hF
    obtain ⟨t2, a1, b1⟩ := kk r u t T'.heap (locs ++ L) e1.symm (by rw [← e2]; exact X'.warmed.alike) hp hb k1 k2 k3 T' rfl X'
    exact ⟨t2, st t2 a1, b1⟩
  · obtain ⟨k1, k2, k3⟩ := vx_keep h0 e1 hS hAX hf hL hF
    obtain ⟨t2, a1, b1⟩ := kx E ce q u t T'.heap (locs ++ L) e1.symm (by rw [← e2]; exact X'.warmed.alike) hp hb k1 k2 k3 (by rw [e1]; exact hce) hcv hcl T' rfl X'
    exact ⟨t2, st.trans a1, b1⟩
theorem vx_calll {S SX : Type} {post : Int64 → S → Prop} {px : SX → Prop} {B : S → State → Prop} {BX : String → SX → State → Prop} {AX : Nat → Prop} (hr : vx_Run p l e R s m args below meth c H locs cells slots mc ms (F0 m pc ls st0) rest (va_Ql post B A1 a) (vx_X px BX AX) free) (hS : va_S A0 H0 H locs) (hA : ∀ q, q < H.size → A1 q → A0 q) (hf : ∀ q, free q → A0 q) (hAX : ∀ q, q < H.size → AX q → A0 q)
    (kx : ∀ (E : String) (ce : Cell) (q9 : Addr) (u : SX) (t : State) (H1 : Heap) (locs1 : List Loc), t.heap = H1 → s.vm.Alike t.vm → px u → BX E u t → H.size ≤ H1.size → (∀ q : Nat, q < H.size → ¬ AX q → H1[q]? = H[q]?) → va_S A0 H0 H1 locs1 → H1[q9]? = some ce → ce.vm = .none → s.vm.findClass E = some ce.cls → vx_W p l e R s m args below meth c H1 locs1 (cells + mc) (slots + ms) Q (F0 m pc ls rest) q9)
    (kk : ∀ (r : Int64) (u : S) (t : State) (H1 : Heap) (locs1 : List Loc), t.heap = H1 → s.vm.Alike t.vm → post r u → B u t → H.size ≤ H1.size → (∀ q : Nat, q < H.size → ¬ A1 q → H1[q]? = H[q]?) → va_S A0 H0 H1 locs1 → W p l e R s m args below meth c H1 locs1 (cells + mc) (slots + ms) Q (F0 m (pc + 3) ls (.long r :: rest))) : W p l e R s m args below meth c H locs cells slots Q (F0 m pc ls st0) := by
  intro T hT X
  rcases hr T hT X with ⟨v, st₀, t, T', L, h0, X', hL, e1, e2, ⟨⟨r, u, hv, hp, hb⟩, hF⟩, st⟩ | ⟨q, st₀, t, T', L, E, ce, h0, X', hL, e1, e2, ⟨u, hp, hb, hF⟩, hce, hcv, hcl, st⟩
  · cases hv
    obtain ⟨k1, k2, k3⟩ := vx_keep h0 e1 hS hA hf hL hF
    obtain ⟨t2, a1, b1⟩ := kk r u t T'.heap (locs ++ L) e1.symm (by rw [← e2]; exact X'.warmed.alike) hp hb k1 k2 k3 T' rfl X'
    exact ⟨t2, st t2 a1, b1⟩
  · obtain ⟨k1, k2, k3⟩ := vx_keep h0 e1 hS hAX hf hL hF
    obtain ⟨t2, a1, b1⟩ := kx E ce q u t T'.heap (locs ++ L) e1.symm (by rw [← e2]; exact X'.warmed.alike) hp hb k1 k2 k3 (by rw [e1]; exact hce) hcv hcl T' rfl X'
    exact ⟨t2, st.trans a1, b1⟩
theorem vx_callf {S SX : Type} {post : UInt32 → S → Prop} {px : SX → Prop} {B : S → State → Prop} {BX : String → SX → State → Prop} {AX : Nat → Prop} (hr : vx_Run p l e R s m args below meth c H locs cells slots mc ms (F0 m pc ls st0) rest (va_Qf post B A1 a) (vx_X px BX AX) free) (hS : va_S A0 H0 H locs) (hA : ∀ q, q < H.size → A1 q → A0 q) (hf : ∀ q, free q → A0 q) (hAX : ∀ q, q < H.size → AX q → A0 q)
    (kx : ∀ (E : String) (ce : Cell) (q9 : Addr) (u : SX) (t : State) (H1 : Heap) (locs1 : List Loc), t.heap = H1 → s.vm.Alike t.vm → px u → BX E u t → H.size ≤ H1.size → (∀ q : Nat, q < H.size → ¬ AX q → H1[q]? = H[q]?) → va_S A0 H0 H1 locs1 → H1[q9]? = some ce → ce.vm = .none → s.vm.findClass E = some ce.cls → vx_W p l e R s m args below meth c H1 locs1 (cells + mc) (slots + ms) Q (F0 m pc ls rest) q9)
    (kk : ∀ (r : UInt32) (u : S) (t : State) (H1 : Heap) (locs1 : List Loc), t.heap = H1 → s.vm.Alike t.vm → post r u → B u t → H.size ≤ H1.size → (∀ q : Nat, q < H.size → ¬ A1 q → H1[q]? = H[q]?) → va_S A0 H0 H1 locs1 → W p l e R s m args below meth c H1 locs1 (cells + mc) (slots + ms) Q (F0 m (pc + 3) ls (.float r :: rest))) : W p l e R s m args below meth c H locs cells slots Q (F0 m pc ls st0) := by
  intro T hT X
  rcases hr T hT X with ⟨v, st₀, t, T', L, h0, X', hL, e1, e2, ⟨⟨r, u, hv, hp, hb⟩, hF⟩, st⟩ | ⟨q, st₀, t, T', L, E, ce, h0, X', hL, e1, e2, ⟨u, hp, hb, hF⟩, hce, hcv, hcl, st⟩
  · cases hv
    obtain ⟨k1, k2, k3⟩ := vx_keep h0 e1 hS hA hf hL hF
    obtain ⟨t2, a1, b1⟩ := kk r u t T'.heap (locs ++ L) e1.symm (by rw [← e2]; exact X'.warmed.alike) hp hb k1 k2 k3 T' rfl X'
    exact ⟨t2, st t2 a1, b1⟩
  · obtain ⟨k1, k2, k3⟩ := vx_keep h0 e1 hS hAX hf hL hF
    obtain ⟨t2, a1, b1⟩ := kx E ce q u t T'.heap (locs ++ L) e1.symm (by rw [← e2]; exact X'.warmed.alike) hp hb k1 k2 k3 (by rw [e1]; exact hce) hcv hcl T' rfl X'
    exact ⟨t2, st.trans a1, b1⟩
theorem vx_calld {S SX : Type} {post : UInt64 → S → Prop} {px : SX → Prop} {B : S → State → Prop} {BX : String → SX → State → Prop} {AX : Nat → Prop} (hr : vx_Run p l e R s m args below meth c H locs cells slots mc ms (F0 m pc ls st0) rest (va_Qd post B A1 a) (vx_X px BX AX) free) (hS : va_S A0 H0 H locs) (hA : ∀ q, q < H.size → A1 q → A0 q) (hf : ∀ q, free q → A0 q) (hAX : ∀ q, q < H.size → AX q → A0 q)
    (kx : ∀ (E : String) (ce : Cell) (q9 : Addr) (u : SX) (t : State) (H1 : Heap) (locs1 : List Loc), t.heap = H1 → s.vm.Alike t.vm → px u → BX E u t → H.size ≤ H1.size → (∀ q : Nat, q < H.size → ¬ AX q → H1[q]? = H[q]?) → va_S A0 H0 H1 locs1 → H1[q9]? = some ce → ce.vm = .none → s.vm.findClass E = some ce.cls → vx_W p l e R s m args below meth c H1 locs1 (cells + mc) (slots + ms) Q (F0 m pc ls rest) q9)
    (kk : ∀ (r : UInt64) (u : S) (t : State) (H1 : Heap) (locs1 : List Loc), t.heap = H1 → s.vm.Alike t.vm → post r u → B u t → H.size ≤ H1.size → (∀ q : Nat, q < H.size → ¬ A1 q → H1[q]? = H[q]?) → va_S A0 H0 H1 locs1 → W p l e R s m args below meth c H1 locs1 (cells + mc) (slots + ms) Q (F0 m (pc + 3) ls (.double r :: rest))) : W p l e R s m args below meth c H locs cells slots Q (F0 m pc ls st0) := by
  intro T hT X
  rcases hr T hT X with ⟨v, st₀, t, T', L, h0, X', hL, e1, e2, ⟨⟨r, u, hv, hp, hb⟩, hF⟩, st⟩ | ⟨q, st₀, t, T', L, E, ce, h0, X', hL, e1, e2, ⟨u, hp, hb, hF⟩, hce, hcv, hcl, st⟩
  · cases hv
    obtain ⟨k1, k2, k3⟩ := vx_keep h0 e1 hS hA hf hL hF
    obtain ⟨t2, a1, b1⟩ := kk r u t T'.heap (locs ++ L) e1.symm (by rw [← e2]; exact X'.warmed.alike) hp hb k1 k2 k3 T' rfl X'
    exact ⟨t2, st t2 a1, b1⟩
  · obtain ⟨k1, k2, k3⟩ := vx_keep h0 e1 hS hAX hf hL hF
    obtain ⟨t2, a1, b1⟩ := kx E ce q u t T'.heap (locs ++ L) e1.symm (by rw [← e2]; exact X'.warmed.alike) hp hb k1 k2 k3 (by rw [e1]; exact hce) hcv hcl T' rfl X'
    exact ⟨t2, st.trans a1, b1⟩
theorem vx_callv {S SX : Type} {post : S → Prop} {px : SX → Prop} {B : S → State → Prop} {BX : String → SX → State → Prop} {AX : Nat → Prop} (hr : vx_Run p l e R s m args below meth c H locs cells slots mc ms (F0 m pc ls st0) rest (va_Qv post B A1 a) (vx_X px BX AX) free) (hS : va_S A0 H0 H locs) (hA : ∀ q, q < H.size → A1 q → A0 q) (hf : ∀ q, free q → A0 q) (hAX : ∀ q, q < H.size → AX q → A0 q)
    (kx : ∀ (E : String) (ce : Cell) (q9 : Addr) (u : SX) (t : State) (H1 : Heap) (locs1 : List Loc), t.heap = H1 → s.vm.Alike t.vm → px u → BX E u t → H.size ≤ H1.size → (∀ q : Nat, q < H.size → ¬ AX q → H1[q]? = H[q]?) → va_S A0 H0 H1 locs1 → H1[q9]? = some ce → ce.vm = .none → s.vm.findClass E = some ce.cls → vx_W p l e R s m args below meth c H1 locs1 (cells + mc) (slots + ms) Q (F0 m pc ls rest) q9)
    (kk : ∀ (u : S) (t : State) (H1 : Heap) (locs1 : List Loc), t.heap = H1 → s.vm.Alike t.vm → post u → B u t → H.size ≤ H1.size → (∀ q : Nat, q < H.size → ¬ A1 q → H1[q]? = H[q]?) → va_S A0 H0 H1 locs1 → W p l e R s m args below meth c H1 locs1 (cells + mc) (slots + ms) Q (F0 m (pc + 3) ls (rest))) : W p l e R s m args below meth c H locs cells slots Q (F0 m pc ls st0) := by
  intro T hT X
  rcases hr T hT X with ⟨v, st₀, t, T', L, h0, X', hL, e1, e2, ⟨⟨u, hv, hp, hb⟩, hF⟩, st⟩ | ⟨q, st₀, t, T', L, E, ce, h0, X', hL, e1, e2, ⟨u, hp, hb, hF⟩, hce, hcv, hcl, st⟩
  · cases hv
    obtain ⟨k1, k2, k3⟩ := vx_keep h0 e1 hS hA hf hL hF
    obtain ⟨t2, a1, b1⟩ := kk u t T'.heap (locs ++ L) e1.symm (by rw [← e2]; exact X'.warmed.alike) hp hb k1 k2 k3 T' rfl X'
    exact ⟨t2, st t2 a1, b1⟩
  · obtain ⟨k1, k2, k3⟩ := vx_keep h0 e1 hS hAX hf hL hF
    obtain ⟨t2, a1, b1⟩ := kx E ce q u t T'.heap (locs ++ L) e1.symm (by rw [← e2]; exact X'.warmed.alike) hp hb k1 k2 k3 (by rw [e1]; exact hce) hcv hcl T' rfl X'
    exact ⟨t2, st.trans a1, b1⟩
/-- caught by the row x of this method's table; the rows ahead don't take it -/
theorem vx_catch {own name : String} {E : String} {ce : Cell} {q : Addr} (hown : s.vm.findClass own = some m.cls) (pre : List ExceptionTableEntry) (x : ExceptionTableEntry) (suf : List ExceptionTableEntry) (hsplit : c.exceptionTable.toList = pre ++ x :: suf)
    (hpass : ∀ z ∈ pre, covers z pc = false ∨ (z.catchType ≠ 0 ∧ ∃ nm : String, (Cond.classLink own z.catchType nm).before args s = true ∧ va_Nc E nm s)) (hx : covers x pc = true) (h0 : x.catchType ≠ 0)
    (hlink : (Cond.classLink own x.catchType name).before args s = true) (hcast : (Cond.castable E name).before args s = true) (hcell : H[q]? = some ce) (hv : ce.vm = .none) (hcl : s.vm.findClass E = some ce.cls)
    (kk : W p l e R s m args below meth c H locs cells slots Q (F0 m x.handlerPc ls [.ref q])) : vx_W p l e R s m args below meth c H locs cells slots Q (F0 m pc ls rest) q := by
  intro T hT X
  have hpl : e.platform.magicAccessors = ({} : Platform).magicAccessors := by rw [X.admits.platform]
  obtain ⟨c3, c4, hc3, hc4, hasg⟩ := Cond.castable_spec hcast
  cases Option.some.inj (hc3.symm.trans hcl)
  obtain ⟨c5, hc5, hcl5⟩ := Cond.classLink_spec hown hlink e.platform hpl
  cases Option.some.inj (hc4.symm.trans hc5)
  obtain ⟨vm', X', st⟩ := X.thenCaughtThrough q (g := F0 m pc ls rest) rfl (Steps.refl _) (by rw [hT]; exact hcell) (by rw [hv]; rfl) (by obtain ⟨k9, h9, -⟩ := Vm.findClass_spec hcl; exact ⟨k9, h9⟩) pre x suf hsplit
    (fun z hz => by
      rcases hpass z hz with h | ⟨hz0, nm, hl1, hn1⟩
      · exact Or.inl h
      · obtain ⟨c6, hc6, hcl6⟩ := Cond.classLink_spec hown hl1 e.platform hpl
        obtain ⟨a8, b8, h1, h2, h3⟩ := hn1
        cases Option.some.inj (h1.symm.trans hcl)
        cases Option.some.inj (h2.symm.trans hc6)
        exact Or.inr ⟨hz0, _, hcl6, h3⟩) hx (Or.inr ⟨h0, c4, hcl5, hasg⟩)
  obtain ⟨t, a1, b1⟩ := kk (T.setVm vm') hT X'
  exact ⟨t, st.trans a1, b1⟩
end Rows
section Ends
variable {p : Program} {l : Launch} {e : Env} {R : Room} {s : State} {m : MethodId} {args : Array Value} {below : List Frame} {meth : Method} {c : Code} {H : Heap} {locs : List Loc} {cells slots : Nat} {Q : State → Prop}
variable {mc ms : Nat} {free : Addr → Prop} {A0 A1 : Nat → Prop} {H0 : Heap} {a : Array Value} {ls : Array Slot} {st0 rest : List Value}
variable {Qc : Array Value → State → Outcome → State → Prop} {XC : String → State → State → Prop}
/-- what a body that may throw owes at its end -/
def vx_MQ (below : List Frame) (Qc : Array Value → State → Outcome → State → Prop) (XC : String → State → State → Prop) (a : Array Value) (s : State) (mc ms : Nat) (free : Addr → Prop) : State → Prop := fun t =>
  ∃ o, t.status = .running ∧ Ended t below o ∧ vx_Q Qc XC mc ms free a s o t
theorem vx_ret {g : JFrame} {mc ms : Nat} (k : W p l e R s m args below meth c H locs cells slots (MQ below Qc args s mc ms free) g) : W p l e R s m args below meth c H locs cells slots (vx_MQ below Qc XC args s mc ms free) g := by
  intro T hT X
  obtain ⟨t, a1, o, b1, b2, b3, b4⟩ := k T hT X
  exact ⟨t, a1, o, b1, b2, Or.inl ⟨b3, b4⟩⟩
/-- not caught here: it goes on to the caller -/
theorem vx_widen {g : JFrame} {q : Addr} {k n : Nat} (h1 : cells ≤ k) (h2 : slots ≤ n) (kk : vx_W p l e R s m args below meth c H locs k n Q g q) : vx_W p l e R s m args below meth c H locs cells slots Q g q := fun T hT X => kk T hT (stand_widen X h1 h2)
theorem vx_out {pc : Nat} {E : String} {ce : Cell} {q : Addr} {mc ms : Nat} (hout : ∀ x ∈ c.exceptionTable.toList, covers x pc = false) (hlocks : meth.locks = false) (hcell : H[q]? = some ce) (hv : ce.vm = .none) (hcl : s.vm.findClass E = some ce.cls)
    (hx : ∀ t : State, t.heap = H → s.vm.Alike t.vm → XC E s t) (hf : ∀ z ∈ locs, free z.base) (hc : cells ≤ mc) (hs : slots ≤ ms) :
    vx_W p l e R s m args below meth c H locs cells slots (vx_MQ below Qc XC args s mc ms free) (F0 m pc ls rest) q := by
  intro T hT X
  obtain ⟨st1, hrun, hend, hW, hsm⟩ := X.leaveThrown q (g := F0 m pc ls rest) rfl rfl rfl hout hlocks
  have hcell9 : (T.setFrames (.throwing q :: below)).heap[q]? = some ce := by
    show T.heap[q]? = some ce
    rw [hT]; exact hcell
  exact ⟨_, st1, .threw q, hrun, hend, Or.inr ⟨q, rfl, E, ce, locs, hx _ hT hW.alike, hcell9, hv, hcl, hW, hsm.mono hc hs, hf⟩⟩
theorem vx_frame {U : State} {k n : Nat} (h : s.sameButNew ({ U with vm := s.vm } : State) locs k n) : s.heap.size ≤ U.heap.size ∧ ∀ q : Nat, q < s.heap.size → (∀ z ∈ locs, z.base ≠ q) → U.heap[q]? = s.heap[q]? := by
  obtain ⟨-, h2, -, -, -, h6⟩ := h
  refine ⟨h2, fun q hq hz => ?_⟩
  obtain ⟨c9, e1, e2, e3, e4⟩ := h6 q _ (Array.getElem?_eq_getElem hq)
  have hs : c9.slots = (s.heap[q]).slots := Array.ext_getElem? fun i => e4 i fun hm => hz _ hm rfl
  have h9 : c9 = s.heap[q] := by
    rw [hs] at e2
    exact e2
  have e5 : U.heap[q]? = some c9 := e1
  rw [e5, h9, Array.getElem?_eq_getElem hq]
/-- the words of a throw but the four that speak of the heap -/
def vx_no (w : Cond) : Bool := decide (w ≠ .isRef (.static Bundle.tN "UNASSIGNED_STACK" Bundle.steD)) && decide (w ≠ .isRef (.static Bundle.tN "SUPPRESSED_SENTINEL" Bundle.listD)) && decide (w ≠ .laysStatic Bundle.tN "UNASSIGNED_STACK" Bundle.steD) && decide (w ≠ .laysStatic Bundle.tN "SUPPRESSED_SENTINEL" Bundle.listD)
def vx_at0 (own : String) (ic : Nat) (X : String) (names : List String) : List Cond := (Bundle.ownAtoms0 own ic X names).filter vx_no
def vx_atS (own : String) (ic : Nat) (X : String) (names : List String) : List Cond := (Bundle.ownAtoms own ic X names).filter vx_no
/-- a word that the tables alone decide, or a good one -/
def vx_ot (w : Cond) : Bool := w.onTables || goodWord w
theorem vx_ot_at {args a' : Array Value} {s U : State} {w : Cond} (hW : s.WarmedH U.vm) (hvm : s.vm = U.vm) (hg : vx_ot w = true) (h : w.before args s = true) : w.before a' U = true := by
  simp only [vx_ot, Bool.or_eq_true] at hg
  rcases hg with hg | hg
  · exact va_tabs hg hvm h
  · exact word_at hW (good_of_word hg) h
/-- a list's words: the good ones out of the method's own list, the others by premises of their own -/
theorem vx_hat {args : Array Value} {s : State} {L B : List Cond} (h1 : ∀ w ∈ L.filter goodWord, w.before args s = true) (h2 : ∀ w ∈ L.filter (fun w => !goodWord w), w ∈ B) (h3 : ∀ w ∈ B, w.before args s = true) : ∀ w ∈ L, w.before args s = true := by
  intro w hw
  by_cases g : goodWord w = true
  · exact h1 w (List.mem_filter.mpr ⟨hw, g⟩)
  · refine h3 w (h2 w (List.mem_filter.mpr ⟨hw, ?_⟩))
    show (!goodWord w) = true
    cases hgw : goodWord w
    · rfl
    · exact absurd hgw g
theorem vx_c {args : Array Value} {s : State} {w : Cond} {B : List Cond} (h : w.before args s = true) (t : ∀ w ∈ B, w.before args s = true) : ∀ w' ∈ w :: B, w'.before args s = true := fun w' h' => (List.mem_cons.mp h').elim (fun e => by rw [e]; exact h) (t w')
theorem vx_n {args : Array Value} {s : State} : ∀ w ∈ ([] : List Cond), w.before args s = true := fun _ h => nomatch h
theorem vx_own {args : Array Value} {s : State} {L : List Cond} (h1 : ∀ w ∈ L.filter vx_no, w.before args s = true)
    (hU : (Cond.isRef (.static Bundle.tN "UNASSIGNED_STACK" Bundle.steD)).before args s = true) (hN : (Cond.isRef (.static Bundle.tN "SUPPRESSED_SENTINEL" Bundle.listD)).before args s = true)
    (lU : (Cond.laysStatic Bundle.tN "UNASSIGNED_STACK" Bundle.steD).before args s = true) (lN : (Cond.laysStatic Bundle.tN "SUPPRESSED_SENTINEL" Bundle.listD).before args s = true) : ∀ w ∈ L, w.before args s = true := by
  intro w hw
  by_cases e1 : w = .isRef (.static Bundle.tN "UNASSIGNED_STACK" Bundle.steD)
  · rw [e1]; exact hU
  · by_cases e2 : w = .isRef (.static Bundle.tN "SUPPRESSED_SENTINEL" Bundle.listD)
    · rw [e2]; exact hN
    · by_cases e3 : w = .laysStatic Bundle.tN "UNASSIGNED_STACK" Bundle.steD
      · rw [e3]; exact lU
      · by_cases e4 : w = .laysStatic Bundle.tN "SUPPRESSED_SENTINEL" Bundle.listD
        · rw [e4]; exact lN
        · exact h1 w (List.mem_filter.mpr ⟨hw, by unfold vx_no; rw [decide_eq_true e1, decide_eq_true e2, decide_eq_true e3, decide_eq_true e4]; rfl⟩)
/-- where a static field lies, its class's statics cell in H -/
def vx_L (C n d : String) (A : Nat → Prop) (U : State) (H : Heap) : Prop := ∃ (c : ClassId) (k : Class) (i : Nat) (f : Field) (a : Nat) (cell : Cell), U.vm.findClass C = some c ∧ U.fieldFound? C n d = some (c, k, i, f) ∧ f.isStatic = true ∧ k.statics = some a ∧ H[a]? = some cell ∧ cell.vm.isStatics = true ∧ cell.cls = c ∧ f.slot < cell.slots.size ∧ k.staticTypes[f.slot]? = some f.type ∧ ¬ A a
theorem vx_L.moved {C n d : String} {A : Nat → Prop} {u U : State} {H : Heap} (hvm : u.vm.Alike U.vm) (h : vx_L C n d A u H) : vx_L C n d A U H := by
  obtain ⟨c, k, i, f, a, cell, h1, h2, h3, h4, h5, h6, h7, h8, h9, h10⟩ := h
  obtain ⟨k', hi', he⟩ := State.fieldFound?_setVm hvm h2
  exact ⟨c, k', i, f, a, cell, by rw [hvm.findClass]; exact h1, hi', h3, by rw [he]; exact h4, h5, h6, h7, h8, by rw [he]; exact h9, h10⟩
theorem vx_L.kept {C n d : String} {A : Nat → Prop} {U : State} {H H1 : Heap} (h : vx_L C n d A U H) (hq : ∀ a : Nat, a < H.size → ¬ A a → H1[a]? = H[a]?) : vx_L C n d A U H1 := by
  obtain ⟨c, k, i, f, a, cell, h1, h2, h3, h4, h5, h6, h7, h8, h9, h10⟩ := h
  exact ⟨c, k, i, f, a, cell, h1, h2, h3, h4, by rw [hq a (Array.getElem?_eq_some_iff.mp h5).1 h10]; exact h5, h6, h7, h8, h9, h10⟩
theorem vx_L.narrow {C n d : String} {A B : Nat → Prop} {U : State} {H : Heap} (h : vx_L C n d A U H) (hAB : ∀ q, B q → A q) : vx_L C n d B U H := by
  obtain ⟨c, k, i, f, a, cell, h1, h2, h3, h4, h5, h6, h7, h8, h9, h10⟩ := h
  exact ⟨c, k, i, f, a, cell, h1, h2, h3, h4, h5, h6, h7, h8, h9, fun z => h10 (hAB _ z)⟩
theorem vx_L.word {C n d : String} {A : Nat → Prop} {s : State} {args : Array Value} (h : vx_L C n d A s s.heap) : (Cond.laysStatic C n d).before args s = true := by
  obtain ⟨c, k, i, f, a, cell, h1, h2, h3, h4, h5, h6, h7, h8, h9, -⟩ := h
  show (Cond.laysStatic C n d).holds args s none s [] = true
  exact Cond.laysStatic_of h1 h2 h3 h4 h5 h6 h7 h8 h9
/-- .. and what it holds: null or some reference -/
def vx_Zq (C n d : String) (A : Nat → Prop) (U : State) (H : Heap) : Prop := va_Zq C n d A U H ∧ vx_L C n d A U H
theorem vx_Zq.moved {C n d : String} {A : Nat → Prop} {u U : State} {H : Heap} (hvm : u.vm.Alike U.vm) (h : vx_Zq C n d A u H) : vx_Zq C n d A U H := ⟨va_Zq.moved hvm h.1, vx_L.moved hvm h.2⟩
theorem vx_Zq.kept {C n d : String} {A : Nat → Prop} {U : State} {H H1 : Heap} (h : vx_Zq C n d A U H) (hq : ∀ a : Nat, a < H.size → ¬ A a → H1[a]? = H[a]?) : vx_Zq C n d A U H1 := ⟨va_Zq.kept h.1 hq, vx_L.kept h.2 hq⟩
theorem vx_Zq.narrow {C n d : String} {A B : Nat → Prop} {U : State} {H : Heap} (h : vx_Zq C n d A U H) (hAB : ∀ q, B q → A q) : vx_Zq C n d B U H := ⟨va_Zq.narrow h.1 hAB, vx_L.narrow h.2 hAB⟩
theorem vx_Zqof {args : Array Value} {s : State} {C n d : String} {A : Nat → Prop} (hl : (Cond.laysStatic C n d).before args s = true) (hini : (Cond.initialized C).before args s = true) (h : (Cond.isRef (.static C n d)).before args s = true) (hA : ∀ a : Nat, a < s.heap.size → ¬ A a) : vx_Zq C n d A s s.heap := by
  refine ⟨va_Zqof hl hini h hA, ?_⟩
  obtain ⟨c, k, i, f, a, cell, h1, h2, h3, h4, h5, h6, h7, h8, h9⟩ := Cond.laysStatic_spec hl
  exact ⟨c, k, i, f, a, cell, h1, h2, h3, h4, h5, h6, h7, h8, h9, hA a (Array.getElem?_eq_some_iff.mp h5).1⟩
theorem vx_isRef {C n d : String} {v : Value} {A : Nat → Prop} {s : State} {args : Array Value} (h : va_Z C n d v A s s.heap) (hv : v.isRef = true) : (Cond.isRef (.static C n d)).before args s = true := by
  obtain ⟨cf, kf, fi, f, a, cell, h1, h2, h3, h4, h5, h6, h7, -⟩ := h
  have he : (Term.static C n d).eval args s none [] s = some v := by
    simp [Term.eval, State.fieldNamed?, h1, h2, h4, h5, h6, h7]
  simp only [Cond.before, Cond.holds, Cond.value, he]
  cases v <;> simp_all [Value.isRef]
theorem vx_isRefq {C n d : String} {A : Nat → Prop} {s : State} {args : Array Value} (h : va_Zq C n d A s s.heap) : (Cond.isRef (.static C n d)).before args s = true := by
  rcases h with h | ⟨t, h⟩
  · exact vx_isRef h rfl
  · exact vx_isRef h rfl
/-- the same frame, seen from here: as if the method were called anew in this heap -/
theorem vx_rebase {T : State} (X : Stand p l e R s m args below meth c T locs cells slots) {R' : Room} (hf : R'.frames ≤ R.frames) (hl : R'.locals ≤ R.locals) (hc : cells + R'.cells ≤ R.cells) (hs : slots + R'.slots ≤ R.slots) :
    Stand p l e R' ((T.setVm s.vm).setFrames (.invoking m args :: below)) m args below meth c T [] 0 0 := by
  have htop : (T.setVm s.vm).topJava?.isSome := X.here.top
  have hF : ((T.setVm s.vm).setFrames (.invoking m args :: below)).frames = .invoking m args :: below := State.frames_setFrames _ (State.cur_lt_of_top htop)
  obtain ⟨g₀, hg0⟩ := Option.isSome_iff_exists.mp htop
  obtain ⟨r, hr⟩ := State.topJava?_eq_some.mp hg0
  have hl9 : e.platform.stackLimits (T.setVm s.vm).me = e.platform.stackLimits s.me := X.limits
  have hb9 : (T.setVm s.vm).me.stackBytes = s.me.stackBytes := X.bytes
  refine ⟨X.admits, X.cas, X.clock, hF, ?_, X.hears, X.method, X.code, X.here, X.tail, X.warmed, ?_, ?_, ?_⟩
  · have h := X.room
    have hU : ((T.setVm s.vm).setFrames (.invoking m args :: below)).localsInUse = s.localsInUse := by
      rw [State.localsInUse_invoking hF (meth := meth) (c := c) X.method X.code, State.localsInUse_invoking X.frames X.method X.code]
    simp only [State.hasRoom, Bool.and_eq_true, decide_eq_true_eq] at h ⊢
    obtain ⟨⟨⟨⟨h1, h2, h3, h4, h5, h6⟩, h7⟩, h8⟩, h9⟩ := h
    rw [X.frames, List.length_cons] at h2 h3
    have q1 := X.heapSize
    have q2 := X.used
    simp only [hF, hU, List.length_cons, State.stackLimits_setFrames, State.stackBytes_setFrames, hl9, hb9]
    refine ⟨⟨⟨⟨by omega, by omega, by omega, by omega, by omega, h6⟩, ?_⟩, ?_⟩, X.book⟩
    · show T.heap.size + R'.cells ≤ e.platform.maxCells
      omega
    · show T.slotsUsed + R'.slots ≤ e.platform.maxSlots
      omega
  · rw [State.stackLimits_setFrames]; rfl
  · rw [State.stackBytes_setFrames]; rfl
  · refine ⟨?_, Nat.le_refl _, Nat.le_refl _, ?_, ?_, fun a c9 h9 => ⟨c9, h9, rfl, rfl, fun _ _ => rfl⟩⟩
    · obtain ⟨t, ht, -⟩ := State.frames_cons hr
      show T.setVm s.vm = { ((T.setVm s.vm).setFrames (.invoking m args :: below)).setFrames (T.setVm s.vm).frames with heap := T.heap, slotsUsed := T.slotsUsed }
      rw [State.setFrames_setFrames, State.setFrames_self ht]
      rfl
    · show T.slotsUsed = T.slotsUsed + ((T.heap.toList.drop T.heap.size).map (·.slots.size)).sum
      rw [List.drop_eq_nil_of_le (Nat.le_of_eq Array.length_toList)]
      rfl
    · show ((T.heap.toList.drop T.heap.size).map (·.slots.size)).sum ≤ 0
      rw [List.drop_eq_nil_of_le (Nat.le_of_eq Array.length_toList)]
      exact Nat.le_refl _
/-- 'throw new E()': new; dup; invokespecial; athrow -/
theorem vx_throw0 {cc : ByteArray} {pc : Nat} (hexec : p.tables.exec = Jvm.exec) (hb : c.code = cc) (hl : l.stackTraces = false) {own cls : String} {names : List String} {ik ic mc ms : Nat} {A : Nat → Prop}
    (hown : s.vm.findClass own = some m.cls) (hcls : Bundle.fit cls = true) (hnames : ∀ n ∈ names, Bundle.fit n = true)
    (hk : (Cond.classLink own ik cls).before args s = true) (hini : (Cond.initialized cls).before args s = true) (hat : ∀ w ∈ vx_at0 own ic cls names, w.before args s = true)
    (hgood : ∀ w ∈ Cond.classLink own ik cls :: Cond.initialized cls :: vx_at0 own ic cls names, vx_ot w = true)
    (hU : vx_Zq Bundle.tN "UNASSIGNED_STACK" Bundle.steD A s s.heap) (hN : vx_Zq Bundle.tN "SUPPRESSED_SENTINEL" Bundle.listD A s s.heap) (hS : va_S A s.heap H locs) (hsize : ls.size = c.maxLocals)
    (d0 : decode cc pc = .ok (.new ik, 3)) (d3 : decode cc (pc + 3) = .ok (.dup, 1)) (d4 : decode cc (pc + 4) = .ok (.invokespecial ic, 3)) (d7 : decode cc (pc + 7) = .ok (.athrow, 1))
    (hout : ∀ x ∈ c.exceptionTable.toList, covers x (pc + 7) = false)
    (hRframes : names.length + 3 < R.frames) (hRlocals : (rest.map fun v => v.category).sum + (13 * (names.length + 1) + 42) ≤ R.locals) (hRcells : cells + 1 ≤ R.cells) (hRslots : slots + 6 ≤ R.slots) (hlocks : meth.locks = false)
    (hx : ∀ t : State, s.vm.Alike t.vm → H.size ≤ t.heap.size → (∀ q : Nat, q < H.size → t.heap[q]? = H[q]?) → XC cls s t)
    (hf : ∀ z ∈ locs, free z.base) (hc : cells + 1 ≤ mc) (hs : slots + 6 ≤ ms) :
    W p l e R s m args below meth c H locs cells slots (vx_MQ below Qc XC args s mc ms free) (F0 m pc ls rest) := by
  intro T hT X
  have htr : e.platform.stackTraces = false := (show e.platform.stackTraces = l.stackTraces by rw [X.admits.platform]).trans hl
  have Y := vx_rebase X (R' := { frames := R.frames, locals := R.locals, cells := 1, slots := 6 }) (Nat.le_refl _) (Nat.le_refl _) hRcells hRslots
  obtain ⟨s', hA⟩ : ∃ z, z = (T.setVm s.vm).setFrames (.invoking m args :: below) := ⟨_, rfl⟩
  rw [← hA] at Y
  have hvm : s'.vm = s.vm := by rw [hA]; rfl
  have hhp : s'.heap = H := by rw [hA]; exact hT
  have hW0 : s.WarmedH s'.vm := by rw [hvm]; exact State.WarmedH.refl s
  have hat' : ∀ w ∈ vx_at0 own ic cls names, w.before args s' = true := fun w hw => vx_ot_at hW0 hvm.symm (hgood w (List.mem_cons_of_mem _ (List.mem_cons_of_mem _ hw))) (hat w hw)
  have hk' : (Cond.classLink own ik cls).before args s' = true := vx_ot_at hW0 hvm.symm (hgood _ List.mem_cons_self) hk
  have hini' : (Cond.initialized cls).before args s' = true := vx_ot_at hW0 hvm.symm (hgood _ (List.mem_cons_of_mem _ List.mem_cons_self)) hini
  have hU' : vx_Zq Bundle.tN "UNASSIGNED_STACK" Bundle.steD A s' s'.heap := by rw [hhp]; exact vx_Zq.moved hW0.alike (hU.kept hS.2.1)
  have hN' : vx_Zq Bundle.tN "SUPPRESSED_SENTINEL" Bundle.listD A s' s'.heap := by rw [hhp]; exact vx_Zq.moved hW0.alike (hN.kept hS.2.1)
  have h : ∀ w ∈ Bundle.ownAtoms0 own ic cls names, w.before args s' = true := vx_own hat' (vx_isRefq hU'.1) (vx_isRefq hN'.1) hU'.2.word hN'.2.word
  have hown' : s'.vm.findClass own = some m.cls := by rw [hvm]; exact hown
  have hins : (Cond.instantiable cls 6).before args s' = true := h _ (by simp [Bundle.ownAtoms0])
  obtain ⟨vm₁, cX, kX, hfX, hkX, -, -, X₁, st1⟩ := Y.newCold hexec (own := own) (C := cls) (index := ik) (n := 6) hown' hk' hins hini'
    (g := F0 m pc ls rest) rfl (by rw [hb]; exact d0) (Nat.le_refl _) (Nat.le_refl _)
  generalize hT1 : (T.setVm vm₁).pushCell { cls := cX, slots := kX.instanceTypes.map defaultValue, vm := .none } = T1 at X₁ st1
  have hcat : (Value.ref T.heap.size).category = 1 := rfl
  have hcellA : T1.heap[T.heap.size]? = some (freshCell cX kX) := by rw [← hT1]; exact State.heap_pushCell_size _ _
  have d3' : decode c.code (pc + 3) = .ok (.dup, 1) := by rw [hb]; exact d3
  obtain ⟨U, hsteps, hrun, hend, hW, hsame, ce, hce, hO⟩ := X₁.ctorThrow0 hexec htr (own := own) (cls := cls) (names := names) (ic := ic) hown' hcls hnames h (fun x hx => nomatch hx) hfX hkX hcellA (by rw [hhp, hT]; exact Nat.le_refl _)
    (g := { method := m, pc := pc + 4, locals := ls, stack := .ref T.heap.size :: .ref T.heap.size :: rest, locked := none }) rfl hsize rfl rfl (rest := rest) rfl
    (by rw [hb]; exact d4) (by rw [hb]; exact d7) hout hRframes (by simp only [List.map_cons, List.sum_cons, hcat]; omega) hlocks
  obtain ⟨f1, f2⟩ := vx_frame hsame
  rw [hhp] at f1 f2
  have hWs : s.WarmedH U.vm := State.WarmedH.trans hW0 hW
  have hcl : s.vm.findClass cls = some ce.cls := by
    have h9 := hO.cls
    rw [hvm] at h9
    exact h9
  have hall : s.sameButNew ({ U with vm := s.vm } : State) locs mc ms := by
    subst hA
    obtain ⟨e1, e2⟩ := hsame
    rw [State.setFrames_setFrames] at e1
    have h2 : (T.setVm s.vm).sameButNew ({ U with vm := s.vm } : State) [] (0 + 1) (0 + 6) := ⟨e1, e2⟩
    have h3 := X.same.trans h2
    rw [List.append_nil] at h3
    exact h3.mono hc hs
  refine ⟨U, ?_, .threw T.heap.size, hrun, hend, Or.inr ⟨T.heap.size, rfl, cls, ce, locs, hx U hWs.alike f1 (fun q hq => f2 q hq (fun z hz => nomatch hz)), hce, hO.vm, hcl, hWs, hall, hf⟩⟩
  refine st1 _ ?_
  show Steps p.tables e below (T1.setTop { method := m, pc := pc + 3, locals := ls, stack := .ref T.heap.size :: rest, locked := none }) _
  jvm_step X₁.here [X₁.here.top, hexec, d3', Value.category]
  exact hsteps
/-- 'throw new E("text")': new; dup; ldc; invokespecial; athrow -/
theorem vx_throwS {cc : ByteArray} {pc : Nat} (hexec : p.tables.exec = Jvm.exec) (hb : c.code = cc) (hl : l.stackTraces = false) {own cls text : String} {names : List String} {ik is ic mc ms sa : Nat} {A : Nat → Prop}
    (hown : s.vm.findClass own = some m.cls) (hcls : Bundle.fit cls = true) (hnames : ∀ n ∈ names, Bundle.fit n = true)
    (hk : (Cond.classLink own ik cls).before args s = true) (hini : (Cond.initialized cls).before args s = true) (hstr : vk_R own is text sa s) (hat : ∀ w ∈ vx_atS own ic cls names, w.before args s = true)
    (hgood : ∀ w ∈ Cond.classLink own ik cls :: Cond.initialized cls :: vx_atS own ic cls names, vx_ot w = true)
    (hU : vx_Zq Bundle.tN "UNASSIGNED_STACK" Bundle.steD A s s.heap) (hN : vx_Zq Bundle.tN "SUPPRESSED_SENTINEL" Bundle.listD A s s.heap) (hS : va_S A s.heap H locs) (hsize : ls.size = c.maxLocals)
    (d0 : decode cc pc = .ok (.new ik, 3)) (d3 : decode cc (pc + 3) = .ok (.dup, 1)) (d4 : decode cc (pc + 4) = .ok (.ldc is, 2)) (d6 : decode cc (pc + 6) = .ok (.invokespecial ic, 3)) (d9 : decode cc (pc + 9) = .ok (.athrow, 1))
    (hout : ∀ x ∈ c.exceptionTable.toList, covers x (pc + 9) = false)
    (hRframes : names.length + 3 < R.frames) (hRlocals : (rest.map fun v => v.category).sum + (13 * (names.length + 1) + 43) ≤ R.locals) (hRcells : cells + 1 ≤ R.cells) (hRslots : slots + 6 ≤ R.slots) (hlocks : meth.locks = false)
    (hx : ∀ t : State, s.vm.Alike t.vm → H.size ≤ t.heap.size → (∀ q : Nat, q < H.size → t.heap[q]? = H[q]?) → XC cls s t)
    (hf : ∀ z ∈ locs, free z.base) (hc : cells + 1 ≤ mc) (hs : slots + 6 ≤ ms) :
    W p l e R s m args below meth c H locs cells slots (vx_MQ below Qc XC args s mc ms free) (F0 m pc ls rest) := by
  intro T hT X
  have htr : e.platform.stackTraces = false := (show e.platform.stackTraces = l.stackTraces by rw [X.admits.platform]).trans hl
  have Y := vx_rebase X (R' := { frames := R.frames, locals := R.locals, cells := 1, slots := 6 }) (Nat.le_refl _) (Nat.le_refl _) hRcells hRslots
  obtain ⟨s', hA⟩ : ∃ z, z = (T.setVm s.vm).setFrames (.invoking m args :: below) := ⟨_, rfl⟩
  rw [← hA] at Y
  have hvm : s'.vm = s.vm := by rw [hA]; rfl
  have hhp : s'.heap = H := by rw [hA]; exact hT
  have hW0 : s.WarmedH s'.vm := by rw [hvm]; exact State.WarmedH.refl s
  have hat' : ∀ w ∈ vx_atS own ic cls names, w.before args s' = true := fun w hw => vx_ot_at hW0 hvm.symm (hgood w (List.mem_cons_of_mem _ (List.mem_cons_of_mem _ hw))) (hat w hw)
  have hk' : (Cond.classLink own ik cls).before args s' = true := vx_ot_at hW0 hvm.symm (hgood _ List.mem_cons_self) hk
  have hini' : (Cond.initialized cls).before args s' = true := vx_ot_at hW0 hvm.symm (hgood _ (List.mem_cons_of_mem _ List.mem_cons_self)) hini
  have hU' : vx_Zq Bundle.tN "UNASSIGNED_STACK" Bundle.steD A s' s'.heap := by rw [hhp]; exact vx_Zq.moved hW0.alike (hU.kept hS.2.1)
  have hN' : vx_Zq Bundle.tN "SUPPRESSED_SENTINEL" Bundle.listD A s' s'.heap := by rw [hhp]; exact vx_Zq.moved hW0.alike (hN.kept hS.2.1)
  have h : ∀ w ∈ Bundle.ownAtoms own ic cls names, w.before args s' = true := vx_own hat' (vx_isRefq hU'.1) (vx_isRefq hN'.1) hU'.2.word hN'.2.word
  have hown' : s'.vm.findClass own = some m.cls := by rw [hvm]; exact hown
  have hins : (Cond.instantiable cls 6).before args s' = true := h _ (by simp [Bundle.ownAtoms])
  obtain ⟨vm₁, cX, kX, hfX, hkX, -, -, X₁, st1⟩ := Y.newCold hexec (own := own) (C := cls) (index := ik) (n := 6) hown' hk' hins hini'
    (g := F0 m pc ls rest) rfl (by rw [hb]; exact d0) (Nat.le_refl _) (Nat.le_refl _)
  generalize hT1 : (T.setVm vm₁).pushCell { cls := cX, slots := kX.instanceTypes.map defaultValue, vm := .none } = T1 at X₁ st1
  have hcat : (Value.ref T.heap.size).category = 1 := rfl
  have hcellA : T1.heap[T.heap.size]? = some (freshCell cX kX) := by rw [← hT1]; exact State.heap_pushCell_size _ _
  have d3' : decode c.code (pc + 3) = .ok (.dup, 1) := by rw [hb]; exact d3
  have d4' : decode c.code (pc + 4) = .ok (.ldc is, 2) := by rw [hb]; exact d4
  have hstr' : vk_R own is text sa s' := vk_R.warm hW0 hstr
  obtain ⟨U, hsteps, hrun, hend, hW, hsame, ce, hce, hO⟩ := X₁.ctorThrowS hexec htr (own := own) (cls := cls) (names := names) (ic := ic) hown' hcls hnames h (fun x hx => nomatch hx) hfX hkX hcellA (by rw [hhp, hT]; exact Nat.le_refl _) (msg := .ref sa) rfl
    (g := { method := m, pc := pc + 6, locals := ls, stack := .ref sa :: .ref T.heap.size :: .ref T.heap.size :: rest, locked := none }) rfl hsize rfl rfl (rest := rest) rfl
    (by rw [hb]; exact d6) (by rw [hb]; exact d9) hout hRframes (by simp only [List.map_cons, List.sum_cons, hcat]; omega) hlocks
  obtain ⟨f1, f2⟩ := vx_frame hsame
  rw [hhp] at f1 f2
  have hWs : s.WarmedH U.vm := State.WarmedH.trans hW0 hW
  have hcl : s.vm.findClass cls = some ce.cls := by
    have h9 := hO.cls
    rw [hvm] at h9
    exact h9
  have hall : s.sameButNew ({ U with vm := s.vm } : State) locs mc ms := by
    subst hA
    obtain ⟨e1, e2⟩ := hsame
    rw [State.setFrames_setFrames] at e1
    have h2 : (T.setVm s.vm).sameButNew ({ U with vm := s.vm } : State) [] (0 + 1) (0 + 6) := ⟨e1, e2⟩
    have h3 := X.same.trans h2
    rw [List.append_nil] at h3
    exact h3.mono hc hs
  refine ⟨U, ?_, .threw T.heap.size, hrun, hend, Or.inr ⟨T.heap.size, rfl, cls, ce, locs, hx U hWs.alike f1 (fun q hq => f2 q hq (fun z hz => nomatch hz)), hce, hO.vm, hcl, hWs, hall, hf⟩⟩
  refine st1 _ ?_
  show Steps p.tables e below (T1.setTop { method := m, pc := pc + 3, locals := ls, stack := .ref T.heap.size :: rest, locked := none }) _
  jvm_step X₁.here [X₁.here.top, hexec, d3', Value.category]
  exact X₁.ldcString hexec (own := own) (text := text) (index := is) (a := sa) hown' hstr'.1 hstr'.2
    (g := { method := m, pc := pc + 4, locals := ls, stack := .ref T.heap.size :: .ref T.heap.size :: rest, locked := none }) rfl d4' _ hsteps
/-- 'throw new E("text")', the text by a wide index -/
theorem vx_throwSW {cc : ByteArray} {pc : Nat} (hexec : p.tables.exec = Jvm.exec) (hb : c.code = cc) (hl : l.stackTraces = false) {own cls text : String} {names : List String} {ik is ic mc ms sa : Nat} {A : Nat → Prop}
    (hown : s.vm.findClass own = some m.cls) (hcls : Bundle.fit cls = true) (hnames : ∀ n ∈ names, Bundle.fit n = true)
    (hk : (Cond.classLink own ik cls).before args s = true) (hini : (Cond.initialized cls).before args s = true) (hstr : vk_R own is text sa s) (hat : ∀ w ∈ vx_atS own ic cls names, w.before args s = true)
    (hgood : ∀ w ∈ Cond.classLink own ik cls :: Cond.initialized cls :: vx_atS own ic cls names, vx_ot w = true)
    (hU : vx_Zq Bundle.tN "UNASSIGNED_STACK" Bundle.steD A s s.heap) (hN : vx_Zq Bundle.tN "SUPPRESSED_SENTINEL" Bundle.listD A s s.heap) (hS : va_S A s.heap H locs) (hsize : ls.size = c.maxLocals)
    (d0 : decode cc pc = .ok (.new ik, 3)) (d3 : decode cc (pc + 3) = .ok (.dup, 1)) (d4 : decode cc (pc + 4) = .ok (.ldc_w is, 3)) (d7 : decode cc (pc + 7) = .ok (.invokespecial ic, 3)) (d10 : decode cc (pc + 10) = .ok (.athrow, 1))
    (hout : ∀ x ∈ c.exceptionTable.toList, covers x (pc + 10) = false)
    (hRframes : names.length + 3 < R.frames) (hRlocals : (rest.map fun v => v.category).sum + (13 * (names.length + 1) + 43) ≤ R.locals) (hRcells : cells + 1 ≤ R.cells) (hRslots : slots + 6 ≤ R.slots) (hlocks : meth.locks = false)
    (hx : ∀ t : State, s.vm.Alike t.vm → H.size ≤ t.heap.size → (∀ q : Nat, q < H.size → t.heap[q]? = H[q]?) → XC cls s t)
    (hf : ∀ z ∈ locs, free z.base) (hc : cells + 1 ≤ mc) (hs : slots + 6 ≤ ms) :
    W p l e R s m args below meth c H locs cells slots (vx_MQ below Qc XC args s mc ms free) (F0 m pc ls rest) := by
  intro T hT X
  have htr : e.platform.stackTraces = false := (show e.platform.stackTraces = l.stackTraces by rw [X.admits.platform]).trans hl
  have Y := vx_rebase X (R' := { frames := R.frames, locals := R.locals, cells := 1, slots := 6 }) (Nat.le_refl _) (Nat.le_refl _) hRcells hRslots
  obtain ⟨s', hA⟩ : ∃ z, z = (T.setVm s.vm).setFrames (.invoking m args :: below) := ⟨_, rfl⟩
  rw [← hA] at Y
  have hvm : s'.vm = s.vm := by rw [hA]; rfl
  have hhp : s'.heap = H := by rw [hA]; exact hT
  have hW0 : s.WarmedH s'.vm := by rw [hvm]; exact State.WarmedH.refl s
  have hat' : ∀ w ∈ vx_atS own ic cls names, w.before args s' = true := fun w hw => vx_ot_at hW0 hvm.symm (hgood w (List.mem_cons_of_mem _ (List.mem_cons_of_mem _ hw))) (hat w hw)
  have hk' : (Cond.classLink own ik cls).before args s' = true := vx_ot_at hW0 hvm.symm (hgood _ List.mem_cons_self) hk
  have hini' : (Cond.initialized cls).before args s' = true := vx_ot_at hW0 hvm.symm (hgood _ (List.mem_cons_of_mem _ List.mem_cons_self)) hini
  have hU' : vx_Zq Bundle.tN "UNASSIGNED_STACK" Bundle.steD A s' s'.heap := by rw [hhp]; exact vx_Zq.moved hW0.alike (hU.kept hS.2.1)
  have hN' : vx_Zq Bundle.tN "SUPPRESSED_SENTINEL" Bundle.listD A s' s'.heap := by rw [hhp]; exact vx_Zq.moved hW0.alike (hN.kept hS.2.1)
  have h : ∀ w ∈ Bundle.ownAtoms own ic cls names, w.before args s' = true := vx_own hat' (vx_isRefq hU'.1) (vx_isRefq hN'.1) hU'.2.word hN'.2.word
  have hown' : s'.vm.findClass own = some m.cls := by rw [hvm]; exact hown
  have hins : (Cond.instantiable cls 6).before args s' = true := h _ (by simp [Bundle.ownAtoms])
  obtain ⟨vm₁, cX, kX, hfX, hkX, -, -, X₁, st1⟩ := Y.newCold hexec (own := own) (C := cls) (index := ik) (n := 6) hown' hk' hins hini'
    (g := F0 m pc ls rest) rfl (by rw [hb]; exact d0) (Nat.le_refl _) (Nat.le_refl _)
  generalize hT1 : (T.setVm vm₁).pushCell { cls := cX, slots := kX.instanceTypes.map defaultValue, vm := .none } = T1 at X₁ st1
  have hcat : (Value.ref T.heap.size).category = 1 := rfl
  have hcellA : T1.heap[T.heap.size]? = some (freshCell cX kX) := by rw [← hT1]; exact State.heap_pushCell_size _ _
  have d3' : decode c.code (pc + 3) = .ok (.dup, 1) := by rw [hb]; exact d3
  have d4' : decode c.code (pc + 4) = .ok (.ldc_w is, 3) := by rw [hb]; exact d4
  have hstr' : vk_R own is text sa s' := vk_R.warm hW0 hstr
  obtain ⟨U, hsteps, hrun, hend, hW, hsame, ce, hce, hO⟩ := X₁.ctorThrowS hexec htr (own := own) (cls := cls) (names := names) (ic := ic) hown' hcls hnames h (fun x hx => nomatch hx) hfX hkX hcellA (by rw [hhp, hT]; exact Nat.le_refl _) (msg := .ref sa) rfl
    (g := { method := m, pc := pc + 7, locals := ls, stack := .ref sa :: .ref T.heap.size :: .ref T.heap.size :: rest, locked := none }) rfl hsize rfl rfl (rest := rest) rfl
    (by rw [hb]; exact d7) (by rw [hb]; exact d10) hout hRframes (by simp only [List.map_cons, List.sum_cons, hcat]; omega) hlocks
  obtain ⟨f1, f2⟩ := vx_frame hsame
  rw [hhp] at f1 f2
  have hWs : s.WarmedH U.vm := State.WarmedH.trans hW0 hW
  have hcl : s.vm.findClass cls = some ce.cls := by
    have h9 := hO.cls
    rw [hvm] at h9
    exact h9
  have hall : s.sameButNew ({ U with vm := s.vm } : State) locs mc ms := by
    subst hA
    obtain ⟨e1, e2⟩ := hsame
    rw [State.setFrames_setFrames] at e1
    have h2 : (T.setVm s.vm).sameButNew ({ U with vm := s.vm } : State) [] (0 + 1) (0 + 6) := ⟨e1, e2⟩
    have h3 := X.same.trans h2
    rw [List.append_nil] at h3
    exact h3.mono hc hs
  refine ⟨U, ?_, .threw T.heap.size, hrun, hend, Or.inr ⟨T.heap.size, rfl, cls, ce, locs, hx U hWs.alike f1 (fun q hq => f2 q hq (fun z hz => nomatch hz)), hce, hO.vm, hcl, hWs, hall, hf⟩⟩
  refine st1 _ ?_
  show Steps p.tables e below (T1.setTop { method := m, pc := pc + 3, locals := ls, stack := .ref T.heap.size :: rest, locked := none }) _
  jvm_step X₁.here [X₁.here.top, hexec, d3', Value.category]
  exact X₁.ldcStringW hexec (own := own) (text := text) (index := is) (a := sa) hown' hstr'.1 hstr'.2
    (g := { method := m, pc := pc + 4, locals := ls, stack := .ref T.heap.size :: .ref T.heap.size :: rest, locked := none }) rfl d4' _ hsteps
end Ends
section Bodies
variable {l : Launch}
theorem vx_ofW {y : MethodName} {ws ws' : List Cond} {rm : Room} {Pc : Array Value → State → Prop} {Qc : Array Value → State → Outcome → State → Prop} {XC : String → State → State → Prop} {mc ms : Nat} {free : Addr → Prop} {cc : ByteArray} {maxL : Nat} {ret : Option FieldType}
    (hy : plainName y.cls = true) (hw : ws = Cond.code y cc maxL ret :: ws')
    (body : ∀ p e s m args below meth c s₁, BodyLoose p l y (headSpec ws rm) cc maxL ret e s m args below meth c s₁ → c.maxLocals = maxL → (∀ x ∈ c.exceptionTable.toList, False) → Pc args s →
      W p l e (headSpec ws rm).room s m args below meth c s.heap [] 0 0 (vx_MQ below Qc XC args s mc ms free) (entryFrame m args maxL)) : vx_Met l y ws rm Pc Qc XC mc ms free := by
  refine MetFree.of_bodyS (code := cc) (maxLocals := maxL) (ret := ret) hy ?_ ?_
  · intro args s m h hn
    obtain ⟨meth, c, h1, h2, h3, h4, h5, h6, -, -⟩ := Cond.code_spec hn (atoms_spec (ws := ws) h _ (by rw [hw]; exact List.mem_cons_self))
    exact ⟨meth, c, h1, h2, h3, h4, h5, h6⟩
  · intro p e s m args below meth c s₁ B hml hP _
    have hh0 : s₁.heap = s.heap := by rw [B.state]; rfl
    have ht : ∀ x ∈ c.exceptionTable.toList, False := by
      obtain ⟨meth9, c9, h1, h2, -, -, -, -, h7, -⟩ := Cond.code_spec B.named (atoms_spec (ws := ws) B.pre _ (by rw [hw]; exact List.mem_cons_self))
      cases Option.some.inj (h1.symm.trans B.method)
      cases Option.some.inj (h2.symm.trans (Stand.of_body B).code)
      intro x hx
      rw [Array.isEmpty_iff.mp h7] at hx
      cases hx
    obtain ⟨t, a1, o, b1, b2, b3⟩ := body p e s m args below meth c s₁ B hml ht hP s₁ hh0 (Stand.of_body B)
    exact ⟨t, o, a1, b1, b2, b3⟩
/-- the table of a body with handlers -/
theorem vx_table {p : Program} {x y : MethodName} {S : Spec} {cc bytes : ByteArray} {maxL maxL' : Nat} {ret ret' : Option FieldType} {e : Env} {s s₁ : State} {m : MethodId} {args : Array Value} {below : List Frame} {meth : Method} {c : Code} {hh : List (Nat × Nat × Nat × Nat)}
    (B : BodyLoose p l y S cc maxL ret e s m args below meth c s₁) (h : (Cond.codeWith y bytes maxL' ret' hh).before args s = true) : c.exceptionTable.toList = tableOf hh := by
  obtain ⟨m9, meth9, c9, hn9, h1, h2, -, -, h6, -⟩ := Cond.codeWith_spec h
  cases Option.some.inj (hn9.symm.trans B.named)
  cases Option.some.inj (h1.symm.trans B.method)
  cases Option.some.inj (h2.symm.trans (Stand.of_body B).code)
  rw [← h6, table_eq]
end Bodies
end VXA
/-! ===== END ===== -/
/-! ===== BEGIN a static call of a method with an exception table ===== -/
section VXS
variable {p : Program} {l : Launch} {e : Env} {R : Room} {s : State} {m : MethodId} {args : Array Value} {below : List Frame} {meth : Method} {c : Code} {T : State} {H : Heap} {locs : List Loc} {cells slots : Nat}
abbrev vx_CSW (R : Room) (s : State) (args : Array Value) (own : String) (index : Nat) (y : MethodName) (bytes : ByteArray) (maxL : Nat) (ret : Option FieldType) (hh : List (Nat × Nat × Nat × Nat)) (ws : List Cond) (rm : Room) (mc ms n : Nat) : Prop :=
  (rm.cells = mc ∧ rm.slots = ms ∧ rm.frames + 1 ≤ R.frames ∧ 8 + (maxL + 11) + rm.locals ≤ R.locals ∧ (∀ w ∈ ws, ∀ (a' : Array Value) (U : State), s.WarmedH U.vm → w.before a' U = true) ∧ Cond.codeWith y bytes maxL ret hh ∈ ws) ∧
  (Cond.codeWith y bytes maxL ret hh).before args s = true ∧ (Cond.initialized y.cls).before args s = true ∧ (y.cls ≠ "java/lang/invoke/MethodHandle" ∧ y.cls ≠ "java/lang/invoke/VarHandle") ∧
  (∀ sig, parseMethodDescriptor y.desc = some sig → n = sig.parameters.length) ∧ (Cond.methodLink own index y).before args s = true ∧ (Cond.static y).before args s = true
theorem vx_cwSW {own : String} {index maxL mc ms : Nat} {y : MethodName} {bytes : ByteArray} {ret : Option FieldType} {hh : List (Nat × Nat × Nat × Nat)} {Ts ws ws' : List Cond} {rm : Room} (n : Nat) (ht : ∀ w ∈ Ts, w.before args s = true) (hT : GoodIn Ts (va_wsS own index y ws)) (hw : ws = Cond.codeWith y bytes maxL ret hh :: ws') (hrc : rm.cells = mc) (hrs : rm.slots = ms)
    (hd : y.cls ≠ "java/lang/invoke/MethodHandle" ∧ y.cls ≠ "java/lang/invoke/VarHandle" ∧ (parseMethodDescriptor y.desc).map (fun d => d.parameters.length) = some n) (hR : rm.frames + 1 ≤ R.frames ∧ 8 + (maxL + 11) + rm.locals ≤ R.locals) :
    vx_CSW R s args own index y bytes maxL ret hh ws rm mc ms n := by
  have ok : ∀ w ∈ va_wsS own index y ws, w.before args s = true := fun w h => ht w (hT w h).1
  have hG : GoodIn Ts ws := fun w h => hT w (by unfold va_wsS; exact List.mem_append_right _ h)
  have hc : Cond.codeWith y bytes maxL ret hh ∈ ws := by rw [hw]; exact List.mem_cons_self
  refine ⟨⟨hrc, hrs, hR.1, hR.2, pay_in ht hG, hc⟩, ht _ (hG _ hc).1, ok _ (by simp [va_wsS]), ⟨hd.1, hd.2.1⟩, fun sig h => ?_, ok _ (by simp [va_wsS]), ok _ (by simp [va_wsS])⟩
  have h2 := hd.2.2
  rw [h] at h2
  exact (Option.some.inj h2).symm
theorem vx_callSW (X : Stand p l e R s m args below meth c T locs cells slots) (hexec : p.tables.exec = Jvm.exec) {own : String} {index : Nat} {y : MethodName} {bytes : ByteArray} {maxL : Nat} {ret : Option FieldType} {hh : List (Nat × Nat × Nat × Nat)}
    (hown : s.vm.findClass own = some m.cls) (hlink : (Cond.methodLink own index y).before args s = true) (hstat : (Cond.static y).before args s = true) (hinit : (Cond.initialized y.cls).before args s = true)
    (hcode : (Cond.codeWith y bytes maxL ret hh).before args s = true) (hy : y.cls ≠ "java/lang/invoke/MethodHandle" ∧ y.cls ≠ "java/lang/invoke/VarHandle")
    {W9 : Nat} {Pre : Pt → Array Value → Prop} {Post : Pt → Array Value → Option Value → Pt → Prop} (hK : Back l R p e below s args y 3 W9 Pre Post)
    {g : JFrame} (hg : g.method = m) (hsize : g.locals.size = c.maxLocals) {argsL rest : List Value} (hlen : ∀ sig, parseMethodDescriptor y.desc = some sig → argsL.length = sig.parameters.length)
    (hstack : g.stack = argsL.reverse ++ rest) (hW : 2 * g.monitorRoom + (rest.map fun v => v.category).sum ≤ W9) (hdg : decode c.code g.pc = .ok (.invokestatic index, 3))
    (hpre : ∀ vm₁, s.WarmedH vm₁ → Pre ⟨T.setVm vm₁, locs, cells, slots⟩ argsL.toArray) :
    ∃ (v : Option Value) (vm₁ : Vm) (B : Pt), s.WarmedH vm₁ ∧ Stand p l e R s m args below meth c B.U B.locs B.cells B.slots ∧ Post ⟨T.setVm vm₁, locs, cells, slots⟩ argsL.toArray v B ∧
      ∀ target, Steps p.tables e below (B.U.setTop { g with pc := g.pc + 3, stack := v.toList ++ rest }) target → Steps p.tables e below (T.setTop g) target := by
  obtain ⟨mk, methM, cM, hnamed, hmethM, -, -, -, -, -, -, hsigM⟩ := Cond.codeWith_spec hcode
  have hstatic : methM.isStatic = true := Cond.static_spec hnamed hmethM hstat
  obtain ⟨kP, hkP, -⟩ := className_of_methodNamed hnamed
  have hinitP : kP.init = .initialized := Cond.initialized_spec (findClass_of_methodNamed hnamed) hkP hinit
  obtain ⟨vm₁, X₁, hstep₁⟩ := X.invokestatic hexec hown hlink hnamed hmethM hstatic hkP hinitP hy (g := g) hg (argsL := argsL) (rest := rest) (hlen _ hsigM) hstack hdg
  obtain ⟨v, B, X', hpost, hsteps⟩ := hK m meth c ⟨T.setVm vm₁, locs, cells, slots⟩ { g with stack := rest } (.invokestatic index) mk argsL.toArray X₁ hg hsize hdg hW (X₁.named hnamed) (hpre vm₁ X₁.warmed)
  exact ⟨v, vm₁, B, X₁.warmed, X', hpost, fun target h => hstep₁ _ fun acts => by rw [doInvoke_state]; exact hsteps.trans h⟩
theorem vx_runSW {y : MethodName} {bytes cc : ByteArray} {maxL nL mc ms n index : Nat} {ret : Option FieldType} {hh : List (Nat × Nat × Nat × Nat)} {ws : List Cond} {rm : Room} {Pc : Array Value → State → Prop} {Qc : Array Value → State → Outcome → State → Prop} {free : Addr → Prop} {Ts : List Cond} {own : String} {As rest : List Value} {g : JFrame}
    (S : CallFix p m c cc nL s args Ts own) (hM : Met l y ws rm Pc Qc mc ms free) (cw : vx_CSW R s args own index y bytes maxL ret hh ws rm mc ms n) (hp : PreS s H Pc As)
    (hg : g.method = m) (hn : As.length = n) (hsize : g.locals.size = nL) (hstack : g.stack = As.reverse ++ rest) (hW : 2 * g.monitorRoom + (rest.map fun v => v.category).sum ≤ 8) (hdg : decode cc g.pc = .ok (.invokestatic index, 3)) (hf : cells + mc ≤ R.cells ∧ slots + ms ≤ R.slots) :
    va_Run p l e R s m args below meth c H locs cells slots mc ms g rest (Qc As.toArray) (free) := by
  obtain ⟨⟨hrc, hrs, hfr, hlo, hws, hcw⟩, hcode, hini, hy, hlen, hl, hstt⟩ := cw
  have hK : Back l R p e below s args y 3 8 (PreOf R mc ms Pc) (PostOf Qc mc ms free) := va_backW (hh := hh) (bytes := bytes) (maxL := maxL) (ret := ret) hM hp.1 hrc hrs hfr hlo hws hcw (fun a' U hW => word_at hW (Or.inl (by first | rfl | simp [Cond.onTables, Cond.keeps, Cond.steady])) hini)
  obtain ⟨hx, hb, hml, ho, -⟩ := S
  intro T hT X
  obtain ⟨v, vm₁, ⟨U', l2, c2, s2⟩, hW₁, X', ⟨g', mk, t, L, e1, e2, hq, h1, hL, h2, h3⟩, st⟩ := vx_callSW X hx (hh := hh) (bytes := bytes) (maxL := maxL) (ret := ret) ho hl hstt hini hcode hy hK hg (hsize.trans hml.symm) (argsL := As) (rest := rest) (fun sig h => hn.trans (hlen sig h)) hstack hW (by rw [hb]; exact hdg)
    (fun vm₁ hW₁ => ⟨hf.1, hf.2, hp.2 (T.setVm vm₁) hT hW₁⟩)
  dsimp only [Pt.U, Pt.locs, Pt.cells, Pt.slots] at X' e1 e2 h1 h2 h3 st
  subst h1; subst h2; subst h3
  exact ⟨v, (T.setVm vm₁).calling g' mk As.toArray, t, U', L, hT, X', hL, e1, e2, hq, st⟩
/-- not caught here, past rows that name other classes: it goes on to the caller -/
theorem vx_outP {p : Program} {l : Launch} {e : Env} {R : Room} {s : State} {m : MethodId} {args : Array Value} {below : List Frame} {meth : Method} {c : Code} {H : Heap} {locs : List Loc} {cells slots : Nat} {free : Addr → Prop} {ls : Array Slot} {rest : List Value} {Qc : Array Value → State → Outcome → State → Prop} {XC : String → State → State → Prop}
    {pc : Nat} {own E : String} {ce : Cell} {q : Addr} {mc ms : Nat} (hown : s.vm.findClass own = some m.cls) (hlocks : meth.locks = false)
    (hpass : ∀ z ∈ c.exceptionTable.toList, covers z pc = false ∨ (z.catchType ≠ 0 ∧ ∃ nm : String, (Cond.classLink own z.catchType nm).before args s = true ∧ va_Nc E nm s)) (hcell : H[q]? = some ce) (hv : ce.vm = .none) (hcl : s.vm.findClass E = some ce.cls)
    (hx : ∀ t : State, t.heap = H → s.vm.Alike t.vm → XC E s t) (hf : ∀ z ∈ locs, free z.base) (hc : cells ≤ mc) (hs : slots ≤ ms) :
    vx_W p l e R s m args below meth c H locs cells slots (vx_MQ below Qc XC args s mc ms free) (F0 m pc ls rest) q := by
  intro T hT X
  have hpl : e.platform.magicAccessors = ({} : Platform).magicAccessors := by rw [X.admits.platform]
  obtain ⟨vm', hW', X', st⟩ := X.outThrough hlocks q (g := F0 m pc ls rest) rfl rfl rfl (cell := ce) (by rw [hT]; exact hcell) (by rw [hv]; rfl)
    (by obtain ⟨k9, h9, -⟩ := Vm.findClass_spec hcl; exact ⟨k9, h9⟩) (fun z hz => by
      rcases hpass z hz with h | ⟨hz0, nm, hl1, hn1⟩
      · exact Or.inl h
      · obtain ⟨c6, hc6, hcl6⟩ := Cond.classLink_spec hown hl1 e.platform hpl
        obtain ⟨a8, b8, h1, h2, h3⟩ := hn1
        cases Option.some.inj (h1.symm.trans hcl)
        cases Option.some.inj (h2.symm.trans hc6)
        exact Or.inr ⟨hz0, _, hcl6, h3⟩)
  obtain ⟨g₀, hfr⟩ := X'.frames_eq
  have hcell9 : ((T.setVm vm').setFrames (.throwing q :: below)).heap[q]? = some ce := by
    show T.heap[q]? = some ce
    rw [hT]; exact hcell
  have hend : Ended ((T.setVm vm').setFrames (.throwing q :: below)) below (.threw q) := State.frames_setFrames _ (State.cur_lt_of_frames hfr)
  refine ⟨(T.setVm vm').setFrames (.throwing q :: below), ?_, .threw q, X'.here.running, hend, Or.inr ⟨q, rfl, E, ce, locs, hx _ hT (X'.ends _).1.alike, hcell9, hv, hcl, (X'.ends _).1, (X'.ends _).2.mono hc hs, hf⟩⟩
  rw [X.pushThrowing_eq]
  exact st
/-- a thing of a world lies in the heap -/
theorem vx_lt {D : va_G} {cl : List vw_C} {ws : va_W} {H1 : Heap} (h : va_P D cl ws H1) {k : Nat} {q : Nat × va_E} (hk : ws[k]? = some q) : q.1 < H1.size := (h k q hk).lt
end VXS
/-! ===== END ===== -/
/-! ===== BEGIN methods with a table of their own: called by a name, returning or throwing ===== -/
section VXH
/-! vx_backW, vx_callVX, vx_callSX, vx_callVW, vx_runVW, vx_runVX, vx_runSX, vx_ofWH follow the same proofs as their sisters above (Free/Laws.lean, Shelf42/LK1.lean); vx_outP calls Shelf42/NT130.lean (outThrough). -/
section
variable {l : Launch} {R : Room} {p : Program} {e : Env} {below : List Frame} {s : State} {sargs : Array Value} {y : MethodName} {len W9 : Nat}
theorem vx_backW {ws : List Cond} {rm : Room} {Pc : Array Value → State → Prop} {Qc : Array Value → State → Outcome → State → Prop} {XC : String → State → State → Prop} {mc ms : Nat} {free : Addr → Prop} {bytes : ByteArray} {maxL : Nat} {ret : Option FieldType} {hh : List (Nat × Nat × Nat × Nat)}
    (hM : vx_Met l y ws rm Pc Qc XC mc ms free) (hblind : FrameBlind Pc) (hrc : rm.cells = mc) (hrs : rm.slots = ms)
    (hframes : rm.frames + 1 ≤ R.frames) (hlocals : W9 + (maxL + 11) + rm.locals ≤ R.locals)
    (hws : ∀ w ∈ ws, ∀ a' U, s.WarmedH U.vm → w.before a' U = true) (hcode : Cond.codeWith y bytes maxL ret hh ∈ ws) (hinit : ∀ a' U, s.WarmedH U.vm → (Cond.initialized y.cls).before a' U = true) :
    vx_Back l R p e below s sargs y len W9 (PreOf R mc ms Pc) (PostOf Qc mc ms free) (vx_Post XC mc ms free) := by
  intro m meth c A g ig mk a X hg hsize hdg hW hn hp
  have h1 : (headSpec ws rm).pre.before a A.U = true := atoms_intro fun w hw => hws w hw _ _ X.warmed
  have h2 : (Cond.codeWith y bytes maxL ret hh).before a A.U = true := hws _ hcode _ _ X.warmed
  have h3 : (Cond.initialized y.cls).before a A.U = true := hinit _ _ X.warmed
  have h4 : A.cells + (headSpec ws rm).room.cells ≤ R.cells := by rw [show (headSpec ws rm).room.cells = mc from hrc]; exact hp.1
  have h5 : A.slots + (headSpec ws rm).room.slots ≤ R.slots := by rw [show (headSpec ws rm).room.slots = ms from hrs]; exact hp.2.1
  have hPc : Pc a (A.U.calling g mk a) := hblind _ _ _ _ hp.2.2
  obtain ⟨U, Ls, c0, s0⟩ := A
  dsimp only [Pt.U, Pt.locs, Pt.cells, Pt.slots] at h1 h2 h3 h4 h5 X hn hPc ⊢
  obtain ⟨m9, methY, cY, hn9, hmY, hcY, -, hlY, -⟩ := Cond.codeWith_spec h2
  cases Option.some.inj (hn9.symm.trans hn)
  obtain ⟨kY, hkY, -⟩ := className_of_methodNamed hn
  have hinitY : kY.init = .initialized := Cond.initialized_spec (findClass_of_methodNamed hn) hkY h3
  have h : At U g.method c below := by rw [hg]; exact X.here
  have hlocals9 : W9 + (maxL + 11) + (headSpec ws rm).room.locals ≤ R.locals := hlocals
  have happ : (headSpec ws rm).appliesLoose y e.platform (U.calling g mk a) = true :=
    Spec.appliesLoose_calling (g := g) h hdg hn hkY hinitY
      (X.room_calling (g := g) (R' := (headSpec ws rm).room) hsize hmY hcY hframes (by rw [hlY]; omega) h4 h5) h1
  obtain ⟨mid, hmid⟩ := h.above
  have hfr : (U.setTop g).frames = (.java g :: mid) ++ below := by rw [State.frames_setTop' g h.top, hmid]; rfl
  obtain ⟨o, s₂, hsteps, -, hend, hq⟩ := Steps.callFree hM p X.admits X.cas X.clock (acts := []) hfr happ hPc trivial
  have hq' : vx_Q Qc XC mc ms free a (U.calling g mk a) o s₂ := hq
  rw [State.frames_setTop' g h.top] at hend
  obtain ⟨g₀, hg0⟩ := Option.isSome_iff_exists.mp h.top
  obtain ⟨r, hr⟩ := State.topJava?_eq_some.mp hg0
  have hr' : (({ U with heap := s₂.heap, slotsUsed := s₂.slotsUsed } : State).setVm s₂.vm).frames = .java g₀ :: r := hr
  rcases hq' with ⟨hqc, L, hfe, hL⟩ | ⟨q, rfl, E, ce, L, hx, hce, hcv, hcl, hW₂, hsm, hL⟩
  · obtain ⟨⟨v, rfl⟩, hW₂, e2, q2, q3, q4, q5, q6⟩ := id hfe
    have e3 : s₂ = ({ (U.calling g mk a).setFrames s₂.frames with heap := s₂.heap, slotsUsed := s₂.slotsUsed } : State).setVm s₂.vm := by
      have : s₂ = ({ s₂ with vm := (U.calling g mk a).vm } : State).setVm s₂.vm := rfl
      rw [e2] at this
      exact this
    obtain ⟨c₂, i₂, len₂, hc₂, hd₂, hf₂⟩ := hend
    have hW' : U.WarmedH s₂.vm := hW₂
    have hcc : c₂ = c := by
      have h1 : s₂.code? g.method = U.code? g.method := by
        rw [State.code?_eq, State.code?_eq, hW'.alike.method?]
      exact Option.some.inj (hc₂.symm.trans (h1.trans h.code))
    subst hcc
    have hlen : len₂ = len := by rw [hdg] at hd₂; cases hd₂; rfl
    subst hlen
    have hs₂ : s₂ = (({ U with heap := s₂.heap, slotsUsed := s₂.slotsUsed } : State).setVm s₂.vm).setTop { g with pc := g.pc + len₂, stack := v.toList ++ g.stack } := by
      refine e3.trans ?_
      rw [hf₂, State.calling_eq h.top, State.setFrames_setFrames, State.setTop_of_frames _ hr', hr]
      rfl
    have hsame : U.sameButNew ({ U with heap := s₂.heap, slotsUsed := s₂.slotsUsed } : State) L mc ms := by
      refine ⟨?_, q2, q3, q4, q5, q6⟩
      obtain ⟨t, ht, -⟩ := State.frames_cons hr
      show ({ U with heap := s₂.heap, slotsUsed := s₂.slotsUsed } : State) = { U.setFrames U.frames with heap := s₂.heap, slotsUsed := s₂.slotsUsed }
      rw [State.setFrames_self ht]
    subst hg
    refine Or.inl ⟨v, ⟨(({ U with heap := s₂.heap, slotsUsed := s₂.slotsUsed } : State).setVm s₂.vm), Ls ++ L, c0 + mc, s0 + ms⟩,
      ⟨X.admits, X.cas, X.clock, X.frames, X.room, X.hears, X.method, X.code, (X.here.setHeapUsed s₂.heap s₂.slotsUsed).setVm hW'.alike, X.tail, State.WarmedH.trans X.warmed hW', X.limits, X.bytes, X.same.trans (hsame.setVm s.vm)⟩,
      ⟨g, mk, s₂, L, rfl, rfl, hqc, rfl, hL, rfl, rfl⟩, ?_⟩
    show Steps p.tables e below _ ((({ U with heap := s₂.heap, slotsUsed := s₂.slotsUsed } : State).setVm s₂.vm).setTop { g with pc := g.pc + len₂, stack := v.toList ++ g.stack })
    rw [← hs₂]
    exact hsteps
  · obtain ⟨e2, q2, q3, q4, q5, q6⟩ := id hsm
    have e3 : s₂ = ({ (U.calling g mk a).setFrames s₂.frames with heap := s₂.heap, slotsUsed := s₂.slotsUsed } : State).setVm s₂.vm := by
      have : s₂ = ({ s₂ with vm := (U.calling g mk a).vm } : State).setVm s₂.vm := rfl
      rw [e2] at this
      exact this
    have hf₂ : s₂.frames = .throwing q :: .java g :: U.frames.tail := hend
    have hW' : U.WarmedH s₂.vm := hW₂
    have hs₂ : s₂ = ((({ U with heap := s₂.heap, slotsUsed := s₂.slotsUsed } : State).setVm s₂.vm).setTop g).pushFrame (.throwing q) := by
      refine e3.trans ?_
      rw [hf₂, State.calling_eq h.top, State.setFrames_setFrames, State.pushFrame, State.frames_setTop _ hr', State.setTop_of_frames _ hr', State.setFrames_setFrames, hr]
      rfl
    have hsame : U.sameButNew ({ U with heap := s₂.heap, slotsUsed := s₂.slotsUsed } : State) L mc ms := by
      refine ⟨?_, q2, q3, q4, q5, q6⟩
      obtain ⟨t, ht, -⟩ := State.frames_cons hr
      show ({ U with heap := s₂.heap, slotsUsed := s₂.slotsUsed } : State) = { U.setFrames U.frames with heap := s₂.heap, slotsUsed := s₂.slotsUsed }
      rw [State.setFrames_self ht]
    subst hg
    refine Or.inr ⟨q, ⟨(({ U with heap := s₂.heap, slotsUsed := s₂.slotsUsed } : State).setVm s₂.vm), Ls ++ L, c0 + mc, s0 + ms⟩,
      ⟨X.admits, X.cas, X.clock, X.frames, X.room, X.hears, X.method, X.code, (X.here.setHeapUsed s₂.heap s₂.slotsUsed).setVm hW'.alike, X.tail, State.WarmedH.trans X.warmed hW', X.limits, X.bytes, X.same.trans (hsame.setVm s.vm)⟩,
      ⟨g, mk, s₂, L, E, ce, rfl, rfl, hx, hce, hcv, hcl, rfl, hL, rfl, rfl⟩, ?_⟩
    show Steps p.tables e below _ (((({ U with heap := s₂.heap, slotsUsed := s₂.slotsUsed } : State).setVm s₂.vm).setTop g).pushFrame (.throwing q))
    rw [← hs₂]
    exact hsteps
end
variable {p : Program} {l : Launch} {e : Env} {R : Room} {s : State} {m : MethodId} {args : Array Value} {below : List Frame} {meth : Method} {c : Code} {T : State} {H : Heap} {locs : List Loc} {cells slots : Nat}
theorem vx_callVX (X : Stand p l e R s m args below meth c T locs cells slots) (hexec : p.tables.exec = Jvm.exec) {own C : String} {index : Nat} {y : MethodName} {bytes : ByteArray} {maxL : Nat} {ret : Option FieldType} {hh : List (Nat × Nat × Nat × Nat)}
    (hown : s.vm.findClass own = some m.cls) (hlink : (Cond.methodLink own index y).before args s = true) (hinst : (Cond.instanceMethod y).before args s = true) (hsel : (Cond.selects C y y).before args s = true)
    (hcode : (Cond.codeWith y bytes maxL ret hh).before args s = true) (hy : y.cls ≠ "java/lang/invoke/MethodHandle" ∧ y.cls ≠ "java/lang/invoke/VarHandle")
    {W9 : Nat} {Pre : Pt → Array Value → Prop} {Post : Pt → Array Value → Option Value → Pt → Prop} {PostX : Pt → Array Value → Addr → Pt → Prop} (hK : vx_Back l R p e below s args y 3 W9 Pre Post PostX)
    {b : Addr} {cellB : Cell} (hcell : T.heap[b]? = some cellB) (hobj : cellB.vm.isStatics = false) (hcls : s.vm.findClass C = some cellB.cls)
    {g : JFrame} (hg : g.method = m) (hsize : g.locals.size = c.maxLocals) {argsL rest : List Value} (hlen : ∀ sig, parseMethodDescriptor y.desc = some sig → argsL.length = sig.parameters.length)
    (hstack : g.stack = argsL.reverse ++ .ref b :: rest) (hW : 2 * g.monitorRoom + (rest.map fun v => v.category).sum ≤ W9) (hdg : decode c.code g.pc = .ok (.invokevirtual index, 3))
    (hpre : ∀ vm₁, s.WarmedH vm₁ → Pre ⟨T.setVm vm₁, locs, cells, slots⟩ (Value.ref b :: argsL).toArray) :
    (∃ (v : Option Value) (vm₁ : Vm) (B : Pt), s.WarmedH vm₁ ∧ Stand p l e R s m args below meth c B.U B.locs B.cells B.slots ∧ Post ⟨T.setVm vm₁, locs, cells, slots⟩ (Value.ref b :: argsL).toArray v B ∧
      ∀ target, Steps p.tables e below (B.U.setTop { g with pc := g.pc + 3, stack := v.toList ++ rest }) target → Steps p.tables e below (T.setTop g) target) ∨
    (∃ (q : Addr) (vm₁ : Vm) (B : Pt), s.WarmedH vm₁ ∧ Stand p l e R s m args below meth c B.U B.locs B.cells B.slots ∧ PostX ⟨T.setVm vm₁, locs, cells, slots⟩ (Value.ref b :: argsL).toArray q B ∧
      Steps p.tables e below (T.setTop g) ((B.U.setTop { g with stack := rest }).pushFrame (.throwing q))) := by
  obtain ⟨mk, methM, hnamed, hmethM, hstM, habM⟩ := Cond.instanceMethod_spec hinst
  obtain ⟨m8, methM', cM, hn8, hmethM', -, -, -, -, -, -, hsigM⟩ := Cond.codeWith_spec hcode
  cases Option.some.inj (hn8.symm.trans hnamed)
  cases hmethM.symm.trans hmethM'
  obtain ⟨c2, r2, m2, q1, q2, q3, q4, kP, hkP, hkPi⟩ := Cond.selects_spec hsel
  cases hcls.symm.trans q1
  cases (State.methodFound?_of_named hnamed hy).symm.trans q2
  cases hnamed.symm.trans q3
  have hselP : selectMethod e.platform s.vm cellB.cls mk = .method mk := by rw [Launch.admits_selectMethod X.admits]; exact q4
  obtain ⟨vm₁, X₁, hstep₁⟩ := X.invokevirtual hexec hown hlink hnamed hmethM hstM hkP hkPi hy (a := b) (cell := cellB) hcell
    (fun z h => by rw [h] at hobj; cases hobj) hselP hmethM habM hkP hkPi (g := g) hg (argsL := argsL) (rest := rest) (hlen _ hsigM) hstack hdg
  rcases hK m meth c ⟨T.setVm vm₁, locs, cells, slots⟩ { g with stack := rest } (.invokevirtual index) mk (Value.ref b :: argsL).toArray X₁ hg hsize hdg hW (X₁.named hnamed) (hpre vm₁ X₁.warmed) with ⟨v, B, X', hpost, hsteps⟩ | ⟨q, B, X', hpost, hsteps⟩
  · exact Or.inl ⟨v, vm₁, B, X₁.warmed, X', hpost, fun target h => hstep₁ _ fun acts => by rw [doInvoke_state]; exact hsteps.trans h⟩
  · exact Or.inr ⟨q, vm₁, B, X₁.warmed, X', hpost, hstep₁ _ fun acts => by rw [doInvoke_state]; exact hsteps⟩
theorem vx_callSX (X : Stand p l e R s m args below meth c T locs cells slots) (hexec : p.tables.exec = Jvm.exec) {own : String} {index : Nat} {y : MethodName} {bytes : ByteArray} {maxL : Nat} {ret : Option FieldType} {hh : List (Nat × Nat × Nat × Nat)}
    (hown : s.vm.findClass own = some m.cls) (hlink : (Cond.methodLink own index y).before args s = true) (hstat : (Cond.static y).before args s = true) (hinit : (Cond.initialized y.cls).before args s = true)
    (hcode : (Cond.codeWith y bytes maxL ret hh).before args s = true) (hy : y.cls ≠ "java/lang/invoke/MethodHandle" ∧ y.cls ≠ "java/lang/invoke/VarHandle")
    {W9 : Nat} {Pre : Pt → Array Value → Prop} {Post : Pt → Array Value → Option Value → Pt → Prop} {PostX : Pt → Array Value → Addr → Pt → Prop} (hK : vx_Back l R p e below s args y 3 W9 Pre Post PostX)
    {g : JFrame} (hg : g.method = m) (hsize : g.locals.size = c.maxLocals) {argsL rest : List Value} (hlen : ∀ sig, parseMethodDescriptor y.desc = some sig → argsL.length = sig.parameters.length)
    (hstack : g.stack = argsL.reverse ++ rest) (hW : 2 * g.monitorRoom + (rest.map fun v => v.category).sum ≤ W9) (hdg : decode c.code g.pc = .ok (.invokestatic index, 3))
    (hpre : ∀ vm₁, s.WarmedH vm₁ → Pre ⟨T.setVm vm₁, locs, cells, slots⟩ argsL.toArray) :
    (∃ (v : Option Value) (vm₁ : Vm) (B : Pt), s.WarmedH vm₁ ∧ Stand p l e R s m args below meth c B.U B.locs B.cells B.slots ∧ Post ⟨T.setVm vm₁, locs, cells, slots⟩ argsL.toArray v B ∧
      ∀ target, Steps p.tables e below (B.U.setTop { g with pc := g.pc + 3, stack := v.toList ++ rest }) target → Steps p.tables e below (T.setTop g) target) ∨
    (∃ (q : Addr) (vm₁ : Vm) (B : Pt), s.WarmedH vm₁ ∧ Stand p l e R s m args below meth c B.U B.locs B.cells B.slots ∧ PostX ⟨T.setVm vm₁, locs, cells, slots⟩ argsL.toArray q B ∧
      Steps p.tables e below (T.setTop g) ((B.U.setTop { g with stack := rest }).pushFrame (.throwing q))) := by
  obtain ⟨mk, methM, cM, hnamed, hmethM, -, -, -, -, -, -, hsigM⟩ := Cond.codeWith_spec hcode
  have hstatic : methM.isStatic = true := Cond.static_spec hnamed hmethM hstat
  obtain ⟨kP, hkP, -⟩ := className_of_methodNamed hnamed
  have hinitP : kP.init = .initialized := Cond.initialized_spec (findClass_of_methodNamed hnamed) hkP hinit
  obtain ⟨vm₁, X₁, hstep₁⟩ := X.invokestatic hexec hown hlink hnamed hmethM hstatic hkP hinitP hy (g := g) hg (argsL := argsL) (rest := rest) (hlen _ hsigM) hstack hdg
  rcases hK m meth c ⟨T.setVm vm₁, locs, cells, slots⟩ { g with stack := rest } (.invokestatic index) mk argsL.toArray X₁ hg hsize hdg hW (X₁.named hnamed) (hpre vm₁ X₁.warmed) with ⟨v, B, X', hpost, hsteps⟩ | ⟨q, B, X', hpost, hsteps⟩
  · exact Or.inl ⟨v, vm₁, B, X₁.warmed, X', hpost, fun target h => hstep₁ _ fun acts => by rw [doInvoke_state]; exact hsteps.trans h⟩
  · exact Or.inr ⟨q, vm₁, B, X₁.warmed, X', hpost, hstep₁ _ fun acts => by rw [doInvoke_state]; exact hsteps⟩
theorem vx_callVW (X : Stand p l e R s m args below meth c T locs cells slots) (hexec : p.tables.exec = Jvm.exec) {own C : String} {index : Nat} {y : MethodName} {bytes : ByteArray} {maxL : Nat} {ret : Option FieldType} {hh : List (Nat × Nat × Nat × Nat)}
    (hown : s.vm.findClass own = some m.cls) (hlink : (Cond.methodLink own index y).before args s = true) (hinst : (Cond.instanceMethod y).before args s = true) (hsel : (Cond.selects C y y).before args s = true)
    (hcode : (Cond.codeWith y bytes maxL ret hh).before args s = true) (hy : y.cls ≠ "java/lang/invoke/MethodHandle" ∧ y.cls ≠ "java/lang/invoke/VarHandle")
    {W9 : Nat} {Pre : Pt → Array Value → Prop} {Post : Pt → Array Value → Option Value → Pt → Prop} (hK : Back l R p e below s args y 3 W9 Pre Post)
    {b : Addr} {cellB : Cell} (hcell : T.heap[b]? = some cellB) (hobj : cellB.vm.isStatics = false) (hcls : s.vm.findClass C = some cellB.cls)
    {g : JFrame} (hg : g.method = m) (hsize : g.locals.size = c.maxLocals) {argsL rest : List Value} (hlen : ∀ sig, parseMethodDescriptor y.desc = some sig → argsL.length = sig.parameters.length)
    (hstack : g.stack = argsL.reverse ++ .ref b :: rest) (hW : 2 * g.monitorRoom + (rest.map fun v => v.category).sum ≤ W9) (hdg : decode c.code g.pc = .ok (.invokevirtual index, 3))
    (hpre : ∀ vm₁, s.WarmedH vm₁ → Pre ⟨T.setVm vm₁, locs, cells, slots⟩ (Value.ref b :: argsL).toArray) :
    ∃ (v : Option Value) (vm₁ : Vm) (B : Pt), s.WarmedH vm₁ ∧ Stand p l e R s m args below meth c B.U B.locs B.cells B.slots ∧ Post ⟨T.setVm vm₁, locs, cells, slots⟩ (Value.ref b :: argsL).toArray v B ∧
      ∀ target, Steps p.tables e below (B.U.setTop { g with pc := g.pc + 3, stack := v.toList ++ rest }) target → Steps p.tables e below (T.setTop g) target := by
  obtain ⟨mk, methM, hnamed, hmethM, hstM, habM⟩ := Cond.instanceMethod_spec hinst
  obtain ⟨m8, methM', cM, hn8, hmethM', -, -, -, -, -, -, hsigM⟩ := Cond.codeWith_spec hcode
  cases Option.some.inj (hn8.symm.trans hnamed)
  cases hmethM.symm.trans hmethM'
  obtain ⟨c2, r2, m2, q1, q2, q3, q4, kP, hkP, hkPi⟩ := Cond.selects_spec hsel
  cases hcls.symm.trans q1
  cases (State.methodFound?_of_named hnamed hy).symm.trans q2
  cases hnamed.symm.trans q3
  have hselP : selectMethod e.platform s.vm cellB.cls mk = .method mk := by rw [Launch.admits_selectMethod X.admits]; exact q4
  obtain ⟨vm₁, X₁, hstep₁⟩ := X.invokevirtual hexec hown hlink hnamed hmethM hstM hkP hkPi hy (a := b) (cell := cellB) hcell
    (fun z h => by rw [h] at hobj; cases hobj) hselP hmethM habM hkP hkPi (g := g) hg (argsL := argsL) (rest := rest) (hlen _ hsigM) hstack hdg
  obtain ⟨v, B, X', hpost, hsteps⟩ := hK m meth c ⟨T.setVm vm₁, locs, cells, slots⟩ { g with stack := rest } (.invokevirtual index) mk (Value.ref b :: argsL).toArray X₁ hg hsize hdg hW (X₁.named hnamed) (hpre vm₁ X₁.warmed)
  exact ⟨v, vm₁, B, X₁.warmed, X', hpost, fun target h => hstep₁ _ fun acts => by rw [doInvoke_state]; exact hsteps.trans h⟩
abbrev vx_CVW (R : Room) (s : State) (args : Array Value) (own C : String) (index : Nat) (y : MethodName) (bytes : ByteArray) (maxL : Nat) (ret : Option FieldType) (hh : List (Nat × Nat × Nat × Nat)) (ws : List Cond) (rm : Room) (mc ms n : Nat) : Prop :=
  (rm.cells = mc ∧ rm.slots = ms ∧ rm.frames + 1 ≤ R.frames ∧ 8 + (maxL + 11) + rm.locals ≤ R.locals ∧ (∀ w ∈ ws, ∀ (a' : Array Value) (U : State), s.WarmedH U.vm → w.before a' U = true) ∧ Cond.codeWith y bytes maxL ret hh ∈ ws) ∧
  (Cond.codeWith y bytes maxL ret hh).before args s = true ∧ (Cond.initialized y.cls).before args s = true ∧ (y.cls ≠ "java/lang/invoke/MethodHandle" ∧ y.cls ≠ "java/lang/invoke/VarHandle") ∧
  (∀ sig, parseMethodDescriptor y.desc = some sig → n = sig.parameters.length) ∧ (Cond.methodLink own index y).before args s = true ∧ (Cond.instanceMethod y).before args s = true ∧ (Cond.selects C y y).before args s = true
theorem vx_cwVW {own C : String} {index maxL mc ms : Nat} {y : MethodName} {bytes : ByteArray} {ret : Option FieldType} {hh : List (Nat × Nat × Nat × Nat)} {Ts ws ws' : List Cond} {rm : Room} (n : Nat) (ht : ∀ w ∈ Ts, w.before args s = true) (hT : GoodIn Ts (wsV own index C y ws)) (hw : ws = Cond.codeWith y bytes maxL ret hh :: ws') (hrc : rm.cells = mc) (hrs : rm.slots = ms)
    (hd : y.cls = C ∧ y.cls ≠ "java/lang/invoke/MethodHandle" ∧ y.cls ≠ "java/lang/invoke/VarHandle" ∧ (parseMethodDescriptor y.desc).map (fun d => d.parameters.length) = some n) (hR : rm.frames + 1 ≤ R.frames ∧ 8 + (maxL + 11) + rm.locals ≤ R.locals) :
    vx_CVW R s args own C index y bytes maxL ret hh ws rm mc ms n := by
  obtain ⟨hC, hd⟩ := hd
  subst hC
  have ok : ∀ w ∈ wsV own index y.cls y ws, w.before args s = true := fun w h => ht w (hT w h).1
  have hG : GoodIn Ts ws := fun w h => hT w (by unfold wsV; exact List.mem_append_right _ h)
  have hc : Cond.codeWith y bytes maxL ret hh ∈ ws := by rw [hw]; exact List.mem_cons_self
  refine ⟨⟨hrc, hrs, hR.1, hR.2, pay_in ht hG, hc⟩, ht _ (hG _ hc).1, ok _ (by simp [wsV]), ⟨hd.1, hd.2.1⟩, fun sig h => ?_, ok _ (by simp [wsV]), ok _ (by simp [wsV]), ok _ (by simp [wsV])⟩
  have h2 := hd.2.2
  rw [h] at h2
  exact (Option.some.inj h2).symm
theorem vx_runVW {y : MethodName} {bytes cc : ByteArray} {maxL nL mc ms n index : Nat} {ret : Option FieldType} {hh : List (Nat × Nat × Nat × Nat)} {ws : List Cond} {rm : Room} {Pc : Array Value → State → Prop} {Qc : Array Value → State → Outcome → State → Prop} {free : Addr → Prop} {Ts : List Cond} {own C : String} {b : Addr} {As rest : List Value} {g : JFrame}
    (S : CallFix p m c cc nL s args Ts own) (hM : Met l y ws rm Pc Qc mc ms free) (cw : vx_CVW R s args own C index y bytes maxL ret hh ws rm mc ms n) (hp : PreV s H C b Pc As)
    (hg : g.method = m) (hn : As.length = n) (hsize : g.locals.size = nL) (hstack : g.stack = As.reverse ++ .ref b :: rest) (hW : 2 * g.monitorRoom + (rest.map fun v => v.category).sum ≤ 8) (hdg : decode cc g.pc = .ok (.invokevirtual index, 3)) (hf : cells + mc ≤ R.cells ∧ slots + ms ≤ R.slots) :
    va_Run p l e R s m args below meth c H locs cells slots mc ms g rest (Qc (Value.ref b :: As).toArray) free := by
  obtain ⟨⟨hrc, hrs, hfr, hlo, hws, hcw⟩, hcode, hini, hy, hlen, hl, hin, hse⟩ := cw
  have hK : Back l R p e below s args y 3 8 (PreOf R mc ms Pc) (PostOf Qc mc ms free) := va_backW (hh := hh) (bytes := bytes) (maxL := maxL) (ret := ret) hM hp.1 hrc hrs hfr hlo hws hcw (fun a' U hW => word_at hW (Or.inl (by first | rfl | simp [Cond.onTables, Cond.keeps, Cond.steady])) hini)
  obtain ⟨hx, hb, hml, ho, -⟩ := S
  obtain ⟨-, ⟨cellB, hcB, hoB, hclB⟩, hPc⟩ := hp
  intro T hT X
  obtain ⟨v, vm₁, ⟨U', l2, c2, s2⟩, hW₁, X', ⟨g', mk, t, L, e1, e2, hq, h1, hL, h2, h3⟩, st⟩ := vx_callVW X hx (C := C) (hh := hh) (bytes := bytes) (maxL := maxL) (ret := ret) ho hl hin hse hcode hy hK (by rw [hT]; exact hcB) hoB hclB hg (hsize.trans hml.symm) (argsL := As) (rest := rest) (fun sig h => hn.trans (hlen sig h)) hstack hW (by rw [hb]; exact hdg)
    (fun vm₁ hW₁ => ⟨hf.1, hf.2, hPc (T.setVm vm₁) hT hW₁⟩)
  dsimp only [Pt.U, Pt.locs, Pt.cells, Pt.slots] at X' e1 e2 h1 h2 h3 st
  subst h1; subst h2; subst h3
  exact ⟨v, (T.setVm vm₁).calling g' mk (Value.ref b :: As).toArray, t, U', L, hT, X', hL, e1, e2, hq, st⟩
section
variable {y : MethodName} {bytes cc : ByteArray} {maxL nL mc ms n index : Nat} {ret : Option FieldType} {ws : List Cond} {rm : Room} {Pc : Array Value → State → Prop} {Qc : Array Value → State → Outcome → State → Prop} {XC : String → State → State → Prop} {free : Addr → Prop} {Ts : List Cond} {own C : String} {b : Addr} {As rest : List Value} {g : JFrame}
theorem vx_runVX {hh : List (Nat × Nat × Nat × Nat)} (S : CallFix p m c cc nL s args Ts own) (hM : vx_Met l y ws rm Pc Qc XC mc ms free) (cw : vx_CVW R s args own C index y bytes maxL ret hh ws rm mc ms n) (hp : PreV s H C b Pc As)
    (hg : g.method = m) (hn : As.length = n) (hsize : g.locals.size = nL) (hstack : g.stack = As.reverse ++ .ref b :: rest) (hW : 2 * g.monitorRoom + (rest.map fun v => v.category).sum ≤ 8) (hdg : decode cc g.pc = .ok (.invokevirtual index, 3)) (hf : cells + mc ≤ R.cells ∧ slots + ms ≤ R.slots) :
    vx_Run p l e R s m args below meth c H locs cells slots mc ms g rest (Qc (Value.ref b :: As).toArray) XC free := by
  obtain ⟨⟨hrc, hrs, hfr, hlo, hws, hcw⟩, hcode, hini, hy, hlen, hl, hin, hse⟩ := cw
  have hK : vx_Back l R p e below s args y 3 8 (PreOf R mc ms Pc) (PostOf Qc mc ms free) (vx_Post XC mc ms free) := vx_backW (hh := hh) (bytes := bytes) (maxL := maxL) (ret := ret) hM hp.1 hrc hrs hfr hlo hws hcw (fun a' U hW => word_at hW (Or.inl (by first | rfl | simp [Cond.onTables, Cond.keeps, Cond.steady])) hini)
  obtain ⟨hx, hb, hml, ho, -⟩ := S
  obtain ⟨-, ⟨cellB, hcB, hoB, hclB⟩, hPc⟩ := hp
  intro T hT X
  rcases vx_callVX X hx (C := C) (hh := hh) (bytes := bytes) (maxL := maxL) (ret := ret) ho hl hin hse hcode hy hK (by rw [hT]; exact hcB) hoB hclB hg (hsize.trans hml.symm) (argsL := As) (rest := rest) (fun sig h => hn.trans (hlen sig h)) hstack hW (by rw [hb]; exact hdg)
    (fun vm₁ hW₁ => ⟨hf.1, hf.2, hPc (T.setVm vm₁) hT hW₁⟩) with ⟨v, vm₁, ⟨U', l2, c2, s2⟩, hW₁, X', ⟨g', mk, t, L, e1, e2, hq, h1, hL, h2, h3⟩, st⟩ | ⟨q, vm₁, ⟨U', l2, c2, s2⟩, hW₁, X', ⟨g', mk, t, L, E, ce, e1, e2, hq, hce, hcv, hcl, h1, hL, h2, h3⟩, st⟩
  · dsimp only [Pt.U, Pt.locs, Pt.cells, Pt.slots] at X' e1 e2 h1 h2 h3 st
    subst h1; subst h2; subst h3
    exact Or.inl ⟨v, (T.setVm vm₁).calling g' mk (Value.ref b :: As).toArray, t, U', L, hT, X', hL, e1, e2, hq, st⟩
  · dsimp only [Pt.U, Pt.locs, Pt.cells, Pt.slots] at X' e1 e2 h1 h2 h3 st hcl
    subst h1; subst h2; subst h3
    exact Or.inr ⟨q, (T.setVm vm₁).calling g' mk (Value.ref b :: As).toArray, t, U', L, E, ce, hT, X', hL, e1, e2, hq, hce, hcv, vx_cls hW₁ hcl, st⟩
theorem vx_runSX {hh : List (Nat × Nat × Nat × Nat)} (S : CallFix p m c cc nL s args Ts own) (hM : vx_Met l y ws rm Pc Qc XC mc ms free) (cw : vx_CSW R s args own index y bytes maxL ret hh ws rm mc ms n) (hp : PreS s H Pc As)
    (hg : g.method = m) (hn : As.length = n) (hsize : g.locals.size = nL) (hstack : g.stack = As.reverse ++ rest) (hW : 2 * g.monitorRoom + (rest.map fun v => v.category).sum ≤ 8) (hdg : decode cc g.pc = .ok (.invokestatic index, 3)) (hf : cells + mc ≤ R.cells ∧ slots + ms ≤ R.slots) :
    vx_Run p l e R s m args below meth c H locs cells slots mc ms g rest (Qc As.toArray) XC free := by
  obtain ⟨⟨hrc, hrs, hfr, hlo, hws, hcw⟩, hcode, hini, hy, hlen, hl, hstt⟩ := cw
  have hK : vx_Back l R p e below s args y 3 8 (PreOf R mc ms Pc) (PostOf Qc mc ms free) (vx_Post XC mc ms free) := vx_backW (hh := hh) (bytes := bytes) (maxL := maxL) (ret := ret) hM hp.1 hrc hrs hfr hlo hws hcw (fun a' U hW => word_at hW (Or.inl (by first | rfl | simp [Cond.onTables, Cond.keeps, Cond.steady])) hini)
  obtain ⟨hx, hb, hml, ho, -⟩ := S
  intro T hT X
  rcases vx_callSX X hx (hh := hh) (bytes := bytes) (maxL := maxL) (ret := ret) ho hl hstt hini hcode hy hK hg (hsize.trans hml.symm) (argsL := As) (rest := rest) (fun sig h => hn.trans (hlen sig h)) hstack hW (by rw [hb]; exact hdg)
    (fun vm₁ hW₁ => ⟨hf.1, hf.2, hp.2 (T.setVm vm₁) hT hW₁⟩) with ⟨v, vm₁, ⟨U', l2, c2, s2⟩, hW₁, X', ⟨g', mk, t, L, e1, e2, hq, h1, hL, h2, h3⟩, st⟩ | ⟨q, vm₁, ⟨U', l2, c2, s2⟩, hW₁, X', ⟨g', mk, t, L, E, ce, e1, e2, hq, hce, hcv, hcl, h1, hL, h2, h3⟩, st⟩
  · dsimp only [Pt.U, Pt.locs, Pt.cells, Pt.slots] at X' e1 e2 h1 h2 h3 st
    subst h1; subst h2; subst h3
    exact Or.inl ⟨v, (T.setVm vm₁).calling g' mk As.toArray, t, U', L, hT, X', hL, e1, e2, hq, st⟩
  · dsimp only [Pt.U, Pt.locs, Pt.cells, Pt.slots] at X' e1 e2 h1 h2 h3 st hcl
    subst h1; subst h2; subst h3
    exact Or.inr ⟨q, (T.setVm vm₁).calling g' mk As.toArray, t, U', L, E, ce, hT, X', hL, e1, e2, hq, hce, hcv, vx_cls hW₁ hcl, st⟩
end
end VXH
theorem vx_ofWH {l : Launch} {y : MethodName} {ws ws' : List Cond} {rm : Room} {Pc : Array Value → State → Prop} {Qc : Array Value → State → Outcome → State → Prop} {XC : String → State → State → Prop} {mc ms : Nat} {free : Addr → Prop} {cc : ByteArray} {maxL : Nat} {ret : Option FieldType} {hh : List (Nat × Nat × Nat × Nat)}
    (hy : plainName y.cls = true) (hw : ws = Cond.codeWith y cc maxL ret hh :: ws')
    (body : ∀ p e s m args below meth c s₁, BodyLoose p l y (headSpec ws rm) cc maxL ret e s m args below meth c s₁ → c.maxLocals = maxL → Pc args s →
      W p l e (headSpec ws rm).room s m args below meth c s.heap [] 0 0 (vx_MQ below Qc XC args s mc ms free) (entryFrame m args maxL)) : vx_Met l y ws rm Pc Qc XC mc ms free := by
  refine MetFree.of_bodyS (code := cc) (maxLocals := maxL) (ret := ret) hy ?_ ?_
  · intro args s m h hn
    obtain ⟨m9, meth, c, hn9, h1, h2, h3, h4, -, h5, h6, -⟩ := Cond.codeWith_spec (atoms_spec (ws := ws) h _ (by rw [hw]; exact List.mem_cons_self))
    cases hn.symm.trans hn9
    exact ⟨meth, c, h1, h2, h3, h4, h5, h6⟩
  · intro p e s m args below meth c s₁ B hml hP _
    have hh0 : s₁.heap = s.heap := by rw [B.state]; rfl
    obtain ⟨t, a1, o, b1, b2, b3⟩ := body p e s m args below meth c s₁ B hml hP s₁ hh0 (Stand.of_body B)
    exact ⟨t, o, a1, b1, b2, b3⟩
/-! ===== END ===== -/
end
section
def R_law : String := "StateBenchLaw"
def R_F : String := "java/util/Arrays"
abbrev c_F_fill : ByteArray := prog_16_method_103_code
def y_F_fill : MethodName := ⟨R_F, "fill", "([II)V"⟩
def R_J : String := "java/lang/Integer"
abbrev c_J_bitCount : ByteArray := prog_11_method_49_code
def y_J_bitCount : MethodName := ⟨R_J, "bitCount", "(I)I"⟩
abbrev c_J_numberOfTrailingZeros : ByteArray := prog_11_method_48_code
def y_J_numberOfTrailingZeros : MethodName := ⟨R_J, "numberOfTrailingZeros", "(I)I"⟩
def R_A : String := "StateBench$Adverts"
def T_A : u_T := fun k => match k with
  | 0 => ("StateBench$Adverts", "numbers", "[I", true)
  | 1 => ("StateBench$Adverts", "takenAt", "[I", true)
  | 2 => ("StateBench$Adverts", "sizes", "[I", true)
  | 3 => ("StateBench$Adverts", "routers", "[I", true)
  | 4 => ("StateBench$Adverts", "nets", "[I", true)
  | _ => ("StateBench$Adverts", "costs", "[I", true)
def ty_A : Nat → FieldType := fun k => match k with
  | 0 => .array .int
  | 1 => .array .int
  | 2 => .array .int
  | 3 => .array .int
  | 4 => .array .int
  | _ => .array .int
abbrev ws_A : List Cond := u_ws R_A T_A 6
theorem nm_A : ∀ a, a < 6 → ∀ b, b < 6 → a ≠ b → (T_A a).2.1 ≠ (T_A b).2.1 := by decide +kernel
theorem ty_A_ok : ∀ k, k < 6 → parseFieldDescriptor (T_A k).2.2.1 = some (ty_A k) := by decide +kernel
abbrev c_A_init : ByteArray := prog_2_method_1_code
def y_A_init : MethodName := ⟨R_A, "<init>", "()V"⟩
abbrev c_A_isThere : ByteArray := prog_2_method_3_code
def y_A_isThere : MethodName := ⟨R_A, "isThere", "(I)Z"⟩
abbrev c_A_clear : ByteArray := prog_2_method_4_code
def y_A_clear : MethodName := ⟨R_A, "clear", "(I)V"⟩
abbrev c_A_append : ByteArray := prog_2_method_6_code
def y_A_append : MethodName := ⟨R_A, "append", "(IIII)V"⟩
abbrev c_A_hasRoom : ByteArray := prog_2_method_5_code
def y_A_hasRoom : MethodName := ⟨R_A, "hasRoom", "(I)Z"⟩
abbrev c_A_indexOf : ByteArray := prog_2_method_2_code
def y_A_indexOf : MethodName := ⟨R_A, "indexOf", "(II)I"⟩
abbrev c_A_haveSameEntries : ByteArray := prog_2_method_10_code
def y_A_haveSameEntries : MethodName := ⟨R_A, "haveSameEntries", "(II)Z"⟩
abbrev c_A_isSameEntry : ByteArray := prog_2_method_11_code
def y_A_isSameEntry : MethodName := ⟨R_A, "isSameEntry", "(II)Z"⟩
abbrev c_A_copyEntries : ByteArray := prog_2_method_9_code
def y_A_copyEntries : MethodName := ⟨R_A, "copyEntries", "(II)V"⟩
abbrev c_A_has : ByteArray := prog_2_method_7_code
def y_A_has : MethodName := ⟨R_A, "has", "(III)Z"⟩
abbrev c_A_costOf : ByteArray := prog_2_method_8_code
def y_A_costOf : MethodName := ⟨R_A, "costOf", "(III)I"⟩
def R_K : String := "StateBench$Links"
def T_K : u_T := fun k => match k with
  | 0 => ("StateBench$Links", "portCosts", "[I", true)
  | 1 => ("StateBench$Links", "friendSteps", "[I", true)
  | 2 => ("StateBench$Links", "portCount", "I", false)
  | _ => ("StateBench$Links", "friendCount", "I", false)
def ty_K : Nat → FieldType := fun k => match k with
  | 0 => .array .int
  | 1 => .array .int
  | 2 => .int
  | _ => .int
abbrev ws_K : List Cond := u_ws R_K T_K 4
theorem nm_K : ∀ a, a < 4 → ∀ b, b < 4 → a ≠ b → (T_K a).2.1 ≠ (T_K b).2.1 := by decide +kernel
theorem ty_K_ok : ∀ k, k < 4 → parseFieldDescriptor (T_K k).2.2.1 = some (ty_K k) := by decide +kernel
abbrev c_K_init : ByteArray := prog_3_method_1_code
def y_K_init : MethodName := ⟨R_K, "<init>", "()V"⟩
abbrev c_K_tellInto : ByteArray := prog_3_method_11_code
def y_K_tellInto : MethodName := ⟨R_K, "tellInto", "(LStateBench$Adverts;I)V"⟩
abbrev c_K_hasPort : ByteArray := prog_3_method_2_code
def y_K_hasPort : MethodName := ⟨R_K, "hasPort", "(I)Z"⟩
abbrev c_K_hasRoomForPort : ByteArray := prog_3_method_3_code
def y_K_hasRoomForPort : MethodName := ⟨R_K, "hasRoomForPort", "(I)Z"⟩
abbrev c_K_setPort : ByteArray := prog_3_method_4_code
def y_K_setPort : MethodName := ⟨R_K, "setPort", "(II)I"⟩
abbrev c_K_removeFriendsOn : ByteArray := prog_3_method_9_code
def y_K_removeFriendsOn : MethodName := ⟨R_K, "removeFriendsOn", "(I)V"⟩
abbrev c_K_removeFriendsFrom : ByteArray := prog_3_method_10_code
def y_K_removeFriendsFrom : MethodName := ⟨R_K, "removeFriendsFrom", "(II)V"⟩
abbrev c_K_hasFriend : ByteArray := prog_3_method_5_code
def y_K_hasFriend : MethodName := ⟨R_K, "hasFriend", "(I)Z"⟩
abbrev c_K_removeFriend : ByteArray := prog_3_method_8_code
def y_K_removeFriend : MethodName := ⟨R_K, "removeFriend", "(I)V"⟩
abbrev c_K_hasRoomForFriend : ByteArray := prog_3_method_6_code
def y_K_hasRoomForFriend : MethodName := ⟨R_K, "hasRoomForFriend", "()Z"⟩
abbrev c_K_addFriend : ByteArray := prog_3_method_7_code
def y_K_addFriend : MethodName := ⟨R_K, "addFriend", "(I)V"⟩
def R_Y : String := "StateBench$Ways"
def T_Y : u_T := fun k => match k with
  | 0 => ("StateBench$Ways", "adverts", "LStateBench$Adverts;", true)
  | 1 => ("StateBench$Ways", "self", "I", true)
  | 2 => ("StateBench$Ways", "sums", "[I", true)
  | 3 => ("StateBench$Ways", "starts", "[I", true)
  | 4 => ("StateBench$Ways", "settled", "[Z", true)
  | _ => ("StateBench$Ways", "fresh", "Z", false)
def ty_Y : Nat → FieldType := fun k => match k with
  | 0 => .object "StateBench$Adverts"
  | 1 => .int
  | 2 => .array .int
  | 3 => .array .int
  | 4 => .array .boolean
  | _ => .boolean
abbrev ws_Y : List Cond := u_ws R_Y T_Y 6
theorem nm_Y : ∀ a, a < 6 → ∀ b, b < 6 → a ≠ b → (T_Y a).2.1 ≠ (T_Y b).2.1 := by decide +kernel
theorem ty_Y_ok : ∀ k, k < 6 → parseFieldDescriptor (T_Y k).2.2.1 = some (ty_Y k) := by decide +kernel
abbrev c_Y_init : ByteArray := prog_4_method_1_code
def y_Y_init : MethodName := ⟨R_Y, "<init>", "(LStateBench$Adverts;I)V"⟩
abbrev c_Y_forget : ByteArray := prog_4_method_2_code
def y_Y_forget : MethodName := ⟨R_Y, "forget", "()V"⟩
abbrev c_Y_refresh : ByteArray := prog_4_method_3_code
def y_Y_refresh : MethodName := ⟨R_Y, "refresh", "()V"⟩
abbrev c_Y_beginAnew : ByteArray := prog_4_method_4_code
def y_Y_beginAnew : MethodName := ⟨R_Y, "beginAnew", "()V"⟩
abbrev c_Y_nearestUnsettled : ByteArray := prog_4_method_5_code
def y_Y_nearestUnsettled : MethodName := ⟨R_Y, "nearestUnsettled", "()I"⟩
abbrev c_Y_goOnFrom : ByteArray := prog_4_method_6_code
def y_Y_goOnFrom : MethodName := ⟨R_Y, "goOnFrom", "(I)V"⟩
abbrev c_Y_reach : ByteArray := prog_4_method_7_code
def y_Y_reach : MethodName := ⟨R_Y, "reach", "(III)V"⟩
abbrev c_Y_leastTo : ByteArray := prog_4_method_8_code
def y_Y_leastTo : MethodName := ⟨R_Y, "leastTo", "(I)I"⟩
abbrev c_Y_sumOver : ByteArray := prog_4_method_10_code
def y_Y_sumOver : MethodName := ⟨R_Y, "sumOver", "(II)I"⟩
abbrev c_Y_startsTo : ByteArray := prog_4_method_9_code
def y_Y_startsTo : MethodName := ⟨R_Y, "startsTo", "(I)I"⟩
def R_B : String := "StateBench"
def T_B : u_T := fun k => match k with
  | 0 => ("StateBench", "self", "I", true)
  | 1 => ("StateBench", "links", "LStateBench$Links;", true)
  | 2 => ("StateBench", "adverts", "LStateBench$Adverts;", true)
  | 3 => ("StateBench", "ways", "LStateBench$Ways;", true)
  | 4 => ("StateBench", "draftOrigin", "I", false)
  | 5 => ("StateBench", "draftNumber", "I", false)
  | 6 => ("StateBench", "now", "I", false)
  | 7 => ("StateBench", "lastMade", "I", false)
  | _ => ("StateBench", "greatestOwn", "I", false)
def ty_B : Nat → FieldType := fun k => match k with
  | 0 => .int
  | 1 => .object "StateBench$Links"
  | 2 => .object "StateBench$Adverts"
  | 3 => .object "StateBench$Ways"
  | 4 => .int
  | 5 => .int
  | 6 => .int
  | 7 => .int
  | _ => .int
abbrev ws_B : List Cond := u_ws R_B T_B 9
theorem nm_B : ∀ a, a < 9 → ∀ b, b < 9 → a ≠ b → (T_B a).2.1 ≠ (T_B b).2.1 := by decide +kernel
theorem ty_B_ok : ∀ k, k < 9 → parseFieldDescriptor (T_B k).2.2.1 = some (ty_B k) := by decide +kernel
abbrev c_B_init : ByteArray := prog_1_method_1_code
def y_B_init : MethodName := ⟨R_B, "<init>", "(I)V"⟩
abbrev c_B_isRouter : ByteArray := prog_1_method_27_code
def y_B_isRouter : MethodName := ⟨R_B, "isRouter", "(I)Z"⟩
abbrev c_B_make : ByteArray := prog_1_method_8_code
def y_B_make : MethodName := ⟨R_B, "make", "()I"⟩
abbrev c_B_mustMake : ByteArray := prog_1_method_23_code
def y_B_mustMake : MethodName := ⟨R_B, "mustMake", "()Z"⟩
abbrev c_B_ageOf : ByteArray := prog_1_method_24_code
def y_B_ageOf : MethodName := ⟨R_B, "ageOf", "(I)I"⟩
abbrev c_B_takeIn : ByteArray := prog_1_method_21_code
def y_B_takeIn : MethodName := ⟨R_B, "takeIn", "(III)V"⟩
abbrev c_B_known : ByteArray := prog_1_method_17_code
def y_B_known : MethodName := ⟨R_B, "known", "()I"⟩
abbrev c_B_time : ByteArray := prog_1_method_18_code
def y_B_time : MethodName := ⟨R_B, "time", "()I"⟩
abbrev c_B_port : ByteArray := prog_1_method_2_code
def y_B_port : MethodName := ⟨R_B, "port", "(II)I"⟩
abbrev c_B_isNet : ByteArray := prog_1_method_28_code
def y_B_isNet : MethodName := ⟨R_B, "isNet", "(I)Z"⟩
abbrev c_B_isCost : ByteArray := prog_1_method_29_code
def y_B_isCost : MethodName := ⟨R_B, "isCost", "(I)Z"⟩
abbrev c_B_stepOf : ByteArray := prog_1_method_30_code
def y_B_stepOf : MethodName := ⟨R_B, "stepOf", "(II)I"⟩
abbrev c_B_friend : ByteArray := prog_1_method_3_code
def y_B_friend : MethodName := ⟨R_B, "friend", "(IIZ)Z"⟩
abbrev c_B_begin : ByteArray := prog_1_method_4_code
def y_B_begin : MethodName := ⟨R_B, "begin", "(II)V"⟩
abbrev c_B_entry : ByteArray := prog_1_method_5_code
def y_B_entry : MethodName := ⟨R_B, "entry", "(III)I"⟩
abbrev c_B_come : ByteArray := prog_1_method_6_code
def y_B_come : MethodName := ⟨R_B, "come", "()I"⟩
abbrev c_B_hearOwn : ByteArray := prog_1_method_19_code
def y_B_hearOwn : MethodName := ⟨R_B, "hearOwn", "(I)I"⟩
abbrev c_B_hearOther : ByteArray := prog_1_method_20_code
def y_B_hearOther : MethodName := ⟨R_B, "hearOther", "(II)I"⟩
abbrev c_B_pass : ByteArray := prog_1_method_7_code
def y_B_pass : MethodName := ⟨R_B, "pass", "(I)I"⟩
abbrev c_B_takeOutOld : ByteArray := prog_1_method_22_code
def y_B_takeOutOld : MethodName := ⟨R_B, "takeOutOld", "()I"⟩
abbrev c_B_number : ByteArray := prog_1_method_9_code
def y_B_number : MethodName := ⟨R_B, "number", "(I)I"⟩
abbrev c_B_refuseNoRouter : ByteArray := prog_1_method_25_code
def y_B_refuseNoRouter : MethodName := ⟨R_B, "refuseNoRouter", "(I)V"⟩
abbrev c_B_told : ByteArray := prog_1_method_10_code
def y_B_told : MethodName := ⟨R_B, "told", "(III)I"⟩
abbrev c_B_entries : ByteArray := prog_1_method_11_code
def y_B_entries : MethodName := ⟨R_B, "entries", "(I)I"⟩
abbrev c_B_age : ByteArray := prog_1_method_12_code
def y_B_age : MethodName := ⟨R_B, "age", "(I)I"⟩
abbrev c_B_distance : ByteArray := prog_1_method_13_code
def y_B_distance : MethodName := ⟨R_B, "distance", "(I)I"⟩
abbrev c_B_cost : ByteArray := prog_1_method_14_code
def y_B_cost : MethodName := ⟨R_B, "cost", "(I)I"⟩
abbrev c_B_refuseNoNet : ByteArray := prog_1_method_26_code
def y_B_refuseNoNet : MethodName := ⟨R_B, "refuseNoNet", "(I)V"⟩
abbrev c_B_firsts : ByteArray := prog_1_method_15_code
def y_B_firsts : MethodName := ⟨R_B, "firsts", "(I)I"⟩
abbrev c_B_first : ByteArray := prog_1_method_16_code
def y_B_first : MethodName := ⟨R_B, "first", "(II)I"⟩
abbrev c_B_placeOfBit : ByteArray := prog_1_method_31_code
def y_B_placeOfBit : MethodName := ⟨R_B, "placeOfBit", "(II)I"⟩
def R_M : String := "StateBenchModel"
def T_M : u_T := fun k => match k with
  | 0 => ("StateBenchModel", "itself", "I", true)
  | 1 => ("StateBenchModel", "code", "I", false)
  | 2 => ("StateBenchModel", "now", "I", false)
  | 3 => ("StateBenchModel", "ports", "[I", true)
  | 4 => ("StateBenchModel", "friends", "[Z", true)
  | 5 => ("StateBenchModel", "greatest", "I", false)
  | 6 => ("StateBenchModel", "made", "I", false)
  | 7 => ("StateBenchModel", "number", "[I", true)
  | 8 => ("StateBenchModel", "since", "[I", true)
  | 9 => ("StateBenchModel", "count", "[I", true)
  | 10 => ("StateBenchModel", "router", "[I", true)
  | 11 => ("StateBenchModel", "net", "[I", true)
  | 12 => ("StateBenchModel", "cost", "[I", true)
  | 13 => ("StateBenchModel", "draftOrigin", "I", false)
  | 14 => ("StateBenchModel", "usable", "[Z", true)
  | _ => ("StateBenchModel", "far", "[I", true)
def ty_M : Nat → FieldType := fun k => match k with
  | 0 => .int
  | 1 => .int
  | 2 => .int
  | 3 => .array .int
  | 4 => .array .boolean
  | 5 => .int
  | 6 => .int
  | 7 => .array .int
  | 8 => .array .int
  | 9 => .array .int
  | 10 => .array .int
  | 11 => .array .int
  | 12 => .array .int
  | 13 => .int
  | 14 => .array .boolean
  | _ => .array .int
abbrev ws_M : List Cond := u_ws R_M T_M 16
theorem nm_M : ∀ a, a < 16 → ∀ b, b < 16 → a ≠ b → (T_M a).2.1 ≠ (T_M b).2.1 := by decide +kernel
theorem ty_M_ok : ∀ k, k < 16 → parseFieldDescriptor (T_M k).2.2.1 = some (ty_M k) := by decide +kernel
abbrev c_M_init : ByteArray := prog_6_method_1_code
def y_M_init : MethodName := ⟨R_M, "<init>", "(I)V"⟩
abbrev c_M_thrown : ByteArray := prog_6_method_2_code
def y_M_thrown : MethodName := ⟨R_M, "thrown", "()I"⟩
abbrev c_M_port : ByteArray := prog_6_method_6_code
def y_M_port : MethodName := ⟨R_M, "port", "(II)I"⟩
abbrev c_M_in : ByteArray := prog_6_method_3_code
def y_M_in : MethodName := ⟨R_M, "in", "(III)Z"⟩
abbrev c_M_portCount : ByteArray := prog_6_method_4_code
def y_M_portCount : MethodName := ⟨R_M, "portCount", "()I"⟩
abbrev c_M_friend : ByteArray := prog_6_method_7_code
def y_M_friend : MethodName := ⟨R_M, "friend", "(IIZ)Z"⟩
abbrev c_M_friendCount : ByteArray := prog_6_method_5_code
def y_M_friendCount : MethodName := ⟨R_M, "friendCount", "()I"⟩
abbrev c_M_begin : ByteArray := prog_6_method_11_code
def y_M_begin : MethodName := ⟨R_M, "begin", "(II)V"⟩
abbrev c_M_entry : ByteArray := prog_6_method_12_code
def y_M_entry : MethodName := ⟨R_M, "entry", "(III)I"⟩
abbrev c_M_find : ByteArray := prog_6_method_8_code
def y_M_find : MethodName := ⟨R_M, "find", "(III)I"⟩
abbrev c_M_add : ByteArray := prog_6_method_9_code
def y_M_add : MethodName := ⟨R_M, "add", "(IIII)V"⟩
abbrev c_M_come : ByteArray := prog_6_method_13_code
def y_M_come : MethodName := ⟨R_M, "come", "()I"⟩
abbrev c_M_copy : ByteArray := prog_6_method_10_code
def y_M_copy : MethodName := ⟨R_M, "copy", "(II)V"⟩
abbrev c_M_pass : ByteArray := prog_6_method_14_code
def y_M_pass : MethodName := ⟨R_M, "pass", "(I)I"⟩
abbrev c_M_make : ByteArray := prog_6_method_17_code
def y_M_make : MethodName := ⟨R_M, "make", "()I"⟩
abbrev c_M_tell : ByteArray := prog_6_method_15_code
def y_M_tell : MethodName := ⟨R_M, "tell", "()V"⟩
abbrev c_M_isToldNow : ByteArray := prog_6_method_16_code
def y_M_isToldNow : MethodName := ⟨R_M, "isToldNow", "()Z"⟩
abbrev c_M_number : ByteArray := prog_6_method_18_code
def y_M_number : MethodName := ⟨R_M, "number", "(I)I"⟩
abbrev c_M_told : ByteArray := prog_6_method_19_code
def y_M_told : MethodName := ⟨R_M, "told", "(III)I"⟩
abbrev c_M_entries : ByteArray := prog_6_method_20_code
def y_M_entries : MethodName := ⟨R_M, "entries", "(I)I"⟩
abbrev c_M_age : ByteArray := prog_6_method_21_code
def y_M_age : MethodName := ⟨R_M, "age", "(I)I"⟩
abbrev c_M_distance : ByteArray := prog_6_method_24_code
def y_M_distance : MethodName := ⟨R_M, "distance", "(I)I"⟩
abbrev c_M_check : ByteArray := prog_6_method_22_code
def y_M_check : MethodName := ⟨R_M, "check", "()V"⟩
abbrev c_M_spread : ByteArray := prog_6_method_23_code
def y_M_spread : MethodName := ⟨R_M, "spread", "(I)V"⟩
abbrev c_M_cost : ByteArray := prog_6_method_26_code
def y_M_cost : MethodName := ⟨R_M, "cost", "(I)I"⟩
abbrev c_M_reach : ByteArray := prog_6_method_25_code
def y_M_reach : MethodName := ⟨R_M, "reach", "(I)I"⟩
abbrev c_M_firsts : ByteArray := prog_6_method_28_code
def y_M_firsts : MethodName := ⟨R_M, "firsts", "(I)I"⟩
abbrev c_M_step : ByteArray := prog_6_method_27_code
def y_M_step : MethodName := ⟨R_M, "step", "(II)I"⟩
abbrev c_M_first : ByteArray := prog_6_method_29_code
def y_M_first : MethodName := ⟨R_M, "first", "(II)I"⟩
abbrev c_M_known : ByteArray := prog_6_method_30_code
def y_M_known : MethodName := ⟨R_M, "known", "()I"⟩
abbrev c_M_time : ByteArray := prog_6_method_31_code
def y_M_time : MethodName := ⟨R_M, "time", "()I"⟩
abbrev R_L : String := R_law
abbrev c_L_cell : ByteArray := method_2_code
def y_L_cell : MethodName := ⟨R_L, "cell", "([II)I"⟩
abbrev c_L_port : ByteArray := method_3_code
def y_L_port : MethodName := ⟨R_L, "port", "(LStateBench;II[J)I"⟩
abbrev c_L_friend : ByteArray := method_4_code
def y_L_friend : MethodName := ⟨R_L, "friend", "(LStateBench;IIZ[J)I"⟩
abbrev c_L_begin : ByteArray := method_5_code
def y_L_begin : MethodName := ⟨R_L, "begin", "(LStateBench;II)I"⟩
abbrev c_L_entry : ByteArray := method_6_code
def y_L_entry : MethodName := ⟨R_L, "entry", "(LStateBench;III[J)I"⟩
abbrev c_L_come : ByteArray := method_7_code
def y_L_come : MethodName := ⟨R_L, "come", "(LStateBench;[J)I"⟩
abbrev c_L_pass : ByteArray := method_8_code
def y_L_pass : MethodName := ⟨R_L, "pass", "(LStateBench;I[J)I"⟩
abbrev c_L_number : ByteArray := method_9_code
def y_L_number : MethodName := ⟨R_L, "number", "(LStateBench;I[J)I"⟩
abbrev c_L_told : ByteArray := method_10_code
def y_L_told : MethodName := ⟨R_L, "told", "(LStateBench;III[J)I"⟩
abbrev c_L_entries : ByteArray := method_11_code
def y_L_entries : MethodName := ⟨R_L, "entries", "(LStateBench;I[J)I"⟩
abbrev c_L_age : ByteArray := method_12_code
def y_L_age : MethodName := ⟨R_L, "age", "(LStateBench;I[J)I"⟩
abbrev c_L_distance : ByteArray := method_13_code
def y_L_distance : MethodName := ⟨R_L, "distance", "(LStateBench;I[J)I"⟩
abbrev c_L_cost : ByteArray := method_14_code
def y_L_cost : MethodName := ⟨R_L, "cost", "(LStateBench;I[J)I"⟩
abbrev c_L_firsts : ByteArray := method_15_code
def y_L_firsts : MethodName := ⟨R_L, "firsts", "(LStateBench;I[J)I"⟩
abbrev c_L_first : ByteArray := method_16_code
def y_L_first : MethodName := ⟨R_L, "first", "(LStateBench;II[J)I"⟩
abbrev c_L_law : ByteArray := code
def y_L_law : MethodName := ⟨R_L, "law", "([I)Z"⟩
end
section
theorem d_F_fill_0 : decode c_F_fill 0 = .ok (.iconst 0, 1) := by decide +kernel
theorem d_F_fill_1 : decode c_F_fill 1 = .ok (.istore_n 2, 1) := by decide +kernel
theorem d_F_fill_2 : decode c_F_fill 2 = .ok (.aload_n 0, 1) := by decide +kernel
theorem d_F_fill_3 : decode c_F_fill 3 = .ok (.arraylength, 1) := by decide +kernel
theorem d_F_fill_4 : decode c_F_fill 4 = .ok (.istore_n 3, 1) := by decide +kernel
theorem d_F_fill_5 : decode c_F_fill 5 = .ok (.iload_n 2, 1) := by decide +kernel
theorem d_F_fill_6 : decode c_F_fill 6 = .ok (.iload_n 3, 1) := by decide +kernel
theorem d_F_fill_7 : decode c_F_fill 7 = .ok (.if_icmp .ge 13, 3) := by decide +kernel
theorem d_F_fill_10 : decode c_F_fill 10 = .ok (.aload_n 0, 1) := by decide +kernel
theorem d_F_fill_11 : decode c_F_fill 11 = .ok (.iload_n 2, 1) := by decide +kernel
theorem d_F_fill_12 : decode c_F_fill 12 = .ok (.iload_n 1, 1) := by decide +kernel
theorem d_F_fill_13 : decode c_F_fill 13 = .ok (.iastore, 1) := by decide +kernel
theorem d_F_fill_14 : decode c_F_fill 14 = .ok (.iinc 2 1, 3) := by decide +kernel
theorem d_F_fill_17 : decode c_F_fill 17 = .ok (.goto (-12), 3) := by decide +kernel
theorem d_F_fill_20 : decode c_F_fill 20 = .ok (.return_, 1) := by decide +kernel
theorem d_J_bitCount_0 : decode c_J_bitCount 0 = .ok (.iload_n 0, 1) := by decide +kernel
theorem d_J_bitCount_1 : decode c_J_bitCount 1 = .ok (.iload_n 0, 1) := by decide +kernel
theorem d_J_bitCount_2 : decode c_J_bitCount 2 = .ok (.iconst 1, 1) := by decide +kernel
theorem d_J_bitCount_3 : decode c_J_bitCount 3 = .ok (.iushr, 1) := by decide +kernel
theorem d_J_bitCount_4 : decode c_J_bitCount 4 = .ok (.ldc_w 265, 3) := by decide +kernel
theorem d_J_bitCount_7 : decode c_J_bitCount 7 = .ok (.iand, 1) := by decide +kernel
theorem d_J_bitCount_8 : decode c_J_bitCount 8 = .ok (.isub, 1) := by decide +kernel
theorem d_J_bitCount_9 : decode c_J_bitCount 9 = .ok (.istore_n 0, 1) := by decide +kernel
theorem d_J_bitCount_10 : decode c_J_bitCount 10 = .ok (.iload_n 0, 1) := by decide +kernel
theorem d_J_bitCount_11 : decode c_J_bitCount 11 = .ok (.ldc_w 266, 3) := by decide +kernel
theorem d_J_bitCount_14 : decode c_J_bitCount 14 = .ok (.iand, 1) := by decide +kernel
theorem d_J_bitCount_15 : decode c_J_bitCount 15 = .ok (.iload_n 0, 1) := by decide +kernel
theorem d_J_bitCount_16 : decode c_J_bitCount 16 = .ok (.iconst 2, 1) := by decide +kernel
theorem d_J_bitCount_17 : decode c_J_bitCount 17 = .ok (.iushr, 1) := by decide +kernel
theorem d_J_bitCount_18 : decode c_J_bitCount 18 = .ok (.ldc_w 266, 3) := by decide +kernel
theorem d_J_bitCount_21 : decode c_J_bitCount 21 = .ok (.iand, 1) := by decide +kernel
theorem d_J_bitCount_22 : decode c_J_bitCount 22 = .ok (.iadd, 1) := by decide +kernel
theorem d_J_bitCount_23 : decode c_J_bitCount 23 = .ok (.istore_n 0, 1) := by decide +kernel
theorem d_J_bitCount_24 : decode c_J_bitCount 24 = .ok (.iload_n 0, 1) := by decide +kernel
theorem d_J_bitCount_25 : decode c_J_bitCount 25 = .ok (.iload_n 0, 1) := by decide +kernel
theorem d_J_bitCount_26 : decode c_J_bitCount 26 = .ok (.iconst 4, 1) := by decide +kernel
theorem d_J_bitCount_27 : decode c_J_bitCount 27 = .ok (.iushr, 1) := by decide +kernel
theorem d_J_bitCount_28 : decode c_J_bitCount 28 = .ok (.iadd, 1) := by decide +kernel
theorem d_J_bitCount_29 : decode c_J_bitCount 29 = .ok (.ldc_w 267, 3) := by decide +kernel
theorem d_J_bitCount_32 : decode c_J_bitCount 32 = .ok (.iand, 1) := by decide +kernel
theorem d_J_bitCount_33 : decode c_J_bitCount 33 = .ok (.istore_n 0, 1) := by decide +kernel
theorem d_J_bitCount_34 : decode c_J_bitCount 34 = .ok (.iload_n 0, 1) := by decide +kernel
theorem d_J_bitCount_35 : decode c_J_bitCount 35 = .ok (.iload_n 0, 1) := by decide +kernel
theorem d_J_bitCount_36 : decode c_J_bitCount 36 = .ok (.bipush 8, 2) := by decide +kernel
theorem d_J_bitCount_38 : decode c_J_bitCount 38 = .ok (.iushr, 1) := by decide +kernel
theorem d_J_bitCount_39 : decode c_J_bitCount 39 = .ok (.iadd, 1) := by decide +kernel
theorem d_J_bitCount_40 : decode c_J_bitCount 40 = .ok (.istore_n 0, 1) := by decide +kernel
theorem d_J_bitCount_41 : decode c_J_bitCount 41 = .ok (.iload_n 0, 1) := by decide +kernel
theorem d_J_bitCount_42 : decode c_J_bitCount 42 = .ok (.iload_n 0, 1) := by decide +kernel
theorem d_J_bitCount_43 : decode c_J_bitCount 43 = .ok (.bipush 16, 2) := by decide +kernel
theorem d_J_bitCount_45 : decode c_J_bitCount 45 = .ok (.iushr, 1) := by decide +kernel
theorem d_J_bitCount_46 : decode c_J_bitCount 46 = .ok (.iadd, 1) := by decide +kernel
theorem d_J_bitCount_47 : decode c_J_bitCount 47 = .ok (.istore_n 0, 1) := by decide +kernel
theorem d_J_bitCount_48 : decode c_J_bitCount 48 = .ok (.iload_n 0, 1) := by decide +kernel
theorem d_J_bitCount_49 : decode c_J_bitCount 49 = .ok (.bipush 63, 2) := by decide +kernel
theorem d_J_bitCount_51 : decode c_J_bitCount 51 = .ok (.iand, 1) := by decide +kernel
theorem d_J_bitCount_52 : decode c_J_bitCount 52 = .ok (.ireturn, 1) := by decide +kernel
theorem d_J_numberOfTrailingZeros_0 : decode c_J_numberOfTrailingZeros 0 = .ok (.iload_n 0, 1) := by decide +kernel
theorem d_J_numberOfTrailingZeros_1 : decode c_J_numberOfTrailingZeros 1 = .ok (.iconst (-1), 1) := by decide +kernel
theorem d_J_numberOfTrailingZeros_2 : decode c_J_numberOfTrailingZeros 2 = .ok (.ixor, 1) := by decide +kernel
theorem d_J_numberOfTrailingZeros_3 : decode c_J_numberOfTrailingZeros 3 = .ok (.iload_n 0, 1) := by decide +kernel
theorem d_J_numberOfTrailingZeros_4 : decode c_J_numberOfTrailingZeros 4 = .ok (.iconst 1, 1) := by decide +kernel
theorem d_J_numberOfTrailingZeros_5 : decode c_J_numberOfTrailingZeros 5 = .ok (.isub, 1) := by decide +kernel
theorem d_J_numberOfTrailingZeros_6 : decode c_J_numberOfTrailingZeros 6 = .ok (.iand, 1) := by decide +kernel
theorem d_J_numberOfTrailingZeros_7 : decode c_J_numberOfTrailingZeros 7 = .ok (.istore_n 0, 1) := by decide +kernel
theorem d_J_numberOfTrailingZeros_8 : decode c_J_numberOfTrailingZeros 8 = .ok (.iload_n 0, 1) := by decide +kernel
theorem d_J_numberOfTrailingZeros_9 : decode c_J_numberOfTrailingZeros 9 = .ok (.ifCond .gt 8, 3) := by decide +kernel
theorem d_J_numberOfTrailingZeros_12 : decode c_J_numberOfTrailingZeros 12 = .ok (.iload_n 0, 1) := by decide +kernel
theorem d_J_numberOfTrailingZeros_13 : decode c_J_numberOfTrailingZeros 13 = .ok (.bipush 32, 2) := by decide +kernel
theorem d_J_numberOfTrailingZeros_15 : decode c_J_numberOfTrailingZeros 15 = .ok (.iand, 1) := by decide +kernel
theorem d_J_numberOfTrailingZeros_16 : decode c_J_numberOfTrailingZeros 16 = .ok (.ireturn, 1) := by decide +kernel
theorem d_J_numberOfTrailingZeros_17 : decode c_J_numberOfTrailingZeros 17 = .ok (.iconst 1, 1) := by decide +kernel
theorem d_J_numberOfTrailingZeros_18 : decode c_J_numberOfTrailingZeros 18 = .ok (.istore_n 1, 1) := by decide +kernel
theorem d_J_numberOfTrailingZeros_19 : decode c_J_numberOfTrailingZeros 19 = .ok (.iload_n 0, 1) := by decide +kernel
theorem d_J_numberOfTrailingZeros_20 : decode c_J_numberOfTrailingZeros 20 = .ok (.ldc_w 264, 3) := by decide +kernel
theorem d_J_numberOfTrailingZeros_23 : decode c_J_numberOfTrailingZeros 23 = .ok (.if_icmp .le 11, 3) := by decide +kernel
theorem d_J_numberOfTrailingZeros_26 : decode c_J_numberOfTrailingZeros 26 = .ok (.iinc 1 16, 3) := by decide +kernel
theorem d_J_numberOfTrailingZeros_29 : decode c_J_numberOfTrailingZeros 29 = .ok (.iload_n 0, 1) := by decide +kernel
theorem d_J_numberOfTrailingZeros_30 : decode c_J_numberOfTrailingZeros 30 = .ok (.bipush 16, 2) := by decide +kernel
theorem d_J_numberOfTrailingZeros_32 : decode c_J_numberOfTrailingZeros 32 = .ok (.iushr, 1) := by decide +kernel
theorem d_J_numberOfTrailingZeros_33 : decode c_J_numberOfTrailingZeros 33 = .ok (.istore_n 0, 1) := by decide +kernel
theorem d_J_numberOfTrailingZeros_34 : decode c_J_numberOfTrailingZeros 34 = .ok (.iload_n 0, 1) := by decide +kernel
theorem d_J_numberOfTrailingZeros_35 : decode c_J_numberOfTrailingZeros 35 = .ok (.sipush 256, 3) := by decide +kernel
theorem d_J_numberOfTrailingZeros_38 : decode c_J_numberOfTrailingZeros 38 = .ok (.if_icmp .le 11, 3) := by decide +kernel
theorem d_J_numberOfTrailingZeros_41 : decode c_J_numberOfTrailingZeros 41 = .ok (.iinc 1 8, 3) := by decide +kernel
theorem d_J_numberOfTrailingZeros_44 : decode c_J_numberOfTrailingZeros 44 = .ok (.iload_n 0, 1) := by decide +kernel
theorem d_J_numberOfTrailingZeros_45 : decode c_J_numberOfTrailingZeros 45 = .ok (.bipush 8, 2) := by decide +kernel
theorem d_J_numberOfTrailingZeros_47 : decode c_J_numberOfTrailingZeros 47 = .ok (.iushr, 1) := by decide +kernel
theorem d_J_numberOfTrailingZeros_48 : decode c_J_numberOfTrailingZeros 48 = .ok (.istore_n 0, 1) := by decide +kernel
theorem d_J_numberOfTrailingZeros_49 : decode c_J_numberOfTrailingZeros 49 = .ok (.iload_n 0, 1) := by decide +kernel
theorem d_J_numberOfTrailingZeros_50 : decode c_J_numberOfTrailingZeros 50 = .ok (.bipush 16, 2) := by decide +kernel
theorem d_J_numberOfTrailingZeros_52 : decode c_J_numberOfTrailingZeros 52 = .ok (.if_icmp .le 10, 3) := by decide +kernel
theorem d_J_numberOfTrailingZeros_55 : decode c_J_numberOfTrailingZeros 55 = .ok (.iinc 1 4, 3) := by decide +kernel
theorem d_J_numberOfTrailingZeros_58 : decode c_J_numberOfTrailingZeros 58 = .ok (.iload_n 0, 1) := by decide +kernel
theorem d_J_numberOfTrailingZeros_59 : decode c_J_numberOfTrailingZeros 59 = .ok (.iconst 4, 1) := by decide +kernel
theorem d_J_numberOfTrailingZeros_60 : decode c_J_numberOfTrailingZeros 60 = .ok (.iushr, 1) := by decide +kernel
theorem d_J_numberOfTrailingZeros_61 : decode c_J_numberOfTrailingZeros 61 = .ok (.istore_n 0, 1) := by decide +kernel
theorem d_J_numberOfTrailingZeros_62 : decode c_J_numberOfTrailingZeros 62 = .ok (.iload_n 0, 1) := by decide +kernel
theorem d_J_numberOfTrailingZeros_63 : decode c_J_numberOfTrailingZeros 63 = .ok (.iconst 4, 1) := by decide +kernel
theorem d_J_numberOfTrailingZeros_64 : decode c_J_numberOfTrailingZeros 64 = .ok (.if_icmp .le 10, 3) := by decide +kernel
theorem d_J_numberOfTrailingZeros_67 : decode c_J_numberOfTrailingZeros 67 = .ok (.iinc 1 2, 3) := by decide +kernel
theorem d_J_numberOfTrailingZeros_70 : decode c_J_numberOfTrailingZeros 70 = .ok (.iload_n 0, 1) := by decide +kernel
theorem d_J_numberOfTrailingZeros_71 : decode c_J_numberOfTrailingZeros 71 = .ok (.iconst 2, 1) := by decide +kernel
theorem d_J_numberOfTrailingZeros_72 : decode c_J_numberOfTrailingZeros 72 = .ok (.iushr, 1) := by decide +kernel
theorem d_J_numberOfTrailingZeros_73 : decode c_J_numberOfTrailingZeros 73 = .ok (.istore_n 0, 1) := by decide +kernel
theorem d_J_numberOfTrailingZeros_74 : decode c_J_numberOfTrailingZeros 74 = .ok (.iload_n 1, 1) := by decide +kernel
theorem d_J_numberOfTrailingZeros_75 : decode c_J_numberOfTrailingZeros 75 = .ok (.iload_n 0, 1) := by decide +kernel
theorem d_J_numberOfTrailingZeros_76 : decode c_J_numberOfTrailingZeros 76 = .ok (.iconst 1, 1) := by decide +kernel
theorem d_J_numberOfTrailingZeros_77 : decode c_J_numberOfTrailingZeros 77 = .ok (.iushr, 1) := by decide +kernel
theorem d_J_numberOfTrailingZeros_78 : decode c_J_numberOfTrailingZeros 78 = .ok (.iadd, 1) := by decide +kernel
theorem d_J_numberOfTrailingZeros_79 : decode c_J_numberOfTrailingZeros 79 = .ok (.ireturn, 1) := by decide +kernel
theorem d_A_init_0 : decode c_A_init 0 = .ok (.aload_n 0, 1) := by decide +kernel
theorem d_A_init_1 : decode c_A_init 1 = .ok (.invokespecial 3, 3) := by decide +kernel
theorem d_A_init_4 : decode c_A_init 4 = .ok (.aload_n 0, 1) := by decide +kernel
theorem d_A_init_5 : decode c_A_init 5 = .ok (.bipush 66, 2) := by decide +kernel
theorem d_A_init_7 : decode c_A_init 7 = .ok (.newarray .int, 2) := by decide +kernel
theorem d_A_init_9 : decode c_A_init 9 = .ok (.putfield 9, 3) := by decide +kernel
theorem d_A_init_12 : decode c_A_init 12 = .ok (.aload_n 0, 1) := by decide +kernel
theorem d_A_init_13 : decode c_A_init 13 = .ok (.bipush 66, 2) := by decide +kernel
theorem d_A_init_15 : decode c_A_init 15 = .ok (.newarray .int, 2) := by decide +kernel
theorem d_A_init_17 : decode c_A_init 17 = .ok (.putfield 15, 3) := by decide +kernel
theorem d_A_init_20 : decode c_A_init 20 = .ok (.aload_n 0, 1) := by decide +kernel
theorem d_A_init_21 : decode c_A_init 21 = .ok (.bipush 66, 2) := by decide +kernel
theorem d_A_init_23 : decode c_A_init 23 = .ok (.newarray .int, 2) := by decide +kernel
theorem d_A_init_25 : decode c_A_init 25 = .ok (.putfield 18, 3) := by decide +kernel
theorem d_A_init_28 : decode c_A_init 28 = .ok (.aload_n 0, 1) := by decide +kernel
theorem d_A_init_29 : decode c_A_init 29 = .ok (.sipush 1584, 3) := by decide +kernel
theorem d_A_init_32 : decode c_A_init 32 = .ok (.newarray .int, 2) := by decide +kernel
theorem d_A_init_34 : decode c_A_init 34 = .ok (.putfield 21, 3) := by decide +kernel
theorem d_A_init_37 : decode c_A_init 37 = .ok (.aload_n 0, 1) := by decide +kernel
theorem d_A_init_38 : decode c_A_init 38 = .ok (.sipush 1584, 3) := by decide +kernel
theorem d_A_init_41 : decode c_A_init 41 = .ok (.newarray .int, 2) := by decide +kernel
theorem d_A_init_43 : decode c_A_init 43 = .ok (.putfield 24, 3) := by decide +kernel
theorem d_A_init_46 : decode c_A_init 46 = .ok (.aload_n 0, 1) := by decide +kernel
theorem d_A_init_47 : decode c_A_init 47 = .ok (.sipush 1584, 3) := by decide +kernel
theorem d_A_init_50 : decode c_A_init 50 = .ok (.newarray .int, 2) := by decide +kernel
theorem d_A_init_52 : decode c_A_init 52 = .ok (.putfield 27, 3) := by decide +kernel
theorem d_A_init_55 : decode c_A_init 55 = .ok (.aload_n 0, 1) := by decide +kernel
theorem d_A_init_56 : decode c_A_init 56 = .ok (.getfield 9, 3) := by decide +kernel
theorem d_A_init_59 : decode c_A_init 59 = .ok (.iconst (-1), 1) := by decide +kernel
theorem d_A_init_60 : decode c_A_init 60 = .ok (.invokestatic 30, 3) := by decide +kernel
theorem d_A_init_63 : decode c_A_init 63 = .ok (.return_, 1) := by decide +kernel
theorem d_A_isThere_0 : decode c_A_isThere 0 = .ok (.aload_n 0, 1) := by decide +kernel
theorem d_A_isThere_1 : decode c_A_isThere 1 = .ok (.getfield 9, 3) := by decide +kernel
theorem d_A_isThere_4 : decode c_A_isThere 4 = .ok (.iload_n 1, 1) := by decide +kernel
theorem d_A_isThere_5 : decode c_A_isThere 5 = .ok (.iaload, 1) := by decide +kernel
theorem d_A_isThere_6 : decode c_A_isThere 6 = .ok (.iconst (-1), 1) := by decide +kernel
theorem d_A_isThere_7 : decode c_A_isThere 7 = .ok (.if_icmp .eq 7, 3) := by decide +kernel
theorem d_A_isThere_10 : decode c_A_isThere 10 = .ok (.iconst 1, 1) := by decide +kernel
theorem d_A_isThere_11 : decode c_A_isThere 11 = .ok (.goto 4, 3) := by decide +kernel
theorem d_A_isThere_14 : decode c_A_isThere 14 = .ok (.iconst 0, 1) := by decide +kernel
theorem d_A_isThere_15 : decode c_A_isThere 15 = .ok (.ireturn, 1) := by decide +kernel
theorem d_A_clear_0 : decode c_A_clear 0 = .ok (.aload_n 0, 1) := by decide +kernel
theorem d_A_clear_1 : decode c_A_clear 1 = .ok (.getfield 9, 3) := by decide +kernel
theorem d_A_clear_4 : decode c_A_clear 4 = .ok (.iload_n 1, 1) := by decide +kernel
theorem d_A_clear_5 : decode c_A_clear 5 = .ok (.iconst (-1), 1) := by decide +kernel
theorem d_A_clear_6 : decode c_A_clear 6 = .ok (.iastore, 1) := by decide +kernel
theorem d_A_clear_7 : decode c_A_clear 7 = .ok (.aload_n 0, 1) := by decide +kernel
theorem d_A_clear_8 : decode c_A_clear 8 = .ok (.getfield 18, 3) := by decide +kernel
theorem d_A_clear_11 : decode c_A_clear 11 = .ok (.iload_n 1, 1) := by decide +kernel
theorem d_A_clear_12 : decode c_A_clear 12 = .ok (.iconst 0, 1) := by decide +kernel
theorem d_A_clear_13 : decode c_A_clear 13 = .ok (.iastore, 1) := by decide +kernel
theorem d_A_clear_14 : decode c_A_clear 14 = .ok (.return_, 1) := by decide +kernel
theorem d_A_append_0 : decode c_A_append 0 = .ok (.aload_n 0, 1) := by decide +kernel
theorem d_A_append_1 : decode c_A_append 1 = .ok (.iload_n 1, 1) := by decide +kernel
theorem d_A_append_2 : decode c_A_append 2 = .ok (.invokevirtual 36, 3) := by decide +kernel
theorem d_A_append_5 : decode c_A_append 5 = .ok (.ifCond .ne 4, 3) := by decide +kernel
theorem d_A_append_8 : decode c_A_append 8 = .ok (.return_, 1) := by decide +kernel
theorem d_A_append_9 : decode c_A_append 9 = .ok (.iload_n 1, 1) := by decide +kernel
theorem d_A_append_10 : decode c_A_append 10 = .ok (.aload_n 0, 1) := by decide +kernel
theorem d_A_append_11 : decode c_A_append 11 = .ok (.getfield 18, 3) := by decide +kernel
theorem d_A_append_14 : decode c_A_append 14 = .ok (.iload_n 1, 1) := by decide +kernel
theorem d_A_append_15 : decode c_A_append 15 = .ok (.iaload, 1) := by decide +kernel
theorem d_A_append_16 : decode c_A_append 16 = .ok (.invokestatic 40, 3) := by decide +kernel
theorem d_A_append_19 : decode c_A_append 19 = .ok (.istore 5, 2) := by decide +kernel
theorem d_A_append_21 : decode c_A_append 21 = .ok (.aload_n 0, 1) := by decide +kernel
theorem d_A_append_22 : decode c_A_append 22 = .ok (.getfield 21, 3) := by decide +kernel
theorem d_A_append_25 : decode c_A_append 25 = .ok (.iload 5, 2) := by decide +kernel
theorem d_A_append_27 : decode c_A_append 27 = .ok (.iload_n 2, 1) := by decide +kernel
theorem d_A_append_28 : decode c_A_append 28 = .ok (.iastore, 1) := by decide +kernel
theorem d_A_append_29 : decode c_A_append 29 = .ok (.aload_n 0, 1) := by decide +kernel
theorem d_A_append_30 : decode c_A_append 30 = .ok (.getfield 24, 3) := by decide +kernel
theorem d_A_append_33 : decode c_A_append 33 = .ok (.iload 5, 2) := by decide +kernel
theorem d_A_append_35 : decode c_A_append 35 = .ok (.iload_n 3, 1) := by decide +kernel
theorem d_A_append_36 : decode c_A_append 36 = .ok (.iastore, 1) := by decide +kernel
theorem d_A_append_37 : decode c_A_append 37 = .ok (.aload_n 0, 1) := by decide +kernel
theorem d_A_append_38 : decode c_A_append 38 = .ok (.getfield 27, 3) := by decide +kernel
theorem d_A_append_41 : decode c_A_append 41 = .ok (.iload 5, 2) := by decide +kernel
theorem d_A_append_43 : decode c_A_append 43 = .ok (.iload 4, 2) := by decide +kernel
theorem d_A_append_45 : decode c_A_append 45 = .ok (.iastore, 1) := by decide +kernel
theorem d_A_append_46 : decode c_A_append 46 = .ok (.aload_n 0, 1) := by decide +kernel
theorem d_A_append_47 : decode c_A_append 47 = .ok (.getfield 18, 3) := by decide +kernel
theorem d_A_append_50 : decode c_A_append 50 = .ok (.iload_n 1, 1) := by decide +kernel
theorem d_A_append_51 : decode c_A_append 51 = .ok (.dup2, 1) := by decide +kernel
theorem d_A_append_52 : decode c_A_append 52 = .ok (.iaload, 1) := by decide +kernel
theorem d_A_append_53 : decode c_A_append 53 = .ok (.iconst 1, 1) := by decide +kernel
theorem d_A_append_54 : decode c_A_append 54 = .ok (.iadd, 1) := by decide +kernel
theorem d_A_append_55 : decode c_A_append 55 = .ok (.iastore, 1) := by decide +kernel
theorem d_A_append_56 : decode c_A_append 56 = .ok (.return_, 1) := by decide +kernel
theorem d_A_hasRoom_0 : decode c_A_hasRoom 0 = .ok (.aload_n 0, 1) := by decide +kernel
theorem d_A_hasRoom_1 : decode c_A_hasRoom 1 = .ok (.getfield 18, 3) := by decide +kernel
theorem d_A_hasRoom_4 : decode c_A_hasRoom 4 = .ok (.iload_n 1, 1) := by decide +kernel
theorem d_A_hasRoom_5 : decode c_A_hasRoom 5 = .ok (.iaload, 1) := by decide +kernel
theorem d_A_hasRoom_6 : decode c_A_hasRoom 6 = .ok (.bipush 24, 2) := by decide +kernel
theorem d_A_hasRoom_8 : decode c_A_hasRoom 8 = .ok (.if_icmp .ge 7, 3) := by decide +kernel
theorem d_A_hasRoom_11 : decode c_A_hasRoom 11 = .ok (.iconst 1, 1) := by decide +kernel
theorem d_A_hasRoom_12 : decode c_A_hasRoom 12 = .ok (.goto 4, 3) := by decide +kernel
theorem d_A_hasRoom_15 : decode c_A_hasRoom 15 = .ok (.iconst 0, 1) := by decide +kernel
theorem d_A_hasRoom_16 : decode c_A_hasRoom 16 = .ok (.ireturn, 1) := by decide +kernel
theorem d_A_indexOf_0 : decode c_A_indexOf 0 = .ok (.iload_n 0, 1) := by decide +kernel
theorem d_A_indexOf_1 : decode c_A_indexOf 1 = .ok (.bipush 24, 2) := by decide +kernel
theorem d_A_indexOf_3 : decode c_A_indexOf 3 = .ok (.imul, 1) := by decide +kernel
theorem d_A_indexOf_4 : decode c_A_indexOf 4 = .ok (.iload_n 1, 1) := by decide +kernel
theorem d_A_indexOf_5 : decode c_A_indexOf 5 = .ok (.iadd, 1) := by decide +kernel
theorem d_A_indexOf_6 : decode c_A_indexOf 6 = .ok (.ireturn, 1) := by decide +kernel
theorem d_A_haveSameEntries_0 : decode c_A_haveSameEntries 0 = .ok (.aload_n 0, 1) := by decide +kernel
theorem d_A_haveSameEntries_1 : decode c_A_haveSameEntries 1 = .ok (.getfield 18, 3) := by decide +kernel
theorem d_A_haveSameEntries_4 : decode c_A_haveSameEntries 4 = .ok (.iload_n 1, 1) := by decide +kernel
theorem d_A_haveSameEntries_5 : decode c_A_haveSameEntries 5 = .ok (.iaload, 1) := by decide +kernel
theorem d_A_haveSameEntries_6 : decode c_A_haveSameEntries 6 = .ok (.aload_n 0, 1) := by decide +kernel
theorem d_A_haveSameEntries_7 : decode c_A_haveSameEntries 7 = .ok (.getfield 18, 3) := by decide +kernel
theorem d_A_haveSameEntries_10 : decode c_A_haveSameEntries 10 = .ok (.iload_n 2, 1) := by decide +kernel
theorem d_A_haveSameEntries_11 : decode c_A_haveSameEntries 11 = .ok (.iaload, 1) := by decide +kernel
theorem d_A_haveSameEntries_12 : decode c_A_haveSameEntries 12 = .ok (.if_icmp .eq 5, 3) := by decide +kernel
theorem d_A_haveSameEntries_15 : decode c_A_haveSameEntries 15 = .ok (.iconst 0, 1) := by decide +kernel
theorem d_A_haveSameEntries_16 : decode c_A_haveSameEntries 16 = .ok (.ireturn, 1) := by decide +kernel
theorem d_A_haveSameEntries_17 : decode c_A_haveSameEntries 17 = .ok (.iconst 0, 1) := by decide +kernel
theorem d_A_haveSameEntries_18 : decode c_A_haveSameEntries 18 = .ok (.istore_n 3, 1) := by decide +kernel
theorem d_A_haveSameEntries_19 : decode c_A_haveSameEntries 19 = .ok (.iload_n 3, 1) := by decide +kernel
theorem d_A_haveSameEntries_20 : decode c_A_haveSameEntries 20 = .ok (.aload_n 0, 1) := by decide +kernel
theorem d_A_haveSameEntries_21 : decode c_A_haveSameEntries 21 = .ok (.getfield 18, 3) := by decide +kernel
theorem d_A_haveSameEntries_24 : decode c_A_haveSameEntries 24 = .ok (.iload_n 1, 1) := by decide +kernel
theorem d_A_haveSameEntries_25 : decode c_A_haveSameEntries 25 = .ok (.iaload, 1) := by decide +kernel
theorem d_A_haveSameEntries_26 : decode c_A_haveSameEntries 26 = .ok (.if_icmp .ge 28, 3) := by decide +kernel
theorem d_A_haveSameEntries_29 : decode c_A_haveSameEntries 29 = .ok (.aload_n 0, 1) := by decide +kernel
theorem d_A_haveSameEntries_30 : decode c_A_haveSameEntries 30 = .ok (.iload_n 1, 1) := by decide +kernel
theorem d_A_haveSameEntries_31 : decode c_A_haveSameEntries 31 = .ok (.iload_n 3, 1) := by decide +kernel
theorem d_A_haveSameEntries_32 : decode c_A_haveSameEntries 32 = .ok (.invokestatic 40, 3) := by decide +kernel
theorem d_A_haveSameEntries_35 : decode c_A_haveSameEntries 35 = .ok (.iload_n 2, 1) := by decide +kernel
theorem d_A_haveSameEntries_36 : decode c_A_haveSameEntries 36 = .ok (.iload_n 3, 1) := by decide +kernel
theorem d_A_haveSameEntries_37 : decode c_A_haveSameEntries 37 = .ok (.invokestatic 40, 3) := by decide +kernel
theorem d_A_haveSameEntries_40 : decode c_A_haveSameEntries 40 = .ok (.invokevirtual 54, 3) := by decide +kernel
theorem d_A_haveSameEntries_43 : decode c_A_haveSameEntries 43 = .ok (.ifCond .ne 5, 3) := by decide +kernel
theorem d_A_haveSameEntries_46 : decode c_A_haveSameEntries 46 = .ok (.iconst 0, 1) := by decide +kernel
theorem d_A_haveSameEntries_47 : decode c_A_haveSameEntries 47 = .ok (.ireturn, 1) := by decide +kernel
theorem d_A_haveSameEntries_48 : decode c_A_haveSameEntries 48 = .ok (.iinc 3 1, 3) := by decide +kernel
theorem d_A_haveSameEntries_51 : decode c_A_haveSameEntries 51 = .ok (.goto (-32), 3) := by decide +kernel
theorem d_A_haveSameEntries_54 : decode c_A_haveSameEntries 54 = .ok (.iconst 1, 1) := by decide +kernel
theorem d_A_haveSameEntries_55 : decode c_A_haveSameEntries 55 = .ok (.ireturn, 1) := by decide +kernel
theorem d_A_isSameEntry_0 : decode c_A_isSameEntry 0 = .ok (.aload_n 0, 1) := by decide +kernel
theorem d_A_isSameEntry_1 : decode c_A_isSameEntry 1 = .ok (.getfield 21, 3) := by decide +kernel
theorem d_A_isSameEntry_4 : decode c_A_isSameEntry 4 = .ok (.iload_n 1, 1) := by decide +kernel
theorem d_A_isSameEntry_5 : decode c_A_isSameEntry 5 = .ok (.iaload, 1) := by decide +kernel
theorem d_A_isSameEntry_6 : decode c_A_isSameEntry 6 = .ok (.aload_n 0, 1) := by decide +kernel
theorem d_A_isSameEntry_7 : decode c_A_isSameEntry 7 = .ok (.getfield 21, 3) := by decide +kernel
theorem d_A_isSameEntry_10 : decode c_A_isSameEntry 10 = .ok (.iload_n 2, 1) := by decide +kernel
theorem d_A_isSameEntry_11 : decode c_A_isSameEntry 11 = .ok (.iaload, 1) := by decide +kernel
theorem d_A_isSameEntry_12 : decode c_A_isSameEntry 12 = .ok (.if_icmp .ne 37, 3) := by decide +kernel
theorem d_A_isSameEntry_15 : decode c_A_isSameEntry 15 = .ok (.aload_n 0, 1) := by decide +kernel
theorem d_A_isSameEntry_16 : decode c_A_isSameEntry 16 = .ok (.getfield 24, 3) := by decide +kernel
theorem d_A_isSameEntry_19 : decode c_A_isSameEntry 19 = .ok (.iload_n 1, 1) := by decide +kernel
theorem d_A_isSameEntry_20 : decode c_A_isSameEntry 20 = .ok (.iaload, 1) := by decide +kernel
theorem d_A_isSameEntry_21 : decode c_A_isSameEntry 21 = .ok (.aload_n 0, 1) := by decide +kernel
theorem d_A_isSameEntry_22 : decode c_A_isSameEntry 22 = .ok (.getfield 24, 3) := by decide +kernel
theorem d_A_isSameEntry_25 : decode c_A_isSameEntry 25 = .ok (.iload_n 2, 1) := by decide +kernel
theorem d_A_isSameEntry_26 : decode c_A_isSameEntry 26 = .ok (.iaload, 1) := by decide +kernel
theorem d_A_isSameEntry_27 : decode c_A_isSameEntry 27 = .ok (.if_icmp .ne 22, 3) := by decide +kernel
theorem d_A_isSameEntry_30 : decode c_A_isSameEntry 30 = .ok (.aload_n 0, 1) := by decide +kernel
theorem d_A_isSameEntry_31 : decode c_A_isSameEntry 31 = .ok (.getfield 27, 3) := by decide +kernel
theorem d_A_isSameEntry_34 : decode c_A_isSameEntry 34 = .ok (.iload_n 1, 1) := by decide +kernel
theorem d_A_isSameEntry_35 : decode c_A_isSameEntry 35 = .ok (.iaload, 1) := by decide +kernel
theorem d_A_isSameEntry_36 : decode c_A_isSameEntry 36 = .ok (.aload_n 0, 1) := by decide +kernel
theorem d_A_isSameEntry_37 : decode c_A_isSameEntry 37 = .ok (.getfield 27, 3) := by decide +kernel
theorem d_A_isSameEntry_40 : decode c_A_isSameEntry 40 = .ok (.iload_n 2, 1) := by decide +kernel
theorem d_A_isSameEntry_41 : decode c_A_isSameEntry 41 = .ok (.iaload, 1) := by decide +kernel
theorem d_A_isSameEntry_42 : decode c_A_isSameEntry 42 = .ok (.if_icmp .ne 7, 3) := by decide +kernel
theorem d_A_isSameEntry_45 : decode c_A_isSameEntry 45 = .ok (.iconst 1, 1) := by decide +kernel
theorem d_A_isSameEntry_46 : decode c_A_isSameEntry 46 = .ok (.goto 4, 3) := by decide +kernel
theorem d_A_isSameEntry_49 : decode c_A_isSameEntry 49 = .ok (.iconst 0, 1) := by decide +kernel
theorem d_A_isSameEntry_50 : decode c_A_isSameEntry 50 = .ok (.ireturn, 1) := by decide +kernel
theorem d_A_copyEntries_0 : decode c_A_copyEntries 0 = .ok (.aload_n 0, 1) := by decide +kernel
theorem d_A_copyEntries_1 : decode c_A_copyEntries 1 = .ok (.getfield 18, 3) := by decide +kernel
theorem d_A_copyEntries_4 : decode c_A_copyEntries 4 = .ok (.iload_n 1, 1) := by decide +kernel
theorem d_A_copyEntries_5 : decode c_A_copyEntries 5 = .ok (.iaload, 1) := by decide +kernel
theorem d_A_copyEntries_6 : decode c_A_copyEntries 6 = .ok (.istore_n 3, 1) := by decide +kernel
theorem d_A_copyEntries_7 : decode c_A_copyEntries 7 = .ok (.aload_n 0, 1) := by decide +kernel
theorem d_A_copyEntries_8 : decode c_A_copyEntries 8 = .ok (.getfield 21, 3) := by decide +kernel
theorem d_A_copyEntries_11 : decode c_A_copyEntries 11 = .ok (.iload_n 1, 1) := by decide +kernel
theorem d_A_copyEntries_12 : decode c_A_copyEntries 12 = .ok (.iconst 0, 1) := by decide +kernel
theorem d_A_copyEntries_13 : decode c_A_copyEntries 13 = .ok (.invokestatic 40, 3) := by decide +kernel
theorem d_A_copyEntries_16 : decode c_A_copyEntries 16 = .ok (.aload_n 0, 1) := by decide +kernel
theorem d_A_copyEntries_17 : decode c_A_copyEntries 17 = .ok (.getfield 21, 3) := by decide +kernel
theorem d_A_copyEntries_20 : decode c_A_copyEntries 20 = .ok (.iload_n 2, 1) := by decide +kernel
theorem d_A_copyEntries_21 : decode c_A_copyEntries 21 = .ok (.iconst 0, 1) := by decide +kernel
theorem d_A_copyEntries_22 : decode c_A_copyEntries 22 = .ok (.invokestatic 40, 3) := by decide +kernel
theorem d_A_copyEntries_25 : decode c_A_copyEntries 25 = .ok (.iload_n 3, 1) := by decide +kernel
theorem d_A_copyEntries_26 : decode c_A_copyEntries 26 = .ok (.invokestatic 48, 3) := by decide +kernel
theorem d_A_copyEntries_29 : decode c_A_copyEntries 29 = .ok (.aload_n 0, 1) := by decide +kernel
theorem d_A_copyEntries_30 : decode c_A_copyEntries 30 = .ok (.getfield 24, 3) := by decide +kernel
theorem d_A_copyEntries_33 : decode c_A_copyEntries 33 = .ok (.iload_n 1, 1) := by decide +kernel
theorem d_A_copyEntries_34 : decode c_A_copyEntries 34 = .ok (.iconst 0, 1) := by decide +kernel
theorem d_A_copyEntries_35 : decode c_A_copyEntries 35 = .ok (.invokestatic 40, 3) := by decide +kernel
theorem d_A_copyEntries_38 : decode c_A_copyEntries 38 = .ok (.aload_n 0, 1) := by decide +kernel
theorem d_A_copyEntries_39 : decode c_A_copyEntries 39 = .ok (.getfield 24, 3) := by decide +kernel
theorem d_A_copyEntries_42 : decode c_A_copyEntries 42 = .ok (.iload_n 2, 1) := by decide +kernel
theorem d_A_copyEntries_43 : decode c_A_copyEntries 43 = .ok (.iconst 0, 1) := by decide +kernel
theorem d_A_copyEntries_44 : decode c_A_copyEntries 44 = .ok (.invokestatic 40, 3) := by decide +kernel
theorem d_A_copyEntries_47 : decode c_A_copyEntries 47 = .ok (.iload_n 3, 1) := by decide +kernel
theorem d_A_copyEntries_48 : decode c_A_copyEntries 48 = .ok (.invokestatic 48, 3) := by decide +kernel
theorem d_A_copyEntries_51 : decode c_A_copyEntries 51 = .ok (.aload_n 0, 1) := by decide +kernel
theorem d_A_copyEntries_52 : decode c_A_copyEntries 52 = .ok (.getfield 27, 3) := by decide +kernel
theorem d_A_copyEntries_55 : decode c_A_copyEntries 55 = .ok (.iload_n 1, 1) := by decide +kernel
theorem d_A_copyEntries_56 : decode c_A_copyEntries 56 = .ok (.iconst 0, 1) := by decide +kernel
theorem d_A_copyEntries_57 : decode c_A_copyEntries 57 = .ok (.invokestatic 40, 3) := by decide +kernel
theorem d_A_copyEntries_60 : decode c_A_copyEntries 60 = .ok (.aload_n 0, 1) := by decide +kernel
theorem d_A_copyEntries_61 : decode c_A_copyEntries 61 = .ok (.getfield 27, 3) := by decide +kernel
theorem d_A_copyEntries_64 : decode c_A_copyEntries 64 = .ok (.iload_n 2, 1) := by decide +kernel
theorem d_A_copyEntries_65 : decode c_A_copyEntries 65 = .ok (.iconst 0, 1) := by decide +kernel
theorem d_A_copyEntries_66 : decode c_A_copyEntries 66 = .ok (.invokestatic 40, 3) := by decide +kernel
theorem d_A_copyEntries_69 : decode c_A_copyEntries 69 = .ok (.iload_n 3, 1) := by decide +kernel
theorem d_A_copyEntries_70 : decode c_A_copyEntries 70 = .ok (.invokestatic 48, 3) := by decide +kernel
theorem d_A_copyEntries_73 : decode c_A_copyEntries 73 = .ok (.aload_n 0, 1) := by decide +kernel
theorem d_A_copyEntries_74 : decode c_A_copyEntries 74 = .ok (.getfield 18, 3) := by decide +kernel
theorem d_A_copyEntries_77 : decode c_A_copyEntries 77 = .ok (.iload_n 2, 1) := by decide +kernel
theorem d_A_copyEntries_78 : decode c_A_copyEntries 78 = .ok (.iload_n 3, 1) := by decide +kernel
theorem d_A_copyEntries_79 : decode c_A_copyEntries 79 = .ok (.iastore, 1) := by decide +kernel
theorem d_A_copyEntries_80 : decode c_A_copyEntries 80 = .ok (.return_, 1) := by decide +kernel
theorem d_A_has_0 : decode c_A_has 0 = .ok (.aload_n 0, 1) := by decide +kernel
theorem d_A_has_1 : decode c_A_has 1 = .ok (.iload_n 1, 1) := by decide +kernel
theorem d_A_has_2 : decode c_A_has 2 = .ok (.iload_n 2, 1) := by decide +kernel
theorem d_A_has_3 : decode c_A_has 3 = .ok (.iload_n 3, 1) := by decide +kernel
theorem d_A_has_4 : decode c_A_has 4 = .ok (.invokevirtual 44, 3) := by decide +kernel
theorem d_A_has_7 : decode c_A_has 7 = .ok (.iconst (-1), 1) := by decide +kernel
theorem d_A_has_8 : decode c_A_has 8 = .ok (.if_icmp .eq 7, 3) := by decide +kernel
theorem d_A_has_11 : decode c_A_has 11 = .ok (.iconst 1, 1) := by decide +kernel
theorem d_A_has_12 : decode c_A_has 12 = .ok (.goto 4, 3) := by decide +kernel
theorem d_A_has_15 : decode c_A_has 15 = .ok (.iconst 0, 1) := by decide +kernel
theorem d_A_has_16 : decode c_A_has 16 = .ok (.ireturn, 1) := by decide +kernel
theorem d_A_costOf_0 : decode c_A_costOf 0 = .ok (.iload_n 1, 1) := by decide +kernel
theorem d_A_costOf_1 : decode c_A_costOf 1 = .ok (.aload_n 0, 1) := by decide +kernel
theorem d_A_costOf_2 : decode c_A_costOf 2 = .ok (.getfield 18, 3) := by decide +kernel
theorem d_A_costOf_5 : decode c_A_costOf 5 = .ok (.iload_n 1, 1) := by decide +kernel
theorem d_A_costOf_6 : decode c_A_costOf 6 = .ok (.iaload, 1) := by decide +kernel
theorem d_A_costOf_7 : decode c_A_costOf 7 = .ok (.invokestatic 40, 3) := by decide +kernel
theorem d_A_costOf_10 : decode c_A_costOf 10 = .ok (.istore 4, 2) := by decide +kernel
theorem d_A_costOf_12 : decode c_A_costOf 12 = .ok (.iload_n 1, 1) := by decide +kernel
theorem d_A_costOf_13 : decode c_A_costOf 13 = .ok (.iconst 0, 1) := by decide +kernel
theorem d_A_costOf_14 : decode c_A_costOf 14 = .ok (.invokestatic 40, 3) := by decide +kernel
theorem d_A_costOf_17 : decode c_A_costOf 17 = .ok (.istore 5, 2) := by decide +kernel
theorem d_A_costOf_19 : decode c_A_costOf 19 = .ok (.iload 5, 2) := by decide +kernel
theorem d_A_costOf_21 : decode c_A_costOf 21 = .ok (.iload 4, 2) := by decide +kernel
theorem d_A_costOf_23 : decode c_A_costOf 23 = .ok (.if_icmp .ge 39, 3) := by decide +kernel
theorem d_A_costOf_26 : decode c_A_costOf 26 = .ok (.aload_n 0, 1) := by decide +kernel
theorem d_A_costOf_27 : decode c_A_costOf 27 = .ok (.getfield 21, 3) := by decide +kernel
theorem d_A_costOf_30 : decode c_A_costOf 30 = .ok (.iload 5, 2) := by decide +kernel
theorem d_A_costOf_32 : decode c_A_costOf 32 = .ok (.iaload, 1) := by decide +kernel
theorem d_A_costOf_33 : decode c_A_costOf 33 = .ok (.iload_n 2, 1) := by decide +kernel
theorem d_A_costOf_34 : decode c_A_costOf 34 = .ok (.if_icmp .ne 22, 3) := by decide +kernel
theorem d_A_costOf_37 : decode c_A_costOf 37 = .ok (.aload_n 0, 1) := by decide +kernel
theorem d_A_costOf_38 : decode c_A_costOf 38 = .ok (.getfield 24, 3) := by decide +kernel
theorem d_A_costOf_41 : decode c_A_costOf 41 = .ok (.iload 5, 2) := by decide +kernel
theorem d_A_costOf_43 : decode c_A_costOf 43 = .ok (.iaload, 1) := by decide +kernel
theorem d_A_costOf_44 : decode c_A_costOf 44 = .ok (.iload_n 3, 1) := by decide +kernel
theorem d_A_costOf_45 : decode c_A_costOf 45 = .ok (.if_icmp .ne 11, 3) := by decide +kernel
theorem d_A_costOf_48 : decode c_A_costOf 48 = .ok (.aload_n 0, 1) := by decide +kernel
theorem d_A_costOf_49 : decode c_A_costOf 49 = .ok (.getfield 27, 3) := by decide +kernel
theorem d_A_costOf_52 : decode c_A_costOf 52 = .ok (.iload 5, 2) := by decide +kernel
theorem d_A_costOf_54 : decode c_A_costOf 54 = .ok (.iaload, 1) := by decide +kernel
theorem d_A_costOf_55 : decode c_A_costOf 55 = .ok (.ireturn, 1) := by decide +kernel
theorem d_A_costOf_56 : decode c_A_costOf 56 = .ok (.iinc 5 1, 3) := by decide +kernel
theorem d_A_costOf_59 : decode c_A_costOf 59 = .ok (.goto (-40), 3) := by decide +kernel
theorem d_A_costOf_62 : decode c_A_costOf 62 = .ok (.iconst (-1), 1) := by decide +kernel
theorem d_A_costOf_63 : decode c_A_costOf 63 = .ok (.ireturn, 1) := by decide +kernel
theorem d_K_init_0 : decode c_K_init 0 = .ok (.aload_n 0, 1) := by decide +kernel
theorem d_K_init_1 : decode c_K_init 1 = .ok (.invokespecial 3, 3) := by decide +kernel
theorem d_K_init_4 : decode c_K_init 4 = .ok (.aload_n 0, 1) := by decide +kernel
theorem d_K_init_5 : decode c_K_init 5 = .ok (.bipush 64, 2) := by decide +kernel
theorem d_K_init_7 : decode c_K_init 7 = .ok (.newarray .int, 2) := by decide +kernel
theorem d_K_init_9 : decode c_K_init 9 = .ok (.putfield 9, 3) := by decide +kernel
theorem d_K_init_12 : decode c_K_init 12 = .ok (.aload_n 0, 1) := by decide +kernel
theorem d_K_init_13 : decode c_K_init 13 = .ok (.bipush 16, 2) := by decide +kernel
theorem d_K_init_15 : decode c_K_init 15 = .ok (.newarray .int, 2) := by decide +kernel
theorem d_K_init_17 : decode c_K_init 17 = .ok (.putfield 15, 3) := by decide +kernel
theorem d_K_init_20 : decode c_K_init 20 = .ok (.return_, 1) := by decide +kernel
theorem d_K_tellInto_0 : decode c_K_tellInto 0 = .ok (.aload_n 1, 1) := by decide +kernel
theorem d_K_tellInto_1 : decode c_K_tellInto 1 = .ok (.iload_n 2, 1) := by decide +kernel
theorem d_K_tellInto_2 : decode c_K_tellInto 2 = .ok (.invokevirtual 41, 3) := by decide +kernel
theorem d_K_tellInto_5 : decode c_K_tellInto 5 = .ok (.iconst 0, 1) := by decide +kernel
theorem d_K_tellInto_6 : decode c_K_tellInto 6 = .ok (.istore_n 3, 1) := by decide +kernel
theorem d_K_tellInto_7 : decode c_K_tellInto 7 = .ok (.iload_n 3, 1) := by decide +kernel
theorem d_K_tellInto_8 : decode c_K_tellInto 8 = .ok (.bipush 64, 2) := by decide +kernel
theorem d_K_tellInto_10 : decode c_K_tellInto 10 = .ok (.if_icmp .ge 30, 3) := by decide +kernel
theorem d_K_tellInto_13 : decode c_K_tellInto 13 = .ok (.aload_n 0, 1) := by decide +kernel
theorem d_K_tellInto_14 : decode c_K_tellInto 14 = .ok (.iload_n 3, 1) := by decide +kernel
theorem d_K_tellInto_15 : decode c_K_tellInto 15 = .ok (.invokevirtual 18, 3) := by decide +kernel
theorem d_K_tellInto_18 : decode c_K_tellInto 18 = .ok (.ifCond .eq 16, 3) := by decide +kernel
theorem d_K_tellInto_21 : decode c_K_tellInto 21 = .ok (.aload_n 1, 1) := by decide +kernel
theorem d_K_tellInto_22 : decode c_K_tellInto 22 = .ok (.iload_n 2, 1) := by decide +kernel
theorem d_K_tellInto_23 : decode c_K_tellInto 23 = .ok (.iconst (-1), 1) := by decide +kernel
theorem d_K_tellInto_24 : decode c_K_tellInto 24 = .ok (.iload_n 3, 1) := by decide +kernel
theorem d_K_tellInto_25 : decode c_K_tellInto 25 = .ok (.aload_n 0, 1) := by decide +kernel
theorem d_K_tellInto_26 : decode c_K_tellInto 26 = .ok (.getfield 9, 3) := by decide +kernel
theorem d_K_tellInto_29 : decode c_K_tellInto 29 = .ok (.iload_n 3, 1) := by decide +kernel
theorem d_K_tellInto_30 : decode c_K_tellInto 30 = .ok (.iaload, 1) := by decide +kernel
theorem d_K_tellInto_31 : decode c_K_tellInto 31 = .ok (.invokevirtual 46, 3) := by decide +kernel
theorem d_K_tellInto_34 : decode c_K_tellInto 34 = .ok (.iinc 3 1, 3) := by decide +kernel
theorem d_K_tellInto_37 : decode c_K_tellInto 37 = .ok (.goto (-30), 3) := by decide +kernel
theorem d_K_tellInto_40 : decode c_K_tellInto 40 = .ok (.iconst 0, 1) := by decide +kernel
theorem d_K_tellInto_41 : decode c_K_tellInto 41 = .ok (.istore_n 3, 1) := by decide +kernel
theorem d_K_tellInto_42 : decode c_K_tellInto 42 = .ok (.iload_n 3, 1) := by decide +kernel
theorem d_K_tellInto_43 : decode c_K_tellInto 43 = .ok (.aload_n 0, 1) := by decide +kernel
theorem d_K_tellInto_44 : decode c_K_tellInto 44 = .ok (.getfield 30, 3) := by decide +kernel
theorem d_K_tellInto_47 : decode c_K_tellInto 47 = .ok (.if_icmp .ge 43, 3) := by decide +kernel
theorem d_K_tellInto_50 : decode c_K_tellInto 50 = .ok (.aload_n 0, 1) := by decide +kernel
theorem d_K_tellInto_51 : decode c_K_tellInto 51 = .ok (.getfield 15, 3) := by decide +kernel
theorem d_K_tellInto_54 : decode c_K_tellInto 54 = .ok (.iload_n 3, 1) := by decide +kernel
theorem d_K_tellInto_55 : decode c_K_tellInto 55 = .ok (.iaload, 1) := by decide +kernel
theorem d_K_tellInto_56 : decode c_K_tellInto 56 = .ok (.bipush 64, 2) := by decide +kernel
theorem d_K_tellInto_58 : decode c_K_tellInto 58 = .ok (.idiv, 1) := by decide +kernel
theorem d_K_tellInto_59 : decode c_K_tellInto 59 = .ok (.istore 4, 2) := by decide +kernel
theorem d_K_tellInto_61 : decode c_K_tellInto 61 = .ok (.aload_n 1, 1) := by decide +kernel
theorem d_K_tellInto_62 : decode c_K_tellInto 62 = .ok (.iload_n 2, 1) := by decide +kernel
theorem d_K_tellInto_63 : decode c_K_tellInto 63 = .ok (.aload_n 0, 1) := by decide +kernel
theorem d_K_tellInto_64 : decode c_K_tellInto 64 = .ok (.getfield 15, 3) := by decide +kernel
theorem d_K_tellInto_67 : decode c_K_tellInto 67 = .ok (.iload_n 3, 1) := by decide +kernel
theorem d_K_tellInto_68 : decode c_K_tellInto 68 = .ok (.iaload, 1) := by decide +kernel
theorem d_K_tellInto_69 : decode c_K_tellInto 69 = .ok (.bipush 64, 2) := by decide +kernel
theorem d_K_tellInto_71 : decode c_K_tellInto 71 = .ok (.irem, 1) := by decide +kernel
theorem d_K_tellInto_72 : decode c_K_tellInto 72 = .ok (.iload 4, 2) := by decide +kernel
theorem d_K_tellInto_74 : decode c_K_tellInto 74 = .ok (.aload_n 0, 1) := by decide +kernel
theorem d_K_tellInto_75 : decode c_K_tellInto 75 = .ok (.getfield 9, 3) := by decide +kernel
theorem d_K_tellInto_78 : decode c_K_tellInto 78 = .ok (.iload 4, 2) := by decide +kernel
theorem d_K_tellInto_80 : decode c_K_tellInto 80 = .ok (.iaload, 1) := by decide +kernel
theorem d_K_tellInto_81 : decode c_K_tellInto 81 = .ok (.invokevirtual 46, 3) := by decide +kernel
theorem d_K_tellInto_84 : decode c_K_tellInto 84 = .ok (.iinc 3 1, 3) := by decide +kernel
theorem d_K_tellInto_87 : decode c_K_tellInto 87 = .ok (.goto (-45), 3) := by decide +kernel
theorem d_K_tellInto_90 : decode c_K_tellInto 90 = .ok (.return_, 1) := by decide +kernel
theorem d_K_hasPort_0 : decode c_K_hasPort 0 = .ok (.aload_n 0, 1) := by decide +kernel
theorem d_K_hasPort_1 : decode c_K_hasPort 1 = .ok (.getfield 9, 3) := by decide +kernel
theorem d_K_hasPort_4 : decode c_K_hasPort 4 = .ok (.iload_n 1, 1) := by decide +kernel
theorem d_K_hasPort_5 : decode c_K_hasPort 5 = .ok (.iaload, 1) := by decide +kernel
theorem d_K_hasPort_6 : decode c_K_hasPort 6 = .ok (.ifCond .eq 7, 3) := by decide +kernel
theorem d_K_hasPort_9 : decode c_K_hasPort 9 = .ok (.iconst 1, 1) := by decide +kernel
theorem d_K_hasPort_10 : decode c_K_hasPort 10 = .ok (.goto 4, 3) := by decide +kernel
theorem d_K_hasPort_13 : decode c_K_hasPort 13 = .ok (.iconst 0, 1) := by decide +kernel
theorem d_K_hasPort_14 : decode c_K_hasPort 14 = .ok (.ireturn, 1) := by decide +kernel
theorem d_K_hasRoomForPort_0 : decode c_K_hasRoomForPort 0 = .ok (.aload_n 0, 1) := by decide +kernel
theorem d_K_hasRoomForPort_1 : decode c_K_hasRoomForPort 1 = .ok (.iload_n 1, 1) := by decide +kernel
theorem d_K_hasRoomForPort_2 : decode c_K_hasRoomForPort 2 = .ok (.invokevirtual 18, 3) := by decide +kernel
theorem d_K_hasRoomForPort_5 : decode c_K_hasRoomForPort 5 = .ok (.ifCond .ne 12, 3) := by decide +kernel
theorem d_K_hasRoomForPort_8 : decode c_K_hasRoomForPort 8 = .ok (.aload_n 0, 1) := by decide +kernel
theorem d_K_hasRoomForPort_9 : decode c_K_hasRoomForPort 9 = .ok (.getfield 22, 3) := by decide +kernel
theorem d_K_hasRoomForPort_12 : decode c_K_hasRoomForPort 12 = .ok (.bipush 8, 2) := by decide +kernel
theorem d_K_hasRoomForPort_14 : decode c_K_hasRoomForPort 14 = .ok (.if_icmp .ge 7, 3) := by decide +kernel
theorem d_K_hasRoomForPort_17 : decode c_K_hasRoomForPort 17 = .ok (.iconst 1, 1) := by decide +kernel
theorem d_K_hasRoomForPort_18 : decode c_K_hasRoomForPort 18 = .ok (.goto 4, 3) := by decide +kernel
theorem d_K_hasRoomForPort_21 : decode c_K_hasRoomForPort 21 = .ok (.iconst 0, 1) := by decide +kernel
theorem d_K_hasRoomForPort_22 : decode c_K_hasRoomForPort 22 = .ok (.ireturn, 1) := by decide +kernel
theorem d_K_setPort_0 : decode c_K_setPort 0 = .ok (.aload_n 0, 1) := by decide +kernel
theorem d_K_setPort_1 : decode c_K_setPort 1 = .ok (.getfield 9, 3) := by decide +kernel
theorem d_K_setPort_4 : decode c_K_setPort 4 = .ok (.iload_n 1, 1) := by decide +kernel
theorem d_K_setPort_5 : decode c_K_setPort 5 = .ok (.iaload, 1) := by decide +kernel
theorem d_K_setPort_6 : decode c_K_setPort 6 = .ok (.istore_n 3, 1) := by decide +kernel
theorem d_K_setPort_7 : decode c_K_setPort 7 = .ok (.aload_n 0, 1) := by decide +kernel
theorem d_K_setPort_8 : decode c_K_setPort 8 = .ok (.getfield 9, 3) := by decide +kernel
theorem d_K_setPort_11 : decode c_K_setPort 11 = .ok (.iload_n 1, 1) := by decide +kernel
theorem d_K_setPort_12 : decode c_K_setPort 12 = .ok (.iload_n 2, 1) := by decide +kernel
theorem d_K_setPort_13 : decode c_K_setPort 13 = .ok (.iastore, 1) := by decide +kernel
theorem d_K_setPort_14 : decode c_K_setPort 14 = .ok (.iload_n 3, 1) := by decide +kernel
theorem d_K_setPort_15 : decode c_K_setPort 15 = .ok (.ifCond .ne 17, 3) := by decide +kernel
theorem d_K_setPort_18 : decode c_K_setPort 18 = .ok (.iload_n 2, 1) := by decide +kernel
theorem d_K_setPort_19 : decode c_K_setPort 19 = .ok (.ifCond .eq 13, 3) := by decide +kernel
theorem d_K_setPort_22 : decode c_K_setPort 22 = .ok (.aload_n 0, 1) := by decide +kernel
theorem d_K_setPort_23 : decode c_K_setPort 23 = .ok (.dup, 1) := by decide +kernel
theorem d_K_setPort_24 : decode c_K_setPort 24 = .ok (.getfield 22, 3) := by decide +kernel
theorem d_K_setPort_27 : decode c_K_setPort 27 = .ok (.iconst 1, 1) := by decide +kernel
theorem d_K_setPort_28 : decode c_K_setPort 28 = .ok (.iadd, 1) := by decide +kernel
theorem d_K_setPort_29 : decode c_K_setPort 29 = .ok (.putfield 22, 3) := by decide +kernel
theorem d_K_setPort_32 : decode c_K_setPort 32 = .ok (.iload_n 3, 1) := by decide +kernel
theorem d_K_setPort_33 : decode c_K_setPort 33 = .ok (.ifCond .eq 22, 3) := by decide +kernel
theorem d_K_setPort_36 : decode c_K_setPort 36 = .ok (.iload_n 2, 1) := by decide +kernel
theorem d_K_setPort_37 : decode c_K_setPort 37 = .ok (.ifCond .ne 18, 3) := by decide +kernel
theorem d_K_setPort_40 : decode c_K_setPort 40 = .ok (.aload_n 0, 1) := by decide +kernel
theorem d_K_setPort_41 : decode c_K_setPort 41 = .ok (.dup, 1) := by decide +kernel
theorem d_K_setPort_42 : decode c_K_setPort 42 = .ok (.getfield 22, 3) := by decide +kernel
theorem d_K_setPort_45 : decode c_K_setPort 45 = .ok (.iconst 1, 1) := by decide +kernel
theorem d_K_setPort_46 : decode c_K_setPort 46 = .ok (.isub, 1) := by decide +kernel
theorem d_K_setPort_47 : decode c_K_setPort 47 = .ok (.putfield 22, 3) := by decide +kernel
theorem d_K_setPort_50 : decode c_K_setPort 50 = .ok (.aload_n 0, 1) := by decide +kernel
theorem d_K_setPort_51 : decode c_K_setPort 51 = .ok (.iload_n 1, 1) := by decide +kernel
theorem d_K_setPort_52 : decode c_K_setPort 52 = .ok (.invokevirtual 26, 3) := by decide +kernel
theorem d_K_setPort_55 : decode c_K_setPort 55 = .ok (.iload_n 3, 1) := by decide +kernel
theorem d_K_setPort_56 : decode c_K_setPort 56 = .ok (.ireturn, 1) := by decide +kernel
theorem d_K_removeFriendsOn_0 : decode c_K_removeFriendsOn 0 = .ok (.aload_n 0, 1) := by decide +kernel
theorem d_K_removeFriendsOn_1 : decode c_K_removeFriendsOn 1 = .ok (.iload_n 1, 1) := by decide +kernel
theorem d_K_removeFriendsOn_2 : decode c_K_removeFriendsOn 2 = .ok (.iconst 0, 1) := by decide +kernel
theorem d_K_removeFriendsOn_3 : decode c_K_removeFriendsOn 3 = .ok (.invokestatic 37, 3) := by decide +kernel
theorem d_K_removeFriendsOn_6 : decode c_K_removeFriendsOn 6 = .ok (.iload_n 1, 1) := by decide +kernel
theorem d_K_removeFriendsOn_7 : decode c_K_removeFriendsOn 7 = .ok (.bipush 63, 2) := by decide +kernel
theorem d_K_removeFriendsOn_9 : decode c_K_removeFriendsOn 9 = .ok (.invokestatic 37, 3) := by decide +kernel
theorem d_K_removeFriendsOn_12 : decode c_K_removeFriendsOn 12 = .ok (.invokevirtual 33, 3) := by decide +kernel
theorem d_K_removeFriendsOn_15 : decode c_K_removeFriendsOn 15 = .ok (.return_, 1) := by decide +kernel
theorem d_K_removeFriendsFrom_0 : decode c_K_removeFriendsFrom 0 = .ok (.iconst 0, 1) := by decide +kernel
theorem d_K_removeFriendsFrom_1 : decode c_K_removeFriendsFrom 1 = .ok (.istore_n 3, 1) := by decide +kernel
theorem d_K_removeFriendsFrom_2 : decode c_K_removeFriendsFrom 2 = .ok (.iconst 0, 1) := by decide +kernel
theorem d_K_removeFriendsFrom_3 : decode c_K_removeFriendsFrom 3 = .ok (.istore 4, 2) := by decide +kernel
theorem d_K_removeFriendsFrom_5 : decode c_K_removeFriendsFrom 5 = .ok (.iload 4, 2) := by decide +kernel
theorem d_K_removeFriendsFrom_7 : decode c_K_removeFriendsFrom 7 = .ok (.aload_n 0, 1) := by decide +kernel
theorem d_K_removeFriendsFrom_8 : decode c_K_removeFriendsFrom 8 = .ok (.getfield 30, 3) := by decide +kernel
theorem d_K_removeFriendsFrom_11 : decode c_K_removeFriendsFrom 11 = .ok (.if_icmp .ge 41, 3) := by decide +kernel
theorem d_K_removeFriendsFrom_14 : decode c_K_removeFriendsFrom 14 = .ok (.aload_n 0, 1) := by decide +kernel
theorem d_K_removeFriendsFrom_15 : decode c_K_removeFriendsFrom 15 = .ok (.getfield 15, 3) := by decide +kernel
theorem d_K_removeFriendsFrom_18 : decode c_K_removeFriendsFrom 18 = .ok (.iload 4, 2) := by decide +kernel
theorem d_K_removeFriendsFrom_20 : decode c_K_removeFriendsFrom 20 = .ok (.iaload, 1) := by decide +kernel
theorem d_K_removeFriendsFrom_21 : decode c_K_removeFriendsFrom 21 = .ok (.istore 5, 2) := by decide +kernel
theorem d_K_removeFriendsFrom_23 : decode c_K_removeFriendsFrom 23 = .ok (.iload 5, 2) := by decide +kernel
theorem d_K_removeFriendsFrom_25 : decode c_K_removeFriendsFrom 25 = .ok (.iload_n 1, 1) := by decide +kernel
theorem d_K_removeFriendsFrom_26 : decode c_K_removeFriendsFrom 26 = .ok (.if_icmp .lt 9, 3) := by decide +kernel
theorem d_K_removeFriendsFrom_29 : decode c_K_removeFriendsFrom 29 = .ok (.iload 5, 2) := by decide +kernel
theorem d_K_removeFriendsFrom_31 : decode c_K_removeFriendsFrom 31 = .ok (.iload_n 2, 1) := by decide +kernel
theorem d_K_removeFriendsFrom_32 : decode c_K_removeFriendsFrom 32 = .ok (.if_icmp .le 14, 3) := by decide +kernel
theorem d_K_removeFriendsFrom_35 : decode c_K_removeFriendsFrom 35 = .ok (.aload_n 0, 1) := by decide +kernel
theorem d_K_removeFriendsFrom_36 : decode c_K_removeFriendsFrom 36 = .ok (.getfield 15, 3) := by decide +kernel
theorem d_K_removeFriendsFrom_39 : decode c_K_removeFriendsFrom 39 = .ok (.iload_n 3, 1) := by decide +kernel
theorem d_K_removeFriendsFrom_40 : decode c_K_removeFriendsFrom 40 = .ok (.iload 5, 2) := by decide +kernel
theorem d_K_removeFriendsFrom_42 : decode c_K_removeFriendsFrom 42 = .ok (.iastore, 1) := by decide +kernel
theorem d_K_removeFriendsFrom_43 : decode c_K_removeFriendsFrom 43 = .ok (.iinc 3 1, 3) := by decide +kernel
theorem d_K_removeFriendsFrom_46 : decode c_K_removeFriendsFrom 46 = .ok (.iinc 4 1, 3) := by decide +kernel
theorem d_K_removeFriendsFrom_49 : decode c_K_removeFriendsFrom 49 = .ok (.goto (-44), 3) := by decide +kernel
theorem d_K_removeFriendsFrom_52 : decode c_K_removeFriendsFrom 52 = .ok (.aload_n 0, 1) := by decide +kernel
theorem d_K_removeFriendsFrom_53 : decode c_K_removeFriendsFrom 53 = .ok (.iload_n 3, 1) := by decide +kernel
theorem d_K_removeFriendsFrom_54 : decode c_K_removeFriendsFrom 54 = .ok (.putfield 30, 3) := by decide +kernel
theorem d_K_removeFriendsFrom_57 : decode c_K_removeFriendsFrom 57 = .ok (.return_, 1) := by decide +kernel
theorem d_K_hasFriend_0 : decode c_K_hasFriend 0 = .ok (.iconst 0, 1) := by decide +kernel
theorem d_K_hasFriend_1 : decode c_K_hasFriend 1 = .ok (.istore_n 2, 1) := by decide +kernel
theorem d_K_hasFriend_2 : decode c_K_hasFriend 2 = .ok (.iload_n 2, 1) := by decide +kernel
theorem d_K_hasFriend_3 : decode c_K_hasFriend 3 = .ok (.aload_n 0, 1) := by decide +kernel
theorem d_K_hasFriend_4 : decode c_K_hasFriend 4 = .ok (.getfield 30, 3) := by decide +kernel
theorem d_K_hasFriend_7 : decode c_K_hasFriend 7 = .ok (.if_icmp .ge 21, 3) := by decide +kernel
theorem d_K_hasFriend_10 : decode c_K_hasFriend 10 = .ok (.aload_n 0, 1) := by decide +kernel
theorem d_K_hasFriend_11 : decode c_K_hasFriend 11 = .ok (.getfield 15, 3) := by decide +kernel
theorem d_K_hasFriend_14 : decode c_K_hasFriend 14 = .ok (.iload_n 2, 1) := by decide +kernel
theorem d_K_hasFriend_15 : decode c_K_hasFriend 15 = .ok (.iaload, 1) := by decide +kernel
theorem d_K_hasFriend_16 : decode c_K_hasFriend 16 = .ok (.iload_n 1, 1) := by decide +kernel
theorem d_K_hasFriend_17 : decode c_K_hasFriend 17 = .ok (.if_icmp .ne 5, 3) := by decide +kernel
theorem d_K_hasFriend_20 : decode c_K_hasFriend 20 = .ok (.iconst 1, 1) := by decide +kernel
theorem d_K_hasFriend_21 : decode c_K_hasFriend 21 = .ok (.ireturn, 1) := by decide +kernel
theorem d_K_hasFriend_22 : decode c_K_hasFriend 22 = .ok (.iinc 2 1, 3) := by decide +kernel
theorem d_K_hasFriend_25 : decode c_K_hasFriend 25 = .ok (.goto (-23), 3) := by decide +kernel
theorem d_K_hasFriend_28 : decode c_K_hasFriend 28 = .ok (.iconst 0, 1) := by decide +kernel
theorem d_K_hasFriend_29 : decode c_K_hasFriend 29 = .ok (.ireturn, 1) := by decide +kernel
theorem d_K_removeFriend_0 : decode c_K_removeFriend 0 = .ok (.aload_n 0, 1) := by decide +kernel
theorem d_K_removeFriend_1 : decode c_K_removeFriend 1 = .ok (.iload_n 1, 1) := by decide +kernel
theorem d_K_removeFriend_2 : decode c_K_removeFriend 2 = .ok (.iload_n 1, 1) := by decide +kernel
theorem d_K_removeFriend_3 : decode c_K_removeFriend 3 = .ok (.invokevirtual 33, 3) := by decide +kernel
theorem d_K_removeFriend_6 : decode c_K_removeFriend 6 = .ok (.return_, 1) := by decide +kernel
theorem d_K_hasRoomForFriend_0 : decode c_K_hasRoomForFriend 0 = .ok (.aload_n 0, 1) := by decide +kernel
theorem d_K_hasRoomForFriend_1 : decode c_K_hasRoomForFriend 1 = .ok (.getfield 30, 3) := by decide +kernel
theorem d_K_hasRoomForFriend_4 : decode c_K_hasRoomForFriend 4 = .ok (.bipush 16, 2) := by decide +kernel
theorem d_K_hasRoomForFriend_6 : decode c_K_hasRoomForFriend 6 = .ok (.if_icmp .ge 7, 3) := by decide +kernel
theorem d_K_hasRoomForFriend_9 : decode c_K_hasRoomForFriend 9 = .ok (.iconst 1, 1) := by decide +kernel
theorem d_K_hasRoomForFriend_10 : decode c_K_hasRoomForFriend 10 = .ok (.goto 4, 3) := by decide +kernel
theorem d_K_hasRoomForFriend_13 : decode c_K_hasRoomForFriend 13 = .ok (.iconst 0, 1) := by decide +kernel
theorem d_K_hasRoomForFriend_14 : decode c_K_hasRoomForFriend 14 = .ok (.ireturn, 1) := by decide +kernel
theorem d_K_addFriend_0 : decode c_K_addFriend 0 = .ok (.aload_n 0, 1) := by decide +kernel
theorem d_K_addFriend_1 : decode c_K_addFriend 1 = .ok (.getfield 30, 3) := by decide +kernel
theorem d_K_addFriend_4 : decode c_K_addFriend 4 = .ok (.istore_n 2, 1) := by decide +kernel
theorem d_K_addFriend_5 : decode c_K_addFriend 5 = .ok (.iload_n 2, 1) := by decide +kernel
theorem d_K_addFriend_6 : decode c_K_addFriend 6 = .ok (.ifCond .le 35, 3) := by decide +kernel
theorem d_K_addFriend_9 : decode c_K_addFriend 9 = .ok (.aload_n 0, 1) := by decide +kernel
theorem d_K_addFriend_10 : decode c_K_addFriend 10 = .ok (.getfield 15, 3) := by decide +kernel
theorem d_K_addFriend_13 : decode c_K_addFriend 13 = .ok (.iload_n 2, 1) := by decide +kernel
theorem d_K_addFriend_14 : decode c_K_addFriend 14 = .ok (.iconst 1, 1) := by decide +kernel
theorem d_K_addFriend_15 : decode c_K_addFriend 15 = .ok (.isub, 1) := by decide +kernel
theorem d_K_addFriend_16 : decode c_K_addFriend 16 = .ok (.iaload, 1) := by decide +kernel
theorem d_K_addFriend_17 : decode c_K_addFriend 17 = .ok (.iload_n 1, 1) := by decide +kernel
theorem d_K_addFriend_18 : decode c_K_addFriend 18 = .ok (.if_icmp .le 23, 3) := by decide +kernel
theorem d_K_addFriend_21 : decode c_K_addFriend 21 = .ok (.aload_n 0, 1) := by decide +kernel
theorem d_K_addFriend_22 : decode c_K_addFriend 22 = .ok (.getfield 15, 3) := by decide +kernel
theorem d_K_addFriend_25 : decode c_K_addFriend 25 = .ok (.iload_n 2, 1) := by decide +kernel
theorem d_K_addFriend_26 : decode c_K_addFriend 26 = .ok (.aload_n 0, 1) := by decide +kernel
theorem d_K_addFriend_27 : decode c_K_addFriend 27 = .ok (.getfield 15, 3) := by decide +kernel
theorem d_K_addFriend_30 : decode c_K_addFriend 30 = .ok (.iload_n 2, 1) := by decide +kernel
theorem d_K_addFriend_31 : decode c_K_addFriend 31 = .ok (.iconst 1, 1) := by decide +kernel
theorem d_K_addFriend_32 : decode c_K_addFriend 32 = .ok (.isub, 1) := by decide +kernel
theorem d_K_addFriend_33 : decode c_K_addFriend 33 = .ok (.iaload, 1) := by decide +kernel
theorem d_K_addFriend_34 : decode c_K_addFriend 34 = .ok (.iastore, 1) := by decide +kernel
theorem d_K_addFriend_35 : decode c_K_addFriend 35 = .ok (.iinc 2 (-1), 3) := by decide +kernel
theorem d_K_addFriend_38 : decode c_K_addFriend 38 = .ok (.goto (-33), 3) := by decide +kernel
theorem d_K_addFriend_41 : decode c_K_addFriend 41 = .ok (.aload_n 0, 1) := by decide +kernel
theorem d_K_addFriend_42 : decode c_K_addFriend 42 = .ok (.getfield 15, 3) := by decide +kernel
theorem d_K_addFriend_45 : decode c_K_addFriend 45 = .ok (.iload_n 2, 1) := by decide +kernel
theorem d_K_addFriend_46 : decode c_K_addFriend 46 = .ok (.iload_n 1, 1) := by decide +kernel
theorem d_K_addFriend_47 : decode c_K_addFriend 47 = .ok (.iastore, 1) := by decide +kernel
theorem d_K_addFriend_48 : decode c_K_addFriend 48 = .ok (.aload_n 0, 1) := by decide +kernel
theorem d_K_addFriend_49 : decode c_K_addFriend 49 = .ok (.dup, 1) := by decide +kernel
theorem d_K_addFriend_50 : decode c_K_addFriend 50 = .ok (.getfield 30, 3) := by decide +kernel
theorem d_K_addFriend_53 : decode c_K_addFriend 53 = .ok (.iconst 1, 1) := by decide +kernel
theorem d_K_addFriend_54 : decode c_K_addFriend 54 = .ok (.iadd, 1) := by decide +kernel
theorem d_K_addFriend_55 : decode c_K_addFriend 55 = .ok (.putfield 30, 3) := by decide +kernel
theorem d_K_addFriend_58 : decode c_K_addFriend 58 = .ok (.return_, 1) := by decide +kernel
theorem d_Y_init_0 : decode c_Y_init 0 = .ok (.aload_n 0, 1) := by decide +kernel
theorem d_Y_init_1 : decode c_Y_init 1 = .ok (.invokespecial 3, 3) := by decide +kernel
theorem d_Y_init_4 : decode c_Y_init 4 = .ok (.aload_n 0, 1) := by decide +kernel
theorem d_Y_init_5 : decode c_Y_init 5 = .ok (.bipush 64, 2) := by decide +kernel
theorem d_Y_init_7 : decode c_Y_init 7 = .ok (.newarray .int, 2) := by decide +kernel
theorem d_Y_init_9 : decode c_Y_init 9 = .ok (.putfield 9, 3) := by decide +kernel
theorem d_Y_init_12 : decode c_Y_init 12 = .ok (.aload_n 0, 1) := by decide +kernel
theorem d_Y_init_13 : decode c_Y_init 13 = .ok (.bipush 64, 2) := by decide +kernel
theorem d_Y_init_15 : decode c_Y_init 15 = .ok (.newarray .int, 2) := by decide +kernel
theorem d_Y_init_17 : decode c_Y_init 17 = .ok (.putfield 15, 3) := by decide +kernel
theorem d_Y_init_20 : decode c_Y_init 20 = .ok (.aload_n 0, 1) := by decide +kernel
theorem d_Y_init_21 : decode c_Y_init 21 = .ok (.bipush 64, 2) := by decide +kernel
theorem d_Y_init_23 : decode c_Y_init 23 = .ok (.newarray .boolean, 2) := by decide +kernel
theorem d_Y_init_25 : decode c_Y_init 25 = .ok (.putfield 18, 3) := by decide +kernel
theorem d_Y_init_28 : decode c_Y_init 28 = .ok (.aload_n 0, 1) := by decide +kernel
theorem d_Y_init_29 : decode c_Y_init 29 = .ok (.aload_n 1, 1) := by decide +kernel
theorem d_Y_init_30 : decode c_Y_init 30 = .ok (.putfield 22, 3) := by decide +kernel
theorem d_Y_init_33 : decode c_Y_init 33 = .ok (.aload_n 0, 1) := by decide +kernel
theorem d_Y_init_34 : decode c_Y_init 34 = .ok (.iload_n 2, 1) := by decide +kernel
theorem d_Y_init_35 : decode c_Y_init 35 = .ok (.putfield 26, 3) := by decide +kernel
theorem d_Y_init_38 : decode c_Y_init 38 = .ok (.return_, 1) := by decide +kernel
theorem d_Y_forget_0 : decode c_Y_forget 0 = .ok (.aload_n 0, 1) := by decide +kernel
theorem d_Y_forget_1 : decode c_Y_forget 1 = .ok (.iconst 0, 1) := by decide +kernel
theorem d_Y_forget_2 : decode c_Y_forget 2 = .ok (.putfield 30, 3) := by decide +kernel
theorem d_Y_forget_5 : decode c_Y_forget 5 = .ok (.return_, 1) := by decide +kernel
theorem d_Y_refresh_0 : decode c_Y_refresh 0 = .ok (.aload_n 0, 1) := by decide +kernel
theorem d_Y_refresh_1 : decode c_Y_refresh 1 = .ok (.getfield 30, 3) := by decide +kernel
theorem d_Y_refresh_4 : decode c_Y_refresh 4 = .ok (.ifCond .eq 4, 3) := by decide +kernel
theorem d_Y_refresh_7 : decode c_Y_refresh 7 = .ok (.return_, 1) := by decide +kernel
theorem d_Y_refresh_8 : decode c_Y_refresh 8 = .ok (.aload_n 0, 1) := by decide +kernel
theorem d_Y_refresh_9 : decode c_Y_refresh 9 = .ok (.iconst 1, 1) := by decide +kernel
theorem d_Y_refresh_10 : decode c_Y_refresh 10 = .ok (.putfield 30, 3) := by decide +kernel
theorem d_Y_refresh_13 : decode c_Y_refresh 13 = .ok (.aload_n 0, 1) := by decide +kernel
theorem d_Y_refresh_14 : decode c_Y_refresh 14 = .ok (.invokevirtual 34, 3) := by decide +kernel
theorem d_Y_refresh_17 : decode c_Y_refresh 17 = .ok (.iconst 0, 1) := by decide +kernel
theorem d_Y_refresh_18 : decode c_Y_refresh 18 = .ok (.istore_n 1, 1) := by decide +kernel
theorem d_Y_refresh_19 : decode c_Y_refresh 19 = .ok (.iload_n 1, 1) := by decide +kernel
theorem d_Y_refresh_20 : decode c_Y_refresh 20 = .ok (.bipush 64, 2) := by decide +kernel
theorem d_Y_refresh_22 : decode c_Y_refresh 22 = .ok (.if_icmp .ge 32, 3) := by decide +kernel
theorem d_Y_refresh_25 : decode c_Y_refresh 25 = .ok (.aload_n 0, 1) := by decide +kernel
theorem d_Y_refresh_26 : decode c_Y_refresh 26 = .ok (.invokevirtual 37, 3) := by decide +kernel
theorem d_Y_refresh_29 : decode c_Y_refresh 29 = .ok (.istore_n 2, 1) := by decide +kernel
theorem d_Y_refresh_30 : decode c_Y_refresh 30 = .ok (.iload_n 2, 1) := by decide +kernel
theorem d_Y_refresh_31 : decode c_Y_refresh 31 = .ok (.iconst (-1), 1) := by decide +kernel
theorem d_Y_refresh_32 : decode c_Y_refresh 32 = .ok (.if_icmp .ne 4, 3) := by decide +kernel
theorem d_Y_refresh_35 : decode c_Y_refresh 35 = .ok (.return_, 1) := by decide +kernel
theorem d_Y_refresh_36 : decode c_Y_refresh 36 = .ok (.aload_n 0, 1) := by decide +kernel
theorem d_Y_refresh_37 : decode c_Y_refresh 37 = .ok (.getfield 18, 3) := by decide +kernel
theorem d_Y_refresh_40 : decode c_Y_refresh 40 = .ok (.iload_n 2, 1) := by decide +kernel
theorem d_Y_refresh_41 : decode c_Y_refresh 41 = .ok (.iconst 1, 1) := by decide +kernel
theorem d_Y_refresh_42 : decode c_Y_refresh 42 = .ok (.bastore, 1) := by decide +kernel
theorem d_Y_refresh_43 : decode c_Y_refresh 43 = .ok (.aload_n 0, 1) := by decide +kernel
theorem d_Y_refresh_44 : decode c_Y_refresh 44 = .ok (.iload_n 2, 1) := by decide +kernel
theorem d_Y_refresh_45 : decode c_Y_refresh 45 = .ok (.invokevirtual 41, 3) := by decide +kernel
theorem d_Y_refresh_48 : decode c_Y_refresh 48 = .ok (.iinc 1 1, 3) := by decide +kernel
theorem d_Y_refresh_51 : decode c_Y_refresh 51 = .ok (.goto (-32), 3) := by decide +kernel
theorem d_Y_refresh_54 : decode c_Y_refresh 54 = .ok (.return_, 1) := by decide +kernel
theorem d_Y_beginAnew_0 : decode c_Y_beginAnew 0 = .ok (.iconst 0, 1) := by decide +kernel
theorem d_Y_beginAnew_1 : decode c_Y_beginAnew 1 = .ok (.istore_n 1, 1) := by decide +kernel
theorem d_Y_beginAnew_2 : decode c_Y_beginAnew 2 = .ok (.iload_n 1, 1) := by decide +kernel
theorem d_Y_beginAnew_3 : decode c_Y_beginAnew 3 = .ok (.bipush 64, 2) := by decide +kernel
theorem d_Y_beginAnew_5 : decode c_Y_beginAnew 5 = .ok (.if_icmp .ge 30, 3) := by decide +kernel
theorem d_Y_beginAnew_8 : decode c_Y_beginAnew 8 = .ok (.aload_n 0, 1) := by decide +kernel
theorem d_Y_beginAnew_9 : decode c_Y_beginAnew 9 = .ok (.getfield 9, 3) := by decide +kernel
theorem d_Y_beginAnew_12 : decode c_Y_beginAnew 12 = .ok (.iload_n 1, 1) := by decide +kernel
theorem d_Y_beginAnew_13 : decode c_Y_beginAnew 13 = .ok (.iconst (-1), 1) := by decide +kernel
theorem d_Y_beginAnew_14 : decode c_Y_beginAnew 14 = .ok (.iastore, 1) := by decide +kernel
theorem d_Y_beginAnew_15 : decode c_Y_beginAnew 15 = .ok (.aload_n 0, 1) := by decide +kernel
theorem d_Y_beginAnew_16 : decode c_Y_beginAnew 16 = .ok (.getfield 15, 3) := by decide +kernel
theorem d_Y_beginAnew_19 : decode c_Y_beginAnew 19 = .ok (.iload_n 1, 1) := by decide +kernel
theorem d_Y_beginAnew_20 : decode c_Y_beginAnew 20 = .ok (.iconst 0, 1) := by decide +kernel
theorem d_Y_beginAnew_21 : decode c_Y_beginAnew 21 = .ok (.iastore, 1) := by decide +kernel
theorem d_Y_beginAnew_22 : decode c_Y_beginAnew 22 = .ok (.aload_n 0, 1) := by decide +kernel
theorem d_Y_beginAnew_23 : decode c_Y_beginAnew 23 = .ok (.getfield 18, 3) := by decide +kernel
theorem d_Y_beginAnew_26 : decode c_Y_beginAnew 26 = .ok (.iload_n 1, 1) := by decide +kernel
theorem d_Y_beginAnew_27 : decode c_Y_beginAnew 27 = .ok (.iconst 0, 1) := by decide +kernel
theorem d_Y_beginAnew_28 : decode c_Y_beginAnew 28 = .ok (.bastore, 1) := by decide +kernel
theorem d_Y_beginAnew_29 : decode c_Y_beginAnew 29 = .ok (.iinc 1 1, 3) := by decide +kernel
theorem d_Y_beginAnew_32 : decode c_Y_beginAnew 32 = .ok (.goto (-30), 3) := by decide +kernel
theorem d_Y_beginAnew_35 : decode c_Y_beginAnew 35 = .ok (.aload_n 0, 1) := by decide +kernel
theorem d_Y_beginAnew_36 : decode c_Y_beginAnew 36 = .ok (.getfield 9, 3) := by decide +kernel
theorem d_Y_beginAnew_39 : decode c_Y_beginAnew 39 = .ok (.aload_n 0, 1) := by decide +kernel
theorem d_Y_beginAnew_40 : decode c_Y_beginAnew 40 = .ok (.getfield 26, 3) := by decide +kernel
theorem d_Y_beginAnew_43 : decode c_Y_beginAnew 43 = .ok (.iconst 0, 1) := by decide +kernel
theorem d_Y_beginAnew_44 : decode c_Y_beginAnew 44 = .ok (.iastore, 1) := by decide +kernel
theorem d_Y_beginAnew_45 : decode c_Y_beginAnew 45 = .ok (.return_, 1) := by decide +kernel
theorem d_Y_nearestUnsettled_0 : decode c_Y_nearestUnsettled 0 = .ok (.iconst (-1), 1) := by decide +kernel
theorem d_Y_nearestUnsettled_1 : decode c_Y_nearestUnsettled 1 = .ok (.istore_n 1, 1) := by decide +kernel
theorem d_Y_nearestUnsettled_2 : decode c_Y_nearestUnsettled 2 = .ok (.iconst 0, 1) := by decide +kernel
theorem d_Y_nearestUnsettled_3 : decode c_Y_nearestUnsettled 3 = .ok (.istore_n 2, 1) := by decide +kernel
theorem d_Y_nearestUnsettled_4 : decode c_Y_nearestUnsettled 4 = .ok (.iload_n 2, 1) := by decide +kernel
theorem d_Y_nearestUnsettled_5 : decode c_Y_nearestUnsettled 5 = .ok (.bipush 64, 2) := by decide +kernel
theorem d_Y_nearestUnsettled_7 : decode c_Y_nearestUnsettled 7 = .ok (.if_icmp .ge 53, 3) := by decide +kernel
theorem d_Y_nearestUnsettled_10 : decode c_Y_nearestUnsettled 10 = .ok (.aload_n 0, 1) := by decide +kernel
theorem d_Y_nearestUnsettled_11 : decode c_Y_nearestUnsettled 11 = .ok (.getfield 18, 3) := by decide +kernel
theorem d_Y_nearestUnsettled_14 : decode c_Y_nearestUnsettled 14 = .ok (.iload_n 2, 1) := by decide +kernel
theorem d_Y_nearestUnsettled_15 : decode c_Y_nearestUnsettled 15 = .ok (.baload, 1) := by decide +kernel
theorem d_Y_nearestUnsettled_16 : decode c_Y_nearestUnsettled 16 = .ok (.ifCond .ne 38, 3) := by decide +kernel
theorem d_Y_nearestUnsettled_19 : decode c_Y_nearestUnsettled 19 = .ok (.aload_n 0, 1) := by decide +kernel
theorem d_Y_nearestUnsettled_20 : decode c_Y_nearestUnsettled 20 = .ok (.getfield 9, 3) := by decide +kernel
theorem d_Y_nearestUnsettled_23 : decode c_Y_nearestUnsettled 23 = .ok (.iload_n 2, 1) := by decide +kernel
theorem d_Y_nearestUnsettled_24 : decode c_Y_nearestUnsettled 24 = .ok (.iaload, 1) := by decide +kernel
theorem d_Y_nearestUnsettled_25 : decode c_Y_nearestUnsettled 25 = .ok (.iconst (-1), 1) := by decide +kernel
theorem d_Y_nearestUnsettled_26 : decode c_Y_nearestUnsettled 26 = .ok (.if_icmp .ne 6, 3) := by decide +kernel
theorem d_Y_nearestUnsettled_29 : decode c_Y_nearestUnsettled 29 = .ok (.goto 25, 3) := by decide +kernel
theorem d_Y_nearestUnsettled_32 : decode c_Y_nearestUnsettled 32 = .ok (.iload_n 1, 1) := by decide +kernel
theorem d_Y_nearestUnsettled_33 : decode c_Y_nearestUnsettled 33 = .ok (.iconst (-1), 1) := by decide +kernel
theorem d_Y_nearestUnsettled_34 : decode c_Y_nearestUnsettled 34 = .ok (.if_icmp .eq 18, 3) := by decide +kernel
theorem d_Y_nearestUnsettled_37 : decode c_Y_nearestUnsettled 37 = .ok (.aload_n 0, 1) := by decide +kernel
theorem d_Y_nearestUnsettled_38 : decode c_Y_nearestUnsettled 38 = .ok (.getfield 9, 3) := by decide +kernel
theorem d_Y_nearestUnsettled_41 : decode c_Y_nearestUnsettled 41 = .ok (.iload_n 2, 1) := by decide +kernel
theorem d_Y_nearestUnsettled_42 : decode c_Y_nearestUnsettled 42 = .ok (.iaload, 1) := by decide +kernel
theorem d_Y_nearestUnsettled_43 : decode c_Y_nearestUnsettled 43 = .ok (.aload_n 0, 1) := by decide +kernel
theorem d_Y_nearestUnsettled_44 : decode c_Y_nearestUnsettled 44 = .ok (.getfield 9, 3) := by decide +kernel
theorem d_Y_nearestUnsettled_47 : decode c_Y_nearestUnsettled 47 = .ok (.iload_n 1, 1) := by decide +kernel
theorem d_Y_nearestUnsettled_48 : decode c_Y_nearestUnsettled 48 = .ok (.iaload, 1) := by decide +kernel
theorem d_Y_nearestUnsettled_49 : decode c_Y_nearestUnsettled 49 = .ok (.if_icmp .ge 5, 3) := by decide +kernel
theorem d_Y_nearestUnsettled_52 : decode c_Y_nearestUnsettled 52 = .ok (.iload_n 2, 1) := by decide +kernel
theorem d_Y_nearestUnsettled_53 : decode c_Y_nearestUnsettled 53 = .ok (.istore_n 1, 1) := by decide +kernel
theorem d_Y_nearestUnsettled_54 : decode c_Y_nearestUnsettled 54 = .ok (.iinc 2 1, 3) := by decide +kernel
theorem d_Y_nearestUnsettled_57 : decode c_Y_nearestUnsettled 57 = .ok (.goto (-53), 3) := by decide +kernel
theorem d_Y_nearestUnsettled_60 : decode c_Y_nearestUnsettled 60 = .ok (.iload_n 1, 1) := by decide +kernel
theorem d_Y_nearestUnsettled_61 : decode c_Y_nearestUnsettled 61 = .ok (.ireturn, 1) := by decide +kernel
theorem d_Y_goOnFrom_0 : decode c_Y_goOnFrom 0 = .ok (.iconst 0, 1) := by decide +kernel
theorem d_Y_goOnFrom_1 : decode c_Y_goOnFrom 1 = .ok (.istore_n 2, 1) := by decide +kernel
theorem d_Y_goOnFrom_2 : decode c_Y_goOnFrom 2 = .ok (.iload_n 2, 1) := by decide +kernel
theorem d_Y_goOnFrom_3 : decode c_Y_goOnFrom 3 = .ok (.aload_n 0, 1) := by decide +kernel
theorem d_Y_goOnFrom_4 : decode c_Y_goOnFrom 4 = .ok (.getfield 22, 3) := by decide +kernel
theorem d_Y_goOnFrom_7 : decode c_Y_goOnFrom 7 = .ok (.getfield 45, 3) := by decide +kernel
theorem d_Y_goOnFrom_10 : decode c_Y_goOnFrom 10 = .ok (.iload_n 1, 1) := by decide +kernel
theorem d_Y_goOnFrom_11 : decode c_Y_goOnFrom 11 = .ok (.iaload, 1) := by decide +kernel
theorem d_Y_goOnFrom_12 : decode c_Y_goOnFrom 12 = .ok (.if_icmp .ge 100, 3) := by decide +kernel
theorem d_Y_goOnFrom_15 : decode c_Y_goOnFrom 15 = .ok (.iload_n 1, 1) := by decide +kernel
theorem d_Y_goOnFrom_16 : decode c_Y_goOnFrom 16 = .ok (.iload_n 2, 1) := by decide +kernel
theorem d_Y_goOnFrom_17 : decode c_Y_goOnFrom 17 = .ok (.invokestatic 50, 3) := by decide +kernel
theorem d_Y_goOnFrom_20 : decode c_Y_goOnFrom 20 = .ok (.istore_n 3, 1) := by decide +kernel
theorem d_Y_goOnFrom_21 : decode c_Y_goOnFrom 21 = .ok (.aload_n 0, 1) := by decide +kernel
theorem d_Y_goOnFrom_22 : decode c_Y_goOnFrom 22 = .ok (.getfield 22, 3) := by decide +kernel
theorem d_Y_goOnFrom_25 : decode c_Y_goOnFrom 25 = .ok (.getfield 54, 3) := by decide +kernel
theorem d_Y_goOnFrom_28 : decode c_Y_goOnFrom 28 = .ok (.iload_n 3, 1) := by decide +kernel
theorem d_Y_goOnFrom_29 : decode c_Y_goOnFrom 29 = .ok (.iaload, 1) := by decide +kernel
theorem d_Y_goOnFrom_30 : decode c_Y_goOnFrom 30 = .ok (.istore 4, 2) := by decide +kernel
theorem d_Y_goOnFrom_32 : decode c_Y_goOnFrom 32 = .ok (.iload 4, 2) := by decide +kernel
theorem d_Y_goOnFrom_34 : decode c_Y_goOnFrom 34 = .ok (.iconst (-1), 1) := by decide +kernel
theorem d_Y_goOnFrom_35 : decode c_Y_goOnFrom 35 = .ok (.if_icmp .eq 71, 3) := by decide +kernel
theorem d_Y_goOnFrom_38 : decode c_Y_goOnFrom 38 = .ok (.aload_n 0, 1) := by decide +kernel
theorem d_Y_goOnFrom_39 : decode c_Y_goOnFrom 39 = .ok (.getfield 22, 3) := by decide +kernel
theorem d_Y_goOnFrom_42 : decode c_Y_goOnFrom 42 = .ok (.iload 4, 2) := by decide +kernel
theorem d_Y_goOnFrom_44 : decode c_Y_goOnFrom 44 = .ok (.iload_n 1, 1) := by decide +kernel
theorem d_Y_goOnFrom_45 : decode c_Y_goOnFrom 45 = .ok (.aload_n 0, 1) := by decide +kernel
theorem d_Y_goOnFrom_46 : decode c_Y_goOnFrom 46 = .ok (.getfield 22, 3) := by decide +kernel
theorem d_Y_goOnFrom_49 : decode c_Y_goOnFrom 49 = .ok (.getfield 57, 3) := by decide +kernel
theorem d_Y_goOnFrom_52 : decode c_Y_goOnFrom 52 = .ok (.iload_n 3, 1) := by decide +kernel
theorem d_Y_goOnFrom_53 : decode c_Y_goOnFrom 53 = .ok (.iaload, 1) := by decide +kernel
theorem d_Y_goOnFrom_54 : decode c_Y_goOnFrom 54 = .ok (.invokevirtual 60, 3) := by decide +kernel
theorem d_Y_goOnFrom_57 : decode c_Y_goOnFrom 57 = .ok (.ifCond .eq 49, 3) := by decide +kernel
theorem d_Y_goOnFrom_60 : decode c_Y_goOnFrom 60 = .ok (.iload_n 1, 1) := by decide +kernel
theorem d_Y_goOnFrom_61 : decode c_Y_goOnFrom 61 = .ok (.aload_n 0, 1) := by decide +kernel
theorem d_Y_goOnFrom_62 : decode c_Y_goOnFrom 62 = .ok (.getfield 26, 3) := by decide +kernel
theorem d_Y_goOnFrom_65 : decode c_Y_goOnFrom 65 = .ok (.if_icmp .ne 9, 3) := by decide +kernel
theorem d_Y_goOnFrom_68 : decode c_Y_goOnFrom 68 = .ok (.iconst 1, 1) := by decide +kernel
theorem d_Y_goOnFrom_69 : decode c_Y_goOnFrom 69 = .ok (.iload_n 2, 1) := by decide +kernel
theorem d_Y_goOnFrom_70 : decode c_Y_goOnFrom 70 = .ok (.ishl, 1) := by decide +kernel
theorem d_Y_goOnFrom_71 : decode c_Y_goOnFrom 71 = .ok (.goto 9, 3) := by decide +kernel
theorem d_Y_goOnFrom_74 : decode c_Y_goOnFrom 74 = .ok (.aload_n 0, 1) := by decide +kernel
theorem d_Y_goOnFrom_75 : decode c_Y_goOnFrom 75 = .ok (.getfield 15, 3) := by decide +kernel
theorem d_Y_goOnFrom_78 : decode c_Y_goOnFrom 78 = .ok (.iload_n 1, 1) := by decide +kernel
theorem d_Y_goOnFrom_79 : decode c_Y_goOnFrom 79 = .ok (.iaload, 1) := by decide +kernel
theorem d_Y_goOnFrom_80 : decode c_Y_goOnFrom 80 = .ok (.istore 5, 2) := by decide +kernel
theorem d_Y_goOnFrom_82 : decode c_Y_goOnFrom 82 = .ok (.aload_n 0, 1) := by decide +kernel
theorem d_Y_goOnFrom_83 : decode c_Y_goOnFrom 83 = .ok (.iload 4, 2) := by decide +kernel
theorem d_Y_goOnFrom_85 : decode c_Y_goOnFrom 85 = .ok (.aload_n 0, 1) := by decide +kernel
theorem d_Y_goOnFrom_86 : decode c_Y_goOnFrom 86 = .ok (.getfield 9, 3) := by decide +kernel
theorem d_Y_goOnFrom_89 : decode c_Y_goOnFrom 89 = .ok (.iload_n 1, 1) := by decide +kernel
theorem d_Y_goOnFrom_90 : decode c_Y_goOnFrom 90 = .ok (.iaload, 1) := by decide +kernel
theorem d_Y_goOnFrom_91 : decode c_Y_goOnFrom 91 = .ok (.aload_n 0, 1) := by decide +kernel
theorem d_Y_goOnFrom_92 : decode c_Y_goOnFrom 92 = .ok (.getfield 22, 3) := by decide +kernel
theorem d_Y_goOnFrom_95 : decode c_Y_goOnFrom 95 = .ok (.getfield 64, 3) := by decide +kernel
theorem d_Y_goOnFrom_98 : decode c_Y_goOnFrom 98 = .ok (.iload_n 3, 1) := by decide +kernel
theorem d_Y_goOnFrom_99 : decode c_Y_goOnFrom 99 = .ok (.iaload, 1) := by decide +kernel
theorem d_Y_goOnFrom_100 : decode c_Y_goOnFrom 100 = .ok (.iadd, 1) := by decide +kernel
theorem d_Y_goOnFrom_101 : decode c_Y_goOnFrom 101 = .ok (.iload 5, 2) := by decide +kernel
theorem d_Y_goOnFrom_103 : decode c_Y_goOnFrom 103 = .ok (.invokevirtual 67, 3) := by decide +kernel
theorem d_Y_goOnFrom_106 : decode c_Y_goOnFrom 106 = .ok (.iinc 2 1, 3) := by decide +kernel
theorem d_Y_goOnFrom_109 : decode c_Y_goOnFrom 109 = .ok (.goto (-107), 3) := by decide +kernel
theorem d_Y_goOnFrom_112 : decode c_Y_goOnFrom 112 = .ok (.return_, 1) := by decide +kernel
theorem d_Y_reach_0 : decode c_Y_reach 0 = .ok (.aload_n 0, 1) := by decide +kernel
theorem d_Y_reach_1 : decode c_Y_reach 1 = .ok (.getfield 9, 3) := by decide +kernel
theorem d_Y_reach_4 : decode c_Y_reach 4 = .ok (.iload_n 1, 1) := by decide +kernel
theorem d_Y_reach_5 : decode c_Y_reach 5 = .ok (.iaload, 1) := by decide +kernel
theorem d_Y_reach_6 : decode c_Y_reach 6 = .ok (.iconst (-1), 1) := by decide +kernel
theorem d_Y_reach_7 : decode c_Y_reach 7 = .ok (.if_icmp .eq 13, 3) := by decide +kernel
theorem d_Y_reach_10 : decode c_Y_reach 10 = .ok (.iload_n 2, 1) := by decide +kernel
theorem d_Y_reach_11 : decode c_Y_reach 11 = .ok (.aload_n 0, 1) := by decide +kernel
theorem d_Y_reach_12 : decode c_Y_reach 12 = .ok (.getfield 9, 3) := by decide +kernel
theorem d_Y_reach_15 : decode c_Y_reach 15 = .ok (.iload_n 1, 1) := by decide +kernel
theorem d_Y_reach_16 : decode c_Y_reach 16 = .ok (.iaload, 1) := by decide +kernel
theorem d_Y_reach_17 : decode c_Y_reach 17 = .ok (.if_icmp .ge 20, 3) := by decide +kernel
theorem d_Y_reach_20 : decode c_Y_reach 20 = .ok (.aload_n 0, 1) := by decide +kernel
theorem d_Y_reach_21 : decode c_Y_reach 21 = .ok (.getfield 9, 3) := by decide +kernel
theorem d_Y_reach_24 : decode c_Y_reach 24 = .ok (.iload_n 1, 1) := by decide +kernel
theorem d_Y_reach_25 : decode c_Y_reach 25 = .ok (.iload_n 2, 1) := by decide +kernel
theorem d_Y_reach_26 : decode c_Y_reach 26 = .ok (.iastore, 1) := by decide +kernel
theorem d_Y_reach_27 : decode c_Y_reach 27 = .ok (.aload_n 0, 1) := by decide +kernel
theorem d_Y_reach_28 : decode c_Y_reach 28 = .ok (.getfield 15, 3) := by decide +kernel
theorem d_Y_reach_31 : decode c_Y_reach 31 = .ok (.iload_n 1, 1) := by decide +kernel
theorem d_Y_reach_32 : decode c_Y_reach 32 = .ok (.iload_n 3, 1) := by decide +kernel
theorem d_Y_reach_33 : decode c_Y_reach 33 = .ok (.iastore, 1) := by decide +kernel
theorem d_Y_reach_34 : decode c_Y_reach 34 = .ok (.goto 23, 3) := by decide +kernel
theorem d_Y_reach_37 : decode c_Y_reach 37 = .ok (.iload_n 2, 1) := by decide +kernel
theorem d_Y_reach_38 : decode c_Y_reach 38 = .ok (.aload_n 0, 1) := by decide +kernel
theorem d_Y_reach_39 : decode c_Y_reach 39 = .ok (.getfield 9, 3) := by decide +kernel
theorem d_Y_reach_42 : decode c_Y_reach 42 = .ok (.iload_n 1, 1) := by decide +kernel
theorem d_Y_reach_43 : decode c_Y_reach 43 = .ok (.iaload, 1) := by decide +kernel
theorem d_Y_reach_44 : decode c_Y_reach 44 = .ok (.if_icmp .ne 13, 3) := by decide +kernel
theorem d_Y_reach_47 : decode c_Y_reach 47 = .ok (.aload_n 0, 1) := by decide +kernel
theorem d_Y_reach_48 : decode c_Y_reach 48 = .ok (.getfield 15, 3) := by decide +kernel
theorem d_Y_reach_51 : decode c_Y_reach 51 = .ok (.iload_n 1, 1) := by decide +kernel
theorem d_Y_reach_52 : decode c_Y_reach 52 = .ok (.dup2, 1) := by decide +kernel
theorem d_Y_reach_53 : decode c_Y_reach 53 = .ok (.iaload, 1) := by decide +kernel
theorem d_Y_reach_54 : decode c_Y_reach 54 = .ok (.iload_n 3, 1) := by decide +kernel
theorem d_Y_reach_55 : decode c_Y_reach 55 = .ok (.ior, 1) := by decide +kernel
theorem d_Y_reach_56 : decode c_Y_reach 56 = .ok (.iastore, 1) := by decide +kernel
theorem d_Y_reach_57 : decode c_Y_reach 57 = .ok (.return_, 1) := by decide +kernel
theorem d_Y_leastTo_0 : decode c_Y_leastTo 0 = .ok (.iconst (-1), 1) := by decide +kernel
theorem d_Y_leastTo_1 : decode c_Y_leastTo 1 = .ok (.istore_n 2, 1) := by decide +kernel
theorem d_Y_leastTo_2 : decode c_Y_leastTo 2 = .ok (.iconst 0, 1) := by decide +kernel
theorem d_Y_leastTo_3 : decode c_Y_leastTo 3 = .ok (.istore_n 3, 1) := by decide +kernel
theorem d_Y_leastTo_4 : decode c_Y_leastTo 4 = .ok (.iload_n 3, 1) := by decide +kernel
theorem d_Y_leastTo_5 : decode c_Y_leastTo 5 = .ok (.bipush 64, 2) := by decide +kernel
theorem d_Y_leastTo_7 : decode c_Y_leastTo 7 = .ok (.if_icmp .ge 37, 3) := by decide +kernel
theorem d_Y_leastTo_10 : decode c_Y_leastTo 10 = .ok (.aload_n 0, 1) := by decide +kernel
theorem d_Y_leastTo_11 : decode c_Y_leastTo 11 = .ok (.iload_n 3, 1) := by decide +kernel
theorem d_Y_leastTo_12 : decode c_Y_leastTo 12 = .ok (.iload_n 1, 1) := by decide +kernel
theorem d_Y_leastTo_13 : decode c_Y_leastTo 13 = .ok (.invokevirtual 71, 3) := by decide +kernel
theorem d_Y_leastTo_16 : decode c_Y_leastTo 16 = .ok (.istore 4, 2) := by decide +kernel
theorem d_Y_leastTo_18 : decode c_Y_leastTo 18 = .ok (.iload 4, 2) := by decide +kernel
theorem d_Y_leastTo_20 : decode c_Y_leastTo 20 = .ok (.iconst (-1), 1) := by decide +kernel
theorem d_Y_leastTo_21 : decode c_Y_leastTo 21 = .ok (.if_icmp .eq 17, 3) := by decide +kernel
theorem d_Y_leastTo_24 : decode c_Y_leastTo 24 = .ok (.iload_n 2, 1) := by decide +kernel
theorem d_Y_leastTo_25 : decode c_Y_leastTo 25 = .ok (.iconst (-1), 1) := by decide +kernel
theorem d_Y_leastTo_26 : decode c_Y_leastTo 26 = .ok (.if_icmp .eq 9, 3) := by decide +kernel
theorem d_Y_leastTo_29 : decode c_Y_leastTo 29 = .ok (.iload 4, 2) := by decide +kernel
theorem d_Y_leastTo_31 : decode c_Y_leastTo 31 = .ok (.iload_n 2, 1) := by decide +kernel
theorem d_Y_leastTo_32 : decode c_Y_leastTo 32 = .ok (.if_icmp .ge 6, 3) := by decide +kernel
theorem d_Y_leastTo_35 : decode c_Y_leastTo 35 = .ok (.iload 4, 2) := by decide +kernel
theorem d_Y_leastTo_37 : decode c_Y_leastTo 37 = .ok (.istore_n 2, 1) := by decide +kernel
theorem d_Y_leastTo_38 : decode c_Y_leastTo 38 = .ok (.iinc 3 1, 3) := by decide +kernel
theorem d_Y_leastTo_41 : decode c_Y_leastTo 41 = .ok (.goto (-37), 3) := by decide +kernel
theorem d_Y_leastTo_44 : decode c_Y_leastTo 44 = .ok (.iload_n 2, 1) := by decide +kernel
theorem d_Y_leastTo_45 : decode c_Y_leastTo 45 = .ok (.ireturn, 1) := by decide +kernel
theorem d_Y_sumOver_0 : decode c_Y_sumOver 0 = .ok (.aload_n 0, 1) := by decide +kernel
theorem d_Y_sumOver_1 : decode c_Y_sumOver 1 = .ok (.getfield 22, 3) := by decide +kernel
theorem d_Y_sumOver_4 : decode c_Y_sumOver 4 = .ok (.iload_n 1, 1) := by decide +kernel
theorem d_Y_sumOver_5 : decode c_Y_sumOver 5 = .ok (.iconst (-1), 1) := by decide +kernel
theorem d_Y_sumOver_6 : decode c_Y_sumOver 6 = .ok (.iload_n 2, 1) := by decide +kernel
theorem d_Y_sumOver_7 : decode c_Y_sumOver 7 = .ok (.invokevirtual 78, 3) := by decide +kernel
theorem d_Y_sumOver_10 : decode c_Y_sumOver 10 = .ok (.istore_n 3, 1) := by decide +kernel
theorem d_Y_sumOver_11 : decode c_Y_sumOver 11 = .ok (.aload_n 0, 1) := by decide +kernel
theorem d_Y_sumOver_12 : decode c_Y_sumOver 12 = .ok (.getfield 9, 3) := by decide +kernel
theorem d_Y_sumOver_15 : decode c_Y_sumOver 15 = .ok (.iload_n 1, 1) := by decide +kernel
theorem d_Y_sumOver_16 : decode c_Y_sumOver 16 = .ok (.iaload, 1) := by decide +kernel
theorem d_Y_sumOver_17 : decode c_Y_sumOver 17 = .ok (.iconst (-1), 1) := by decide +kernel
theorem d_Y_sumOver_18 : decode c_Y_sumOver 18 = .ok (.if_icmp .eq 8, 3) := by decide +kernel
theorem d_Y_sumOver_21 : decode c_Y_sumOver 21 = .ok (.iload_n 3, 1) := by decide +kernel
theorem d_Y_sumOver_22 : decode c_Y_sumOver 22 = .ok (.iconst (-1), 1) := by decide +kernel
theorem d_Y_sumOver_23 : decode c_Y_sumOver 23 = .ok (.if_icmp .ne 7, 3) := by decide +kernel
theorem d_Y_sumOver_26 : decode c_Y_sumOver 26 = .ok (.iconst (-1), 1) := by decide +kernel
theorem d_Y_sumOver_27 : decode c_Y_sumOver 27 = .ok (.goto 11, 3) := by decide +kernel
theorem d_Y_sumOver_30 : decode c_Y_sumOver 30 = .ok (.aload_n 0, 1) := by decide +kernel
theorem d_Y_sumOver_31 : decode c_Y_sumOver 31 = .ok (.getfield 9, 3) := by decide +kernel
theorem d_Y_sumOver_34 : decode c_Y_sumOver 34 = .ok (.iload_n 1, 1) := by decide +kernel
theorem d_Y_sumOver_35 : decode c_Y_sumOver 35 = .ok (.iaload, 1) := by decide +kernel
theorem d_Y_sumOver_36 : decode c_Y_sumOver 36 = .ok (.iload_n 3, 1) := by decide +kernel
theorem d_Y_sumOver_37 : decode c_Y_sumOver 37 = .ok (.iadd, 1) := by decide +kernel
theorem d_Y_sumOver_38 : decode c_Y_sumOver 38 = .ok (.ireturn, 1) := by decide +kernel
theorem d_Y_startsTo_0 : decode c_Y_startsTo 0 = .ok (.aload_n 0, 1) := by decide +kernel
theorem d_Y_startsTo_1 : decode c_Y_startsTo 1 = .ok (.iload_n 1, 1) := by decide +kernel
theorem d_Y_startsTo_2 : decode c_Y_startsTo 2 = .ok (.invokevirtual 74, 3) := by decide +kernel
theorem d_Y_startsTo_5 : decode c_Y_startsTo 5 = .ok (.istore_n 2, 1) := by decide +kernel
theorem d_Y_startsTo_6 : decode c_Y_startsTo 6 = .ok (.iload_n 2, 1) := by decide +kernel
theorem d_Y_startsTo_7 : decode c_Y_startsTo 7 = .ok (.iconst (-1), 1) := by decide +kernel
theorem d_Y_startsTo_8 : decode c_Y_startsTo 8 = .ok (.if_icmp .eq 16, 3) := by decide +kernel
theorem d_Y_startsTo_11 : decode c_Y_startsTo 11 = .ok (.aload_n 0, 1) := by decide +kernel
theorem d_Y_startsTo_12 : decode c_Y_startsTo 12 = .ok (.aload_n 0, 1) := by decide +kernel
theorem d_Y_startsTo_13 : decode c_Y_startsTo 13 = .ok (.getfield 26, 3) := by decide +kernel
theorem d_Y_startsTo_16 : decode c_Y_startsTo 16 = .ok (.iload_n 1, 1) := by decide +kernel
theorem d_Y_startsTo_17 : decode c_Y_startsTo 17 = .ok (.invokevirtual 71, 3) := by decide +kernel
theorem d_Y_startsTo_20 : decode c_Y_startsTo 20 = .ok (.iload_n 2, 1) := by decide +kernel
theorem d_Y_startsTo_21 : decode c_Y_startsTo 21 = .ok (.if_icmp .ne 5, 3) := by decide +kernel
theorem d_Y_startsTo_24 : decode c_Y_startsTo 24 = .ok (.iconst 0, 1) := by decide +kernel
theorem d_Y_startsTo_25 : decode c_Y_startsTo 25 = .ok (.ireturn, 1) := by decide +kernel
theorem d_Y_startsTo_26 : decode c_Y_startsTo 26 = .ok (.iconst 0, 1) := by decide +kernel
theorem d_Y_startsTo_27 : decode c_Y_startsTo 27 = .ok (.istore_n 3, 1) := by decide +kernel
theorem d_Y_startsTo_28 : decode c_Y_startsTo 28 = .ok (.iconst 0, 1) := by decide +kernel
theorem d_Y_startsTo_29 : decode c_Y_startsTo 29 = .ok (.istore 4, 2) := by decide +kernel
theorem d_Y_startsTo_31 : decode c_Y_startsTo 31 = .ok (.iload 4, 2) := by decide +kernel
theorem d_Y_startsTo_33 : decode c_Y_startsTo 33 = .ok (.bipush 64, 2) := by decide +kernel
theorem d_Y_startsTo_35 : decode c_Y_startsTo 35 = .ok (.if_icmp .ge 30, 3) := by decide +kernel
theorem d_Y_startsTo_38 : decode c_Y_startsTo 38 = .ok (.aload_n 0, 1) := by decide +kernel
theorem d_Y_startsTo_39 : decode c_Y_startsTo 39 = .ok (.iload 4, 2) := by decide +kernel
theorem d_Y_startsTo_41 : decode c_Y_startsTo 41 = .ok (.iload_n 1, 1) := by decide +kernel
theorem d_Y_startsTo_42 : decode c_Y_startsTo 42 = .ok (.invokevirtual 71, 3) := by decide +kernel
theorem d_Y_startsTo_45 : decode c_Y_startsTo 45 = .ok (.iload_n 2, 1) := by decide +kernel
theorem d_Y_startsTo_46 : decode c_Y_startsTo 46 = .ok (.if_icmp .ne 13, 3) := by decide +kernel
theorem d_Y_startsTo_49 : decode c_Y_startsTo 49 = .ok (.iload_n 3, 1) := by decide +kernel
theorem d_Y_startsTo_50 : decode c_Y_startsTo 50 = .ok (.aload_n 0, 1) := by decide +kernel
theorem d_Y_startsTo_51 : decode c_Y_startsTo 51 = .ok (.getfield 15, 3) := by decide +kernel
theorem d_Y_startsTo_54 : decode c_Y_startsTo 54 = .ok (.iload 4, 2) := by decide +kernel
theorem d_Y_startsTo_56 : decode c_Y_startsTo 56 = .ok (.iaload, 1) := by decide +kernel
theorem d_Y_startsTo_57 : decode c_Y_startsTo 57 = .ok (.ior, 1) := by decide +kernel
theorem d_Y_startsTo_58 : decode c_Y_startsTo 58 = .ok (.istore_n 3, 1) := by decide +kernel
theorem d_Y_startsTo_59 : decode c_Y_startsTo 59 = .ok (.iinc 4 1, 3) := by decide +kernel
theorem d_Y_startsTo_62 : decode c_Y_startsTo 62 = .ok (.goto (-31), 3) := by decide +kernel
theorem d_Y_startsTo_65 : decode c_Y_startsTo 65 = .ok (.iload_n 3, 1) := by decide +kernel
theorem d_Y_startsTo_66 : decode c_Y_startsTo 66 = .ok (.ireturn, 1) := by decide +kernel
theorem d_B_init_0 : decode c_B_init 0 = .ok (.aload_n 0, 1) := by decide +kernel
theorem d_B_init_1 : decode c_B_init 1 = .ok (.invokespecial 3, 3) := by decide +kernel
theorem d_B_init_4 : decode c_B_init 4 = .ok (.aload_n 0, 1) := by decide +kernel
theorem d_B_init_5 : decode c_B_init 5 = .ok (.iload_n 1, 1) := by decide +kernel
theorem d_B_init_6 : decode c_B_init 6 = .ok (.invokestatic 9, 3) := by decide +kernel
theorem d_B_init_9 : decode c_B_init 9 = .ok (.ifCond .eq 7, 3) := by decide +kernel
theorem d_B_init_12 : decode c_B_init 12 = .ok (.iload_n 1, 1) := by decide +kernel
theorem d_B_init_13 : decode c_B_init 13 = .ok (.goto 4, 3) := by decide +kernel
theorem d_B_init_16 : decode c_B_init 16 = .ok (.iconst 0, 1) := by decide +kernel
theorem d_B_init_17 : decode c_B_init 17 = .ok (.putfield 13, 3) := by decide +kernel
theorem d_B_init_20 : decode c_B_init 20 = .ok (.aload_n 0, 1) := by decide +kernel
theorem d_B_init_21 : decode c_B_init 21 = .ok (.new 17, 3) := by decide +kernel
theorem d_B_init_24 : decode c_B_init 24 = .ok (.dup, 1) := by decide +kernel
theorem d_B_init_25 : decode c_B_init 25 = .ok (.invokespecial 19, 3) := by decide +kernel
theorem d_B_init_28 : decode c_B_init 28 = .ok (.putfield 20, 3) := by decide +kernel
theorem d_B_init_31 : decode c_B_init 31 = .ok (.aload_n 0, 1) := by decide +kernel
theorem d_B_init_32 : decode c_B_init 32 = .ok (.new 24, 3) := by decide +kernel
theorem d_B_init_35 : decode c_B_init 35 = .ok (.dup, 1) := by decide +kernel
theorem d_B_init_36 : decode c_B_init 36 = .ok (.invokespecial 26, 3) := by decide +kernel
theorem d_B_init_39 : decode c_B_init 39 = .ok (.putfield 27, 3) := by decide +kernel
theorem d_B_init_42 : decode c_B_init 42 = .ok (.aload_n 0, 1) := by decide +kernel
theorem d_B_init_43 : decode c_B_init 43 = .ok (.new 31, 3) := by decide +kernel
theorem d_B_init_46 : decode c_B_init 46 = .ok (.dup, 1) := by decide +kernel
theorem d_B_init_47 : decode c_B_init 47 = .ok (.aload_n 0, 1) := by decide +kernel
theorem d_B_init_48 : decode c_B_init 48 = .ok (.getfield 27, 3) := by decide +kernel
theorem d_B_init_51 : decode c_B_init 51 = .ok (.aload_n 0, 1) := by decide +kernel
theorem d_B_init_52 : decode c_B_init 52 = .ok (.getfield 13, 3) := by decide +kernel
theorem d_B_init_55 : decode c_B_init 55 = .ok (.invokespecial 33, 3) := by decide +kernel
theorem d_B_init_58 : decode c_B_init 58 = .ok (.putfield 36, 3) := by decide +kernel
theorem d_B_init_61 : decode c_B_init 61 = .ok (.aload_n 0, 1) := by decide +kernel
theorem d_B_init_62 : decode c_B_init 62 = .ok (.iconst (-1), 1) := by decide +kernel
theorem d_B_init_63 : decode c_B_init 63 = .ok (.putfield 40, 3) := by decide +kernel
theorem d_B_init_66 : decode c_B_init 66 = .ok (.aload_n 0, 1) := by decide +kernel
theorem d_B_init_67 : decode c_B_init 67 = .ok (.bipush (-10), 2) := by decide +kernel
theorem d_B_init_69 : decode c_B_init 69 = .ok (.putfield 43, 3) := by decide +kernel
theorem d_B_init_72 : decode c_B_init 72 = .ok (.return_, 1) := by decide +kernel
theorem d_B_isRouter_0 : decode c_B_isRouter 0 = .ok (.iload_n 0, 1) := by decide +kernel
theorem d_B_isRouter_1 : decode c_B_isRouter 1 = .ok (.ifCond .lt 13, 3) := by decide +kernel
theorem d_B_isRouter_4 : decode c_B_isRouter 4 = .ok (.iload_n 0, 1) := by decide +kernel
theorem d_B_isRouter_5 : decode c_B_isRouter 5 = .ok (.bipush 64, 2) := by decide +kernel
theorem d_B_isRouter_7 : decode c_B_isRouter 7 = .ok (.if_icmp .ge 7, 3) := by decide +kernel
theorem d_B_isRouter_10 : decode c_B_isRouter 10 = .ok (.iconst 1, 1) := by decide +kernel
theorem d_B_isRouter_11 : decode c_B_isRouter 11 = .ok (.goto 4, 3) := by decide +kernel
theorem d_B_isRouter_14 : decode c_B_isRouter 14 = .ok (.iconst 0, 1) := by decide +kernel
theorem d_B_isRouter_15 : decode c_B_isRouter 15 = .ok (.ireturn, 1) := by decide +kernel
theorem d_B_make_0 : decode c_B_make 0 = .ok (.aload_n 0, 1) := by decide +kernel
theorem d_B_make_1 : decode c_B_make 1 = .ok (.getfield 138, 3) := by decide +kernel
theorem d_B_make_4 : decode c_B_make 4 = .ok (.aload_n 0, 1) := by decide +kernel
theorem d_B_make_5 : decode c_B_make 5 = .ok (.getfield 43, 3) := by decide +kernel
theorem d_B_make_8 : decode c_B_make 8 = .ok (.isub, 1) := by decide +kernel
theorem d_B_make_9 : decode c_B_make 9 = .ok (.bipush 10, 2) := by decide +kernel
theorem d_B_make_11 : decode c_B_make 11 = .ok (.if_icmp .lt 10, 3) := by decide +kernel
theorem d_B_make_14 : decode c_B_make 14 = .ok (.aload_n 0, 1) := by decide +kernel
theorem d_B_make_15 : decode c_B_make 15 = .ok (.invokevirtual 148, 3) := by decide +kernel
theorem d_B_make_18 : decode c_B_make 18 = .ok (.ifCond .ne 5, 3) := by decide +kernel
theorem d_B_make_21 : decode c_B_make 21 = .ok (.iconst (-1), 1) := by decide +kernel
theorem d_B_make_22 : decode c_B_make 22 = .ok (.ireturn, 1) := by decide +kernel
theorem d_B_make_23 : decode c_B_make 23 = .ok (.aload_n 0, 1) := by decide +kernel
theorem d_B_make_24 : decode c_B_make 24 = .ok (.dup, 1) := by decide +kernel
theorem d_B_make_25 : decode c_B_make 25 = .ok (.getfield 151, 3) := by decide +kernel
theorem d_B_make_28 : decode c_B_make 28 = .ok (.iconst 1, 1) := by decide +kernel
theorem d_B_make_29 : decode c_B_make 29 = .ok (.iadd, 1) := by decide +kernel
theorem d_B_make_30 : decode c_B_make 30 = .ok (.putfield 151, 3) := by decide +kernel
theorem d_B_make_33 : decode c_B_make 33 = .ok (.aload_n 0, 1) := by decide +kernel
theorem d_B_make_34 : decode c_B_make 34 = .ok (.aload_n 0, 1) := by decide +kernel
theorem d_B_make_35 : decode c_B_make 35 = .ok (.getfield 138, 3) := by decide +kernel
theorem d_B_make_38 : decode c_B_make 38 = .ok (.putfield 43, 3) := by decide +kernel
theorem d_B_make_41 : decode c_B_make 41 = .ok (.aload_n 0, 1) := by decide +kernel
theorem d_B_make_42 : decode c_B_make 42 = .ok (.getfield 20, 3) := by decide +kernel
theorem d_B_make_45 : decode c_B_make 45 = .ok (.aload_n 0, 1) := by decide +kernel
theorem d_B_make_46 : decode c_B_make 46 = .ok (.getfield 27, 3) := by decide +kernel
theorem d_B_make_49 : decode c_B_make 49 = .ok (.bipush 65, 2) := by decide +kernel
theorem d_B_make_51 : decode c_B_make 51 = .ok (.invokevirtual 154, 3) := by decide +kernel
theorem d_B_make_54 : decode c_B_make 54 = .ok (.aload_n 0, 1) := by decide +kernel
theorem d_B_make_55 : decode c_B_make 55 = .ok (.bipush 65, 2) := by decide +kernel
theorem d_B_make_57 : decode c_B_make 57 = .ok (.aload_n 0, 1) := by decide +kernel
theorem d_B_make_58 : decode c_B_make 58 = .ok (.getfield 13, 3) := by decide +kernel
theorem d_B_make_61 : decode c_B_make 61 = .ok (.aload_n 0, 1) := by decide +kernel
theorem d_B_make_62 : decode c_B_make 62 = .ok (.getfield 151, 3) := by decide +kernel
theorem d_B_make_65 : decode c_B_make 65 = .ok (.invokevirtual 157, 3) := by decide +kernel
theorem d_B_make_68 : decode c_B_make 68 = .ok (.aload_n 0, 1) := by decide +kernel
theorem d_B_make_69 : decode c_B_make 69 = .ok (.getfield 151, 3) := by decide +kernel
theorem d_B_make_72 : decode c_B_make 72 = .ok (.ireturn, 1) := by decide +kernel
theorem d_B_mustMake_0 : decode c_B_mustMake 0 = .ok (.aload_n 0, 1) := by decide +kernel
theorem d_B_mustMake_1 : decode c_B_mustMake 1 = .ok (.getfield 27, 3) := by decide +kernel
theorem d_B_mustMake_4 : decode c_B_mustMake 4 = .ok (.aload_n 0, 1) := by decide +kernel
theorem d_B_mustMake_5 : decode c_B_mustMake 5 = .ok (.getfield 13, 3) := by decide +kernel
theorem d_B_mustMake_8 : decode c_B_mustMake 8 = .ok (.invokevirtual 186, 3) := by decide +kernel
theorem d_B_mustMake_11 : decode c_B_mustMake 11 = .ok (.ifCond .eq 36, 3) := by decide +kernel
theorem d_B_mustMake_14 : decode c_B_mustMake 14 = .ok (.aload_n 0, 1) := by decide +kernel
theorem d_B_mustMake_15 : decode c_B_mustMake 15 = .ok (.aload_n 0, 1) := by decide +kernel
theorem d_B_mustMake_16 : decode c_B_mustMake 16 = .ok (.getfield 13, 3) := by decide +kernel
theorem d_B_mustMake_19 : decode c_B_mustMake 19 = .ok (.invokevirtual 189, 3) := by decide +kernel
theorem d_B_mustMake_22 : decode c_B_mustMake 22 = .ok (.sipush 2000, 3) := by decide +kernel
theorem d_B_mustMake_25 : decode c_B_mustMake 25 = .ok (.if_icmp .ge 22, 3) := by decide +kernel
theorem d_B_mustMake_28 : decode c_B_mustMake 28 = .ok (.aload_n 0, 1) := by decide +kernel
theorem d_B_mustMake_29 : decode c_B_mustMake 29 = .ok (.getfield 151, 3) := by decide +kernel
theorem d_B_mustMake_32 : decode c_B_mustMake 32 = .ok (.aload_n 0, 1) := by decide +kernel
theorem d_B_mustMake_33 : decode c_B_mustMake 33 = .ok (.getfield 27, 3) := by decide +kernel
theorem d_B_mustMake_36 : decode c_B_mustMake 36 = .ok (.getfield 164, 3) := by decide +kernel
theorem d_B_mustMake_39 : decode c_B_mustMake 39 = .ok (.aload_n 0, 1) := by decide +kernel
theorem d_B_mustMake_40 : decode c_B_mustMake 40 = .ok (.getfield 13, 3) := by decide +kernel
theorem d_B_mustMake_43 : decode c_B_mustMake 43 = .ok (.iaload, 1) := by decide +kernel
theorem d_B_mustMake_44 : decode c_B_mustMake 44 = .ok (.if_icmp .le 5, 3) := by decide +kernel
theorem d_B_mustMake_47 : decode c_B_mustMake 47 = .ok (.iconst 1, 1) := by decide +kernel
theorem d_B_mustMake_48 : decode c_B_mustMake 48 = .ok (.ireturn, 1) := by decide +kernel
theorem d_B_mustMake_49 : decode c_B_mustMake 49 = .ok (.aload_n 0, 1) := by decide +kernel
theorem d_B_mustMake_50 : decode c_B_mustMake 50 = .ok (.getfield 20, 3) := by decide +kernel
theorem d_B_mustMake_53 : decode c_B_mustMake 53 = .ok (.aload_n 0, 1) := by decide +kernel
theorem d_B_mustMake_54 : decode c_B_mustMake 54 = .ok (.getfield 27, 3) := by decide +kernel
theorem d_B_mustMake_57 : decode c_B_mustMake 57 = .ok (.bipush 65, 2) := by decide +kernel
theorem d_B_mustMake_59 : decode c_B_mustMake 59 = .ok (.invokevirtual 154, 3) := by decide +kernel
theorem d_B_mustMake_62 : decode c_B_mustMake 62 = .ok (.aload_n 0, 1) := by decide +kernel
theorem d_B_mustMake_63 : decode c_B_mustMake 63 = .ok (.getfield 27, 3) := by decide +kernel
theorem d_B_mustMake_66 : decode c_B_mustMake 66 = .ok (.aload_n 0, 1) := by decide +kernel
theorem d_B_mustMake_67 : decode c_B_mustMake 67 = .ok (.getfield 13, 3) := by decide +kernel
theorem d_B_mustMake_70 : decode c_B_mustMake 70 = .ok (.bipush 65, 2) := by decide +kernel
theorem d_B_mustMake_72 : decode c_B_mustMake 72 = .ok (.invokevirtual 227, 3) := by decide +kernel
theorem d_B_mustMake_75 : decode c_B_mustMake 75 = .ok (.ifCond .ne 7, 3) := by decide +kernel
theorem d_B_mustMake_78 : decode c_B_mustMake 78 = .ok (.iconst 1, 1) := by decide +kernel
theorem d_B_mustMake_79 : decode c_B_mustMake 79 = .ok (.goto 4, 3) := by decide +kernel
theorem d_B_mustMake_82 : decode c_B_mustMake 82 = .ok (.iconst 0, 1) := by decide +kernel
theorem d_B_mustMake_83 : decode c_B_mustMake 83 = .ok (.ireturn, 1) := by decide +kernel
theorem d_B_ageOf_0 : decode c_B_ageOf 0 = .ok (.aload_n 0, 1) := by decide +kernel
theorem d_B_ageOf_1 : decode c_B_ageOf 1 = .ok (.getfield 138, 3) := by decide +kernel
theorem d_B_ageOf_4 : decode c_B_ageOf 4 = .ok (.aload_n 0, 1) := by decide +kernel
theorem d_B_ageOf_5 : decode c_B_ageOf 5 = .ok (.getfield 27, 3) := by decide +kernel
theorem d_B_ageOf_8 : decode c_B_ageOf 8 = .ok (.getfield 221, 3) := by decide +kernel
theorem d_B_ageOf_11 : decode c_B_ageOf 11 = .ok (.iload_n 1, 1) := by decide +kernel
theorem d_B_ageOf_12 : decode c_B_ageOf 12 = .ok (.iaload, 1) := by decide +kernel
theorem d_B_ageOf_13 : decode c_B_ageOf 13 = .ok (.isub, 1) := by decide +kernel
theorem d_B_ageOf_14 : decode c_B_ageOf 14 = .ok (.ireturn, 1) := by decide +kernel
theorem d_B_takeIn_0 : decode c_B_takeIn 0 = .ok (.aload_n 0, 1) := by decide +kernel
theorem d_B_takeIn_1 : decode c_B_takeIn 1 = .ok (.getfield 27, 3) := by decide +kernel
theorem d_B_takeIn_4 : decode c_B_takeIn 4 = .ok (.iload_n 1, 1) := by decide +kernel
theorem d_B_takeIn_5 : decode c_B_takeIn 5 = .ok (.iload_n 2, 1) := by decide +kernel
theorem d_B_takeIn_6 : decode c_B_takeIn 6 = .ok (.invokevirtual 217, 3) := by decide +kernel
theorem d_B_takeIn_9 : decode c_B_takeIn 9 = .ok (.aload_n 0, 1) := by decide +kernel
theorem d_B_takeIn_10 : decode c_B_takeIn 10 = .ok (.getfield 27, 3) := by decide +kernel
theorem d_B_takeIn_13 : decode c_B_takeIn 13 = .ok (.getfield 164, 3) := by decide +kernel
theorem d_B_takeIn_16 : decode c_B_takeIn 16 = .ok (.iload_n 2, 1) := by decide +kernel
theorem d_B_takeIn_17 : decode c_B_takeIn 17 = .ok (.iload_n 3, 1) := by decide +kernel
theorem d_B_takeIn_18 : decode c_B_takeIn 18 = .ok (.iastore, 1) := by decide +kernel
theorem d_B_takeIn_19 : decode c_B_takeIn 19 = .ok (.aload_n 0, 1) := by decide +kernel
theorem d_B_takeIn_20 : decode c_B_takeIn 20 = .ok (.getfield 27, 3) := by decide +kernel
theorem d_B_takeIn_23 : decode c_B_takeIn 23 = .ok (.getfield 221, 3) := by decide +kernel
theorem d_B_takeIn_26 : decode c_B_takeIn 26 = .ok (.iload_n 2, 1) := by decide +kernel
theorem d_B_takeIn_27 : decode c_B_takeIn 27 = .ok (.aload_n 0, 1) := by decide +kernel
theorem d_B_takeIn_28 : decode c_B_takeIn 28 = .ok (.getfield 138, 3) := by decide +kernel
theorem d_B_takeIn_31 : decode c_B_takeIn 31 = .ok (.iastore, 1) := by decide +kernel
theorem d_B_takeIn_32 : decode c_B_takeIn 32 = .ok (.aload_n 0, 1) := by decide +kernel
theorem d_B_takeIn_33 : decode c_B_takeIn 33 = .ok (.getfield 36, 3) := by decide +kernel
theorem d_B_takeIn_36 : decode c_B_takeIn 36 = .ok (.invokevirtual 224, 3) := by decide +kernel
theorem d_B_takeIn_39 : decode c_B_takeIn 39 = .ok (.return_, 1) := by decide +kernel
theorem d_B_known_0 : decode c_B_known 0 = .ok (.iconst 0, 1) := by decide +kernel
theorem d_B_known_1 : decode c_B_known 1 = .ok (.istore_n 1, 1) := by decide +kernel
theorem d_B_known_2 : decode c_B_known 2 = .ok (.iconst 0, 1) := by decide +kernel
theorem d_B_known_3 : decode c_B_known 3 = .ok (.istore_n 2, 1) := by decide +kernel
theorem d_B_known_4 : decode c_B_known 4 = .ok (.iload_n 2, 1) := by decide +kernel
theorem d_B_known_5 : decode c_B_known 5 = .ok (.bipush 64, 2) := by decide +kernel
theorem d_B_known_7 : decode c_B_known 7 = .ok (.if_icmp .ge 23, 3) := by decide +kernel
theorem d_B_known_10 : decode c_B_known 10 = .ok (.aload_n 0, 1) := by decide +kernel
theorem d_B_known_11 : decode c_B_known 11 = .ok (.getfield 27, 3) := by decide +kernel
theorem d_B_known_14 : decode c_B_known 14 = .ok (.iload_n 2, 1) := by decide +kernel
theorem d_B_known_15 : decode c_B_known 15 = .ok (.invokevirtual 186, 3) := by decide +kernel
theorem d_B_known_18 : decode c_B_known 18 = .ok (.ifCond .eq 6, 3) := by decide +kernel
theorem d_B_known_21 : decode c_B_known 21 = .ok (.iinc 1 1, 3) := by decide +kernel
theorem d_B_known_24 : decode c_B_known 24 = .ok (.iinc 2 1, 3) := by decide +kernel
theorem d_B_known_27 : decode c_B_known 27 = .ok (.goto (-23), 3) := by decide +kernel
theorem d_B_known_30 : decode c_B_known 30 = .ok (.iload_n 1, 1) := by decide +kernel
theorem d_B_known_31 : decode c_B_known 31 = .ok (.ireturn, 1) := by decide +kernel
theorem d_B_time_0 : decode c_B_time 0 = .ok (.aload_n 0, 1) := by decide +kernel
theorem d_B_time_1 : decode c_B_time 1 = .ok (.getfield 138, 3) := by decide +kernel
theorem d_B_time_4 : decode c_B_time 4 = .ok (.ireturn, 1) := by decide +kernel
theorem d_B_port_0 : decode c_B_port 0 = .ok (.iload_n 1, 1) := by decide +kernel
theorem d_B_port_1 : decode c_B_port 1 = .ok (.invokestatic 46, 3) := by decide +kernel
theorem d_B_port_4 : decode c_B_port 4 = .ok (.ifCond .eq 14, 3) := by decide +kernel
theorem d_B_port_7 : decode c_B_port 7 = .ok (.iload_n 2, 1) := by decide +kernel
theorem d_B_port_8 : decode c_B_port 8 = .ok (.ifCond .eq 20, 3) := by decide +kernel
theorem d_B_port_11 : decode c_B_port 11 = .ok (.iload_n 2, 1) := by decide +kernel
theorem d_B_port_12 : decode c_B_port 12 = .ok (.invokestatic 49, 3) := by decide +kernel
theorem d_B_port_15 : decode c_B_port 15 = .ok (.ifCond .ne 13, 3) := by decide +kernel
theorem d_B_port_18 : decode c_B_port 18 = .ok (.new 52, 3) := by decide +kernel
theorem d_B_port_21 : decode c_B_port 21 = .ok (.dup, 1) := by decide +kernel
theorem d_B_port_22 : decode c_B_port 22 = .ok (.ldc 54, 2) := by decide +kernel
theorem d_B_port_24 : decode c_B_port 24 = .ok (.invokespecial 56, 3) := by decide +kernel
theorem d_B_port_27 : decode c_B_port 27 = .ok (.athrow, 1) := by decide +kernel
theorem d_B_port_28 : decode c_B_port 28 = .ok (.iload_n 2, 1) := by decide +kernel
theorem d_B_port_29 : decode c_B_port 29 = .ok (.ifCond .eq 24, 3) := by decide +kernel
theorem d_B_port_32 : decode c_B_port 32 = .ok (.aload_n 0, 1) := by decide +kernel
theorem d_B_port_33 : decode c_B_port 33 = .ok (.getfield 20, 3) := by decide +kernel
theorem d_B_port_36 : decode c_B_port 36 = .ok (.iload_n 1, 1) := by decide +kernel
theorem d_B_port_37 : decode c_B_port 37 = .ok (.invokevirtual 59, 3) := by decide +kernel
theorem d_B_port_40 : decode c_B_port 40 = .ok (.ifCond .ne 13, 3) := by decide +kernel
theorem d_B_port_43 : decode c_B_port 43 = .ok (.new 62, 3) := by decide +kernel
theorem d_B_port_46 : decode c_B_port 46 = .ok (.dup, 1) := by decide +kernel
theorem d_B_port_47 : decode c_B_port 47 = .ok (.ldc 64, 2) := by decide +kernel
theorem d_B_port_49 : decode c_B_port 49 = .ok (.invokespecial 66, 3) := by decide +kernel
theorem d_B_port_52 : decode c_B_port 52 = .ok (.athrow, 1) := by decide +kernel
theorem d_B_port_53 : decode c_B_port 53 = .ok (.aload_n 0, 1) := by decide +kernel
theorem d_B_port_54 : decode c_B_port 54 = .ok (.getfield 20, 3) := by decide +kernel
theorem d_B_port_57 : decode c_B_port 57 = .ok (.iload_n 1, 1) := by decide +kernel
theorem d_B_port_58 : decode c_B_port 58 = .ok (.iload_n 2, 1) := by decide +kernel
theorem d_B_port_59 : decode c_B_port 59 = .ok (.invokevirtual 67, 3) := by decide +kernel
theorem d_B_port_62 : decode c_B_port 62 = .ok (.ireturn, 1) := by decide +kernel
theorem d_B_isNet_0 : decode c_B_isNet 0 = .ok (.iload_n 0, 1) := by decide +kernel
theorem d_B_isNet_1 : decode c_B_isNet 1 = .ok (.ifCond .lt 13, 3) := by decide +kernel
theorem d_B_isNet_4 : decode c_B_isNet 4 = .ok (.iload_n 0, 1) := by decide +kernel
theorem d_B_isNet_5 : decode c_B_isNet 5 = .ok (.bipush 64, 2) := by decide +kernel
theorem d_B_isNet_7 : decode c_B_isNet 7 = .ok (.if_icmp .ge 7, 3) := by decide +kernel
theorem d_B_isNet_10 : decode c_B_isNet 10 = .ok (.iconst 1, 1) := by decide +kernel
theorem d_B_isNet_11 : decode c_B_isNet 11 = .ok (.goto 4, 3) := by decide +kernel
theorem d_B_isNet_14 : decode c_B_isNet 14 = .ok (.iconst 0, 1) := by decide +kernel
theorem d_B_isNet_15 : decode c_B_isNet 15 = .ok (.ireturn, 1) := by decide +kernel
theorem d_B_isCost_0 : decode c_B_isCost 0 = .ok (.iload_n 0, 1) := by decide +kernel
theorem d_B_isCost_1 : decode c_B_isCost 1 = .ok (.iconst 1, 1) := by decide +kernel
theorem d_B_isCost_2 : decode c_B_isCost 2 = .ok (.if_icmp .lt 14, 3) := by decide +kernel
theorem d_B_isCost_5 : decode c_B_isCost 5 = .ok (.iload_n 0, 1) := by decide +kernel
theorem d_B_isCost_6 : decode c_B_isCost 6 = .ok (.sipush 1000, 3) := by decide +kernel
theorem d_B_isCost_9 : decode c_B_isCost 9 = .ok (.if_icmp .gt 7, 3) := by decide +kernel
theorem d_B_isCost_12 : decode c_B_isCost 12 = .ok (.iconst 1, 1) := by decide +kernel
theorem d_B_isCost_13 : decode c_B_isCost 13 = .ok (.goto 4, 3) := by decide +kernel
theorem d_B_isCost_16 : decode c_B_isCost 16 = .ok (.iconst 0, 1) := by decide +kernel
theorem d_B_isCost_17 : decode c_B_isCost 17 = .ok (.ireturn, 1) := by decide +kernel
theorem d_B_stepOf_0 : decode c_B_stepOf 0 = .ok (.bipush 64, 2) := by decide +kernel
theorem d_B_stepOf_2 : decode c_B_stepOf 2 = .ok (.iload_n 0, 1) := by decide +kernel
theorem d_B_stepOf_3 : decode c_B_stepOf 3 = .ok (.imul, 1) := by decide +kernel
theorem d_B_stepOf_4 : decode c_B_stepOf 4 = .ok (.iload_n 1, 1) := by decide +kernel
theorem d_B_stepOf_5 : decode c_B_stepOf 5 = .ok (.iadd, 1) := by decide +kernel
theorem d_B_stepOf_6 : decode c_B_stepOf 6 = .ok (.ireturn, 1) := by decide +kernel
theorem d_B_friend_0 : decode c_B_friend 0 = .ok (.iload_n 1, 1) := by decide +kernel
theorem d_B_friend_1 : decode c_B_friend 1 = .ok (.invokestatic 9, 3) := by decide +kernel
theorem d_B_friend_4 : decode c_B_friend 4 = .ok (.ifCond .eq 18, 3) := by decide +kernel
theorem d_B_friend_7 : decode c_B_friend 7 = .ok (.iload_n 2, 1) := by decide +kernel
theorem d_B_friend_8 : decode c_B_friend 8 = .ok (.invokestatic 46, 3) := by decide +kernel
theorem d_B_friend_11 : decode c_B_friend 11 = .ok (.ifCond .eq 11, 3) := by decide +kernel
theorem d_B_friend_14 : decode c_B_friend 14 = .ok (.iload_n 1, 1) := by decide +kernel
theorem d_B_friend_15 : decode c_B_friend 15 = .ok (.aload_n 0, 1) := by decide +kernel
theorem d_B_friend_16 : decode c_B_friend 16 = .ok (.getfield 13, 3) := by decide +kernel
theorem d_B_friend_19 : decode c_B_friend 19 = .ok (.if_icmp .ne 13, 3) := by decide +kernel
theorem d_B_friend_22 : decode c_B_friend 22 = .ok (.new 52, 3) := by decide +kernel
theorem d_B_friend_25 : decode c_B_friend 25 = .ok (.dup, 1) := by decide +kernel
theorem d_B_friend_26 : decode c_B_friend 26 = .ok (.ldc 71, 2) := by decide +kernel
theorem d_B_friend_28 : decode c_B_friend 28 = .ok (.invokespecial 56, 3) := by decide +kernel
theorem d_B_friend_31 : decode c_B_friend 31 = .ok (.athrow, 1) := by decide +kernel
theorem d_B_friend_32 : decode c_B_friend 32 = .ok (.aload_n 0, 1) := by decide +kernel
theorem d_B_friend_33 : decode c_B_friend 33 = .ok (.getfield 20, 3) := by decide +kernel
theorem d_B_friend_36 : decode c_B_friend 36 = .ok (.iload_n 2, 1) := by decide +kernel
theorem d_B_friend_37 : decode c_B_friend 37 = .ok (.invokevirtual 73, 3) := by decide +kernel
theorem d_B_friend_40 : decode c_B_friend 40 = .ok (.ifCond .ne 13, 3) := by decide +kernel
theorem d_B_friend_43 : decode c_B_friend 43 = .ok (.new 62, 3) := by decide +kernel
theorem d_B_friend_46 : decode c_B_friend 46 = .ok (.dup, 1) := by decide +kernel
theorem d_B_friend_47 : decode c_B_friend 47 = .ok (.ldc 76, 2) := by decide +kernel
theorem d_B_friend_49 : decode c_B_friend 49 = .ok (.invokespecial 66, 3) := by decide +kernel
theorem d_B_friend_52 : decode c_B_friend 52 = .ok (.athrow, 1) := by decide +kernel
theorem d_B_friend_53 : decode c_B_friend 53 = .ok (.iload_n 2, 1) := by decide +kernel
theorem d_B_friend_54 : decode c_B_friend 54 = .ok (.iload_n 1, 1) := by decide +kernel
theorem d_B_friend_55 : decode c_B_friend 55 = .ok (.invokestatic 78, 3) := by decide +kernel
theorem d_B_friend_58 : decode c_B_friend 58 = .ok (.istore 4, 2) := by decide +kernel
theorem d_B_friend_60 : decode c_B_friend 60 = .ok (.aload_n 0, 1) := by decide +kernel
theorem d_B_friend_61 : decode c_B_friend 61 = .ok (.getfield 20, 3) := by decide +kernel
theorem d_B_friend_64 : decode c_B_friend 64 = .ok (.iload 4, 2) := by decide +kernel
theorem d_B_friend_66 : decode c_B_friend 66 = .ok (.invokevirtual 81, 3) := by decide +kernel
theorem d_B_friend_69 : decode c_B_friend 69 = .ok (.iload_n 3, 1) := by decide +kernel
theorem d_B_friend_70 : decode c_B_friend 70 = .ok (.if_icmp .ne 5, 3) := by decide +kernel
theorem d_B_friend_73 : decode c_B_friend 73 = .ok (.iconst 0, 1) := by decide +kernel
theorem d_B_friend_74 : decode c_B_friend 74 = .ok (.ireturn, 1) := by decide +kernel
theorem d_B_friend_75 : decode c_B_friend 75 = .ok (.iload_n 3, 1) := by decide +kernel
theorem d_B_friend_76 : decode c_B_friend 76 = .ok (.ifCond .ne 14, 3) := by decide +kernel
theorem d_B_friend_79 : decode c_B_friend 79 = .ok (.aload_n 0, 1) := by decide +kernel
theorem d_B_friend_80 : decode c_B_friend 80 = .ok (.getfield 20, 3) := by decide +kernel
theorem d_B_friend_83 : decode c_B_friend 83 = .ok (.iload 4, 2) := by decide +kernel
theorem d_B_friend_85 : decode c_B_friend 85 = .ok (.invokevirtual 84, 3) := by decide +kernel
theorem d_B_friend_88 : decode c_B_friend 88 = .ok (.iconst 1, 1) := by decide +kernel
theorem d_B_friend_89 : decode c_B_friend 89 = .ok (.ireturn, 1) := by decide +kernel
theorem d_B_friend_90 : decode c_B_friend 90 = .ok (.aload_n 0, 1) := by decide +kernel
theorem d_B_friend_91 : decode c_B_friend 91 = .ok (.getfield 20, 3) := by decide +kernel
theorem d_B_friend_94 : decode c_B_friend 94 = .ok (.invokevirtual 88, 3) := by decide +kernel
theorem d_B_friend_97 : decode c_B_friend 97 = .ok (.ifCond .ne 13, 3) := by decide +kernel
theorem d_B_friend_100 : decode c_B_friend 100 = .ok (.new 62, 3) := by decide +kernel
theorem d_B_friend_103 : decode c_B_friend 103 = .ok (.dup, 1) := by decide +kernel
theorem d_B_friend_104 : decode c_B_friend 104 = .ok (.ldc 92, 2) := by decide +kernel
theorem d_B_friend_106 : decode c_B_friend 106 = .ok (.invokespecial 66, 3) := by decide +kernel
theorem d_B_friend_109 : decode c_B_friend 109 = .ok (.athrow, 1) := by decide +kernel
theorem d_B_friend_110 : decode c_B_friend 110 = .ok (.aload_n 0, 1) := by decide +kernel
theorem d_B_friend_111 : decode c_B_friend 111 = .ok (.getfield 20, 3) := by decide +kernel
theorem d_B_friend_114 : decode c_B_friend 114 = .ok (.iload 4, 2) := by decide +kernel
theorem d_B_friend_116 : decode c_B_friend 116 = .ok (.invokevirtual 94, 3) := by decide +kernel
theorem d_B_friend_119 : decode c_B_friend 119 = .ok (.iconst 1, 1) := by decide +kernel
theorem d_B_friend_120 : decode c_B_friend 120 = .ok (.ireturn, 1) := by decide +kernel
theorem d_B_begin_0 : decode c_B_begin 0 = .ok (.iload_n 1, 1) := by decide +kernel
theorem d_B_begin_1 : decode c_B_begin 1 = .ok (.invokestatic 9, 3) := by decide +kernel
theorem d_B_begin_4 : decode c_B_begin 4 = .ok (.ifCond .eq 14, 3) := by decide +kernel
theorem d_B_begin_7 : decode c_B_begin 7 = .ok (.iload_n 2, 1) := by decide +kernel
theorem d_B_begin_8 : decode c_B_begin 8 = .ok (.iconst 1, 1) := by decide +kernel
theorem d_B_begin_9 : decode c_B_begin 9 = .ok (.if_icmp .lt 9, 3) := by decide +kernel
theorem d_B_begin_12 : decode c_B_begin 12 = .ok (.iload_n 2, 1) := by decide +kernel
theorem d_B_begin_13 : decode c_B_begin 13 = .ok (.ldc 97, 2) := by decide +kernel
theorem d_B_begin_15 : decode c_B_begin 15 = .ok (.if_icmp .le 13, 3) := by decide +kernel
theorem d_B_begin_18 : decode c_B_begin 18 = .ok (.new 52, 3) := by decide +kernel
theorem d_B_begin_21 : decode c_B_begin 21 = .ok (.dup, 1) := by decide +kernel
theorem d_B_begin_22 : decode c_B_begin 22 = .ok (.ldc 98, 2) := by decide +kernel
theorem d_B_begin_24 : decode c_B_begin 24 = .ok (.invokespecial 56, 3) := by decide +kernel
theorem d_B_begin_27 : decode c_B_begin 27 = .ok (.athrow, 1) := by decide +kernel
theorem d_B_begin_28 : decode c_B_begin 28 = .ok (.aload_n 0, 1) := by decide +kernel
theorem d_B_begin_29 : decode c_B_begin 29 = .ok (.iload_n 1, 1) := by decide +kernel
theorem d_B_begin_30 : decode c_B_begin 30 = .ok (.putfield 40, 3) := by decide +kernel
theorem d_B_begin_33 : decode c_B_begin 33 = .ok (.aload_n 0, 1) := by decide +kernel
theorem d_B_begin_34 : decode c_B_begin 34 = .ok (.iload_n 2, 1) := by decide +kernel
theorem d_B_begin_35 : decode c_B_begin 35 = .ok (.putfield 100, 3) := by decide +kernel
theorem d_B_begin_38 : decode c_B_begin 38 = .ok (.aload_n 0, 1) := by decide +kernel
theorem d_B_begin_39 : decode c_B_begin 39 = .ok (.getfield 27, 3) := by decide +kernel
theorem d_B_begin_42 : decode c_B_begin 42 = .ok (.bipush 64, 2) := by decide +kernel
theorem d_B_begin_44 : decode c_B_begin 44 = .ok (.invokevirtual 103, 3) := by decide +kernel
theorem d_B_begin_47 : decode c_B_begin 47 = .ok (.return_, 1) := by decide +kernel
theorem d_B_entry_0 : decode c_B_entry 0 = .ok (.iload_n 1, 1) := by decide +kernel
theorem d_B_entry_1 : decode c_B_entry 1 = .ok (.iconst (-1), 1) := by decide +kernel
theorem d_B_entry_2 : decode c_B_entry 2 = .ok (.if_icmp .eq 10, 3) := by decide +kernel
theorem d_B_entry_5 : decode c_B_entry 5 = .ok (.iload_n 1, 1) := by decide +kernel
theorem d_B_entry_6 : decode c_B_entry 6 = .ok (.invokestatic 9, 3) := by decide +kernel
theorem d_B_entry_9 : decode c_B_entry 9 = .ok (.ifCond .eq 17, 3) := by decide +kernel
theorem d_B_entry_12 : decode c_B_entry 12 = .ok (.iload_n 2, 1) := by decide +kernel
theorem d_B_entry_13 : decode c_B_entry 13 = .ok (.invokestatic 46, 3) := by decide +kernel
theorem d_B_entry_16 : decode c_B_entry 16 = .ok (.ifCond .eq 10, 3) := by decide +kernel
theorem d_B_entry_19 : decode c_B_entry 19 = .ok (.iload_n 3, 1) := by decide +kernel
theorem d_B_entry_20 : decode c_B_entry 20 = .ok (.invokestatic 49, 3) := by decide +kernel
theorem d_B_entry_23 : decode c_B_entry 23 = .ok (.ifCond .ne 13, 3) := by decide +kernel
theorem d_B_entry_26 : decode c_B_entry 26 = .ok (.new 52, 3) := by decide +kernel
theorem d_B_entry_29 : decode c_B_entry 29 = .ok (.dup, 1) := by decide +kernel
theorem d_B_entry_30 : decode c_B_entry 30 = .ok (.ldc 106, 2) := by decide +kernel
theorem d_B_entry_32 : decode c_B_entry 32 = .ok (.invokespecial 56, 3) := by decide +kernel
theorem d_B_entry_35 : decode c_B_entry 35 = .ok (.athrow, 1) := by decide +kernel
theorem d_B_entry_36 : decode c_B_entry 36 = .ok (.aload_n 0, 1) := by decide +kernel
theorem d_B_entry_37 : decode c_B_entry 37 = .ok (.getfield 40, 3) := by decide +kernel
theorem d_B_entry_40 : decode c_B_entry 40 = .ok (.iconst (-1), 1) := by decide +kernel
theorem d_B_entry_41 : decode c_B_entry 41 = .ok (.if_icmp .eq 21, 3) := by decide +kernel
theorem d_B_entry_44 : decode c_B_entry 44 = .ok (.iload_n 1, 1) := by decide +kernel
theorem d_B_entry_45 : decode c_B_entry 45 = .ok (.aload_n 0, 1) := by decide +kernel
theorem d_B_entry_46 : decode c_B_entry 46 = .ok (.getfield 40, 3) := by decide +kernel
theorem d_B_entry_49 : decode c_B_entry 49 = .ok (.if_icmp .ne 13, 3) := by decide +kernel
theorem d_B_entry_52 : decode c_B_entry 52 = .ok (.new 52, 3) := by decide +kernel
theorem d_B_entry_55 : decode c_B_entry 55 = .ok (.dup, 1) := by decide +kernel
theorem d_B_entry_56 : decode c_B_entry 56 = .ok (.ldc 108, 2) := by decide +kernel
theorem d_B_entry_58 : decode c_B_entry 58 = .ok (.invokespecial 56, 3) := by decide +kernel
theorem d_B_entry_61 : decode c_B_entry 61 = .ok (.athrow, 1) := by decide +kernel
theorem d_B_entry_62 : decode c_B_entry 62 = .ok (.aload_n 0, 1) := by decide +kernel
theorem d_B_entry_63 : decode c_B_entry 63 = .ok (.getfield 40, 3) := by decide +kernel
theorem d_B_entry_66 : decode c_B_entry 66 = .ok (.iconst (-1), 1) := by decide +kernel
theorem d_B_entry_67 : decode c_B_entry 67 = .ok (.if_icmp .eq 29, 3) := by decide +kernel
theorem d_B_entry_70 : decode c_B_entry 70 = .ok (.aload_n 0, 1) := by decide +kernel
theorem d_B_entry_71 : decode c_B_entry 71 = .ok (.getfield 27, 3) := by decide +kernel
theorem d_B_entry_74 : decode c_B_entry 74 = .ok (.bipush 64, 2) := by decide +kernel
theorem d_B_entry_76 : decode c_B_entry 76 = .ok (.invokevirtual 110, 3) := by decide +kernel
theorem d_B_entry_79 : decode c_B_entry 79 = .ok (.ifCond .eq 17, 3) := by decide +kernel
theorem d_B_entry_82 : decode c_B_entry 82 = .ok (.aload_n 0, 1) := by decide +kernel
theorem d_B_entry_83 : decode c_B_entry 83 = .ok (.getfield 27, 3) := by decide +kernel
theorem d_B_entry_86 : decode c_B_entry 86 = .ok (.bipush 64, 2) := by decide +kernel
theorem d_B_entry_88 : decode c_B_entry 88 = .ok (.iload_n 1, 1) := by decide +kernel
theorem d_B_entry_89 : decode c_B_entry 89 = .ok (.iload_n 2, 1) := by decide +kernel
theorem d_B_entry_90 : decode c_B_entry 90 = .ok (.invokevirtual 113, 3) := by decide +kernel
theorem d_B_entry_93 : decode c_B_entry 93 = .ok (.ifCond .eq 13, 3) := by decide +kernel
theorem d_B_entry_96 : decode c_B_entry 96 = .ok (.new 62, 3) := by decide +kernel
theorem d_B_entry_99 : decode c_B_entry 99 = .ok (.dup, 1) := by decide +kernel
theorem d_B_entry_100 : decode c_B_entry 100 = .ok (.ldc 117, 2) := by decide +kernel
theorem d_B_entry_102 : decode c_B_entry 102 = .ok (.invokespecial 66, 3) := by decide +kernel
theorem d_B_entry_105 : decode c_B_entry 105 = .ok (.athrow, 1) := by decide +kernel
theorem d_B_entry_106 : decode c_B_entry 106 = .ok (.aload_n 0, 1) := by decide +kernel
theorem d_B_entry_107 : decode c_B_entry 107 = .ok (.getfield 27, 3) := by decide +kernel
theorem d_B_entry_110 : decode c_B_entry 110 = .ok (.bipush 64, 2) := by decide +kernel
theorem d_B_entry_112 : decode c_B_entry 112 = .ok (.iload_n 1, 1) := by decide +kernel
theorem d_B_entry_113 : decode c_B_entry 113 = .ok (.iload_n 2, 1) := by decide +kernel
theorem d_B_entry_114 : decode c_B_entry 114 = .ok (.iload_n 3, 1) := by decide +kernel
theorem d_B_entry_115 : decode c_B_entry 115 = .ok (.invokevirtual 119, 3) := by decide +kernel
theorem d_B_entry_118 : decode c_B_entry 118 = .ok (.aload_n 0, 1) := by decide +kernel
theorem d_B_entry_119 : decode c_B_entry 119 = .ok (.getfield 27, 3) := by decide +kernel
theorem d_B_entry_122 : decode c_B_entry 122 = .ok (.getfield 123, 3) := by decide +kernel
theorem d_B_entry_125 : decode c_B_entry 125 = .ok (.bipush 64, 2) := by decide +kernel
theorem d_B_entry_127 : decode c_B_entry 127 = .ok (.iaload, 1) := by decide +kernel
theorem d_B_entry_128 : decode c_B_entry 128 = .ok (.ireturn, 1) := by decide +kernel
theorem d_B_come_0 : decode c_B_come 0 = .ok (.aload_n 0, 1) := by decide +kernel
theorem d_B_come_1 : decode c_B_come 1 = .ok (.getfield 40, 3) := by decide +kernel
theorem d_B_come_4 : decode c_B_come 4 = .ok (.iconst (-1), 1) := by decide +kernel
theorem d_B_come_5 : decode c_B_come 5 = .ok (.if_icmp .ne 13, 3) := by decide +kernel
end
section
theorem d_B_come_8 : decode c_B_come 8 = .ok (.new 62, 3) := by decide +kernel
theorem d_B_come_11 : decode c_B_come 11 = .ok (.dup, 1) := by decide +kernel
theorem d_B_come_12 : decode c_B_come 12 = .ok (.ldc 127, 2) := by decide +kernel
theorem d_B_come_14 : decode c_B_come 14 = .ok (.invokespecial 66, 3) := by decide +kernel
theorem d_B_come_17 : decode c_B_come 17 = .ok (.athrow, 1) := by decide +kernel
theorem d_B_come_18 : decode c_B_come 18 = .ok (.aload_n 0, 1) := by decide +kernel
theorem d_B_come_19 : decode c_B_come 19 = .ok (.getfield 40, 3) := by decide +kernel
theorem d_B_come_22 : decode c_B_come 22 = .ok (.istore_n 1, 1) := by decide +kernel
theorem d_B_come_23 : decode c_B_come 23 = .ok (.aload_n 0, 1) := by decide +kernel
theorem d_B_come_24 : decode c_B_come 24 = .ok (.iconst (-1), 1) := by decide +kernel
theorem d_B_come_25 : decode c_B_come 25 = .ok (.putfield 40, 3) := by decide +kernel
theorem d_B_come_28 : decode c_B_come 28 = .ok (.iload_n 1, 1) := by decide +kernel
theorem d_B_come_29 : decode c_B_come 29 = .ok (.aload_n 0, 1) := by decide +kernel
theorem d_B_come_30 : decode c_B_come 30 = .ok (.getfield 13, 3) := by decide +kernel
theorem d_B_come_33 : decode c_B_come 33 = .ok (.if_icmp .ne 14, 3) := by decide +kernel
theorem d_B_come_36 : decode c_B_come 36 = .ok (.aload_n 0, 1) := by decide +kernel
theorem d_B_come_37 : decode c_B_come 37 = .ok (.aload_n 0, 1) := by decide +kernel
theorem d_B_come_38 : decode c_B_come 38 = .ok (.getfield 100, 3) := by decide +kernel
theorem d_B_come_41 : decode c_B_come 41 = .ok (.invokevirtual 129, 3) := by decide +kernel
theorem d_B_come_44 : decode c_B_come 44 = .ok (.goto 12, 3) := by decide +kernel
theorem d_B_come_47 : decode c_B_come 47 = .ok (.aload_n 0, 1) := by decide +kernel
theorem d_B_come_48 : decode c_B_come 48 = .ok (.iload_n 1, 1) := by decide +kernel
theorem d_B_come_49 : decode c_B_come 49 = .ok (.aload_n 0, 1) := by decide +kernel
theorem d_B_come_50 : decode c_B_come 50 = .ok (.getfield 100, 3) := by decide +kernel
theorem d_B_come_53 : decode c_B_come 53 = .ok (.invokevirtual 133, 3) := by decide +kernel
theorem d_B_come_56 : decode c_B_come 56 = .ok (.ireturn, 1) := by decide +kernel
theorem d_B_hearOwn_0 : decode c_B_hearOwn 0 = .ok (.iload_n 1, 1) := by decide +kernel
theorem d_B_hearOwn_1 : decode c_B_hearOwn 1 = .ok (.aload_n 0, 1) := by decide +kernel
theorem d_B_hearOwn_2 : decode c_B_hearOwn 2 = .ok (.getfield 151, 3) := by decide +kernel
theorem d_B_hearOwn_5 : decode c_B_hearOwn 5 = .ok (.if_icmp .gt 5, 3) := by decide +kernel
theorem d_B_hearOwn_8 : decode c_B_hearOwn 8 = .ok (.iconst 4, 1) := by decide +kernel
theorem d_B_hearOwn_9 : decode c_B_hearOwn 9 = .ok (.ireturn, 1) := by decide +kernel
theorem d_B_hearOwn_10 : decode c_B_hearOwn 10 = .ok (.aload_n 0, 1) := by decide +kernel
theorem d_B_hearOwn_11 : decode c_B_hearOwn 11 = .ok (.iload_n 1, 1) := by decide +kernel
theorem d_B_hearOwn_12 : decode c_B_hearOwn 12 = .ok (.putfield 151, 3) := by decide +kernel
theorem d_B_hearOwn_15 : decode c_B_hearOwn 15 = .ok (.iconst 3, 1) := by decide +kernel
theorem d_B_hearOwn_16 : decode c_B_hearOwn 16 = .ok (.ireturn, 1) := by decide +kernel
theorem d_B_hearOther_0 : decode c_B_hearOther 0 = .ok (.aload_n 0, 1) := by decide +kernel
theorem d_B_hearOther_1 : decode c_B_hearOther 1 = .ok (.getfield 27, 3) := by decide +kernel
theorem d_B_hearOther_4 : decode c_B_hearOther 4 = .ok (.getfield 164, 3) := by decide +kernel
theorem d_B_hearOther_7 : decode c_B_hearOther 7 = .ok (.iload_n 1, 1) := by decide +kernel
theorem d_B_hearOther_8 : decode c_B_hearOther 8 = .ok (.iaload, 1) := by decide +kernel
theorem d_B_hearOther_9 : decode c_B_hearOther 9 = .ok (.iload_n 2, 1) := by decide +kernel
theorem d_B_hearOther_10 : decode c_B_hearOther 10 = .ok (.if_icmp .ne 5, 3) := by decide +kernel
theorem d_B_hearOther_13 : decode c_B_hearOther 13 = .ok (.iconst 1, 1) := by decide +kernel
theorem d_B_hearOther_14 : decode c_B_hearOther 14 = .ok (.ireturn, 1) := by decide +kernel
theorem d_B_hearOther_15 : decode c_B_hearOther 15 = .ok (.aload_n 0, 1) := by decide +kernel
theorem d_B_hearOther_16 : decode c_B_hearOther 16 = .ok (.getfield 27, 3) := by decide +kernel
theorem d_B_hearOther_19 : decode c_B_hearOther 19 = .ok (.getfield 164, 3) := by decide +kernel
theorem d_B_hearOther_22 : decode c_B_hearOther 22 = .ok (.iload_n 1, 1) := by decide +kernel
theorem d_B_hearOther_23 : decode c_B_hearOther 23 = .ok (.iaload, 1) := by decide +kernel
theorem d_B_hearOther_24 : decode c_B_hearOther 24 = .ok (.iload_n 2, 1) := by decide +kernel
theorem d_B_hearOther_25 : decode c_B_hearOther 25 = .ok (.if_icmp .le 5, 3) := by decide +kernel
theorem d_B_hearOther_28 : decode c_B_hearOther 28 = .ok (.iconst 2, 1) := by decide +kernel
theorem d_B_hearOther_29 : decode c_B_hearOther 29 = .ok (.ireturn, 1) := by decide +kernel
theorem d_B_hearOther_30 : decode c_B_hearOther 30 = .ok (.aload_n 0, 1) := by decide +kernel
theorem d_B_hearOther_31 : decode c_B_hearOther 31 = .ok (.bipush 64, 2) := by decide +kernel
theorem d_B_hearOther_33 : decode c_B_hearOther 33 = .ok (.iload_n 1, 1) := by decide +kernel
theorem d_B_hearOther_34 : decode c_B_hearOther 34 = .ok (.iload_n 2, 1) := by decide +kernel
theorem d_B_hearOther_35 : decode c_B_hearOther 35 = .ok (.invokevirtual 157, 3) := by decide +kernel
theorem d_B_hearOther_38 : decode c_B_hearOther 38 = .ok (.iconst 0, 1) := by decide +kernel
theorem d_B_hearOther_39 : decode c_B_hearOther 39 = .ok (.ireturn, 1) := by decide +kernel
theorem d_B_pass_0 : decode c_B_pass 0 = .ok (.iload_n 1, 1) := by decide +kernel
theorem d_B_pass_1 : decode c_B_pass 1 = .ok (.ifCond .lt 10, 3) := by decide +kernel
theorem d_B_pass_4 : decode c_B_pass 4 = .ok (.iload_n 1, 1) := by decide +kernel
theorem d_B_pass_5 : decode c_B_pass 5 = .ok (.sipush 10000, 3) := by decide +kernel
theorem d_B_pass_8 : decode c_B_pass 8 = .ok (.if_icmp .le 13, 3) := by decide +kernel
theorem d_B_pass_11 : decode c_B_pass 11 = .ok (.new 52, 3) := by decide +kernel
theorem d_B_pass_14 : decode c_B_pass 14 = .ok (.dup, 1) := by decide +kernel
theorem d_B_pass_15 : decode c_B_pass 15 = .ok (.ldc 136, 2) := by decide +kernel
theorem d_B_pass_17 : decode c_B_pass 17 = .ok (.invokespecial 56, 3) := by decide +kernel
theorem d_B_pass_20 : decode c_B_pass 20 = .ok (.athrow, 1) := by decide +kernel
theorem d_B_pass_21 : decode c_B_pass 21 = .ok (.aload_n 0, 1) := by decide +kernel
theorem d_B_pass_22 : decode c_B_pass 22 = .ok (.getfield 138, 3) := by decide +kernel
theorem d_B_pass_25 : decode c_B_pass 25 = .ok (.iload_n 1, 1) := by decide +kernel
theorem d_B_pass_26 : decode c_B_pass 26 = .ok (.iadd, 1) := by decide +kernel
theorem d_B_pass_27 : decode c_B_pass 27 = .ok (.ldc 141, 2) := by decide +kernel
theorem d_B_pass_29 : decode c_B_pass 29 = .ok (.if_icmp .le 13, 3) := by decide +kernel
theorem d_B_pass_32 : decode c_B_pass 32 = .ok (.new 62, 3) := by decide +kernel
theorem d_B_pass_35 : decode c_B_pass 35 = .ok (.dup, 1) := by decide +kernel
theorem d_B_pass_36 : decode c_B_pass 36 = .ok (.ldc 142, 2) := by decide +kernel
theorem d_B_pass_38 : decode c_B_pass 38 = .ok (.invokespecial 66, 3) := by decide +kernel
theorem d_B_pass_41 : decode c_B_pass 41 = .ok (.athrow, 1) := by decide +kernel
theorem d_B_pass_42 : decode c_B_pass 42 = .ok (.aload_n 0, 1) := by decide +kernel
theorem d_B_pass_43 : decode c_B_pass 43 = .ok (.dup, 1) := by decide +kernel
theorem d_B_pass_44 : decode c_B_pass 44 = .ok (.getfield 138, 3) := by decide +kernel
theorem d_B_pass_47 : decode c_B_pass 47 = .ok (.iload_n 1, 1) := by decide +kernel
theorem d_B_pass_48 : decode c_B_pass 48 = .ok (.iadd, 1) := by decide +kernel
theorem d_B_pass_49 : decode c_B_pass 49 = .ok (.putfield 138, 3) := by decide +kernel
theorem d_B_pass_52 : decode c_B_pass 52 = .ok (.aload_n 0, 1) := by decide +kernel
theorem d_B_pass_53 : decode c_B_pass 53 = .ok (.invokevirtual 144, 3) := by decide +kernel
theorem d_B_pass_56 : decode c_B_pass 56 = .ok (.ireturn, 1) := by decide +kernel
theorem d_B_takeOutOld_0 : decode c_B_takeOutOld 0 = .ok (.iconst 0, 1) := by decide +kernel
theorem d_B_takeOutOld_1 : decode c_B_takeOutOld 1 = .ok (.istore_n 1, 1) := by decide +kernel
theorem d_B_takeOutOld_2 : decode c_B_takeOutOld 2 = .ok (.iconst 0, 1) := by decide +kernel
theorem d_B_takeOutOld_3 : decode c_B_takeOutOld 3 = .ok (.istore_n 2, 1) := by decide +kernel
theorem d_B_takeOutOld_4 : decode c_B_takeOutOld 4 = .ok (.iload_n 2, 1) := by decide +kernel
theorem d_B_takeOutOld_5 : decode c_B_takeOutOld 5 = .ok (.bipush 64, 2) := by decide +kernel
theorem d_B_takeOutOld_7 : decode c_B_takeOutOld 7 = .ok (.if_icmp .ge 42, 3) := by decide +kernel
theorem d_B_takeOutOld_10 : decode c_B_takeOutOld 10 = .ok (.aload_n 0, 1) := by decide +kernel
theorem d_B_takeOutOld_11 : decode c_B_takeOutOld 11 = .ok (.getfield 27, 3) := by decide +kernel
theorem d_B_takeOutOld_14 : decode c_B_takeOutOld 14 = .ok (.iload_n 2, 1) := by decide +kernel
theorem d_B_takeOutOld_15 : decode c_B_takeOutOld 15 = .ok (.invokevirtual 186, 3) := by decide +kernel
theorem d_B_takeOutOld_18 : decode c_B_takeOutOld 18 = .ok (.ifCond .eq 25, 3) := by decide +kernel
theorem d_B_takeOutOld_21 : decode c_B_takeOutOld 21 = .ok (.aload_n 0, 1) := by decide +kernel
theorem d_B_takeOutOld_22 : decode c_B_takeOutOld 22 = .ok (.iload_n 2, 1) := by decide +kernel
theorem d_B_takeOutOld_23 : decode c_B_takeOutOld 23 = .ok (.invokevirtual 189, 3) := by decide +kernel
theorem d_B_takeOutOld_26 : decode c_B_takeOutOld 26 = .ok (.sipush 5000, 3) := by decide +kernel
theorem d_B_takeOutOld_29 : decode c_B_takeOutOld 29 = .ok (.if_icmp .lt 14, 3) := by decide +kernel
theorem d_B_takeOutOld_32 : decode c_B_takeOutOld 32 = .ok (.aload_n 0, 1) := by decide +kernel
theorem d_B_takeOutOld_33 : decode c_B_takeOutOld 33 = .ok (.getfield 27, 3) := by decide +kernel
theorem d_B_takeOutOld_36 : decode c_B_takeOutOld 36 = .ok (.iload_n 2, 1) := by decide +kernel
theorem d_B_takeOutOld_37 : decode c_B_takeOutOld 37 = .ok (.invokevirtual 103, 3) := by decide +kernel
theorem d_B_takeOutOld_40 : decode c_B_takeOutOld 40 = .ok (.iinc 1 1, 3) := by decide +kernel
theorem d_B_takeOutOld_43 : decode c_B_takeOutOld 43 = .ok (.iinc 2 1, 3) := by decide +kernel
theorem d_B_takeOutOld_46 : decode c_B_takeOutOld 46 = .ok (.goto (-42), 3) := by decide +kernel
theorem d_B_takeOutOld_49 : decode c_B_takeOutOld 49 = .ok (.iload_n 1, 1) := by decide +kernel
theorem d_B_takeOutOld_50 : decode c_B_takeOutOld 50 = .ok (.ifCond .le 10, 3) := by decide +kernel
theorem d_B_takeOutOld_53 : decode c_B_takeOutOld 53 = .ok (.aload_n 0, 1) := by decide +kernel
theorem d_B_takeOutOld_54 : decode c_B_takeOutOld 54 = .ok (.getfield 36, 3) := by decide +kernel
theorem d_B_takeOutOld_57 : decode c_B_takeOutOld 57 = .ok (.invokevirtual 224, 3) := by decide +kernel
theorem d_B_takeOutOld_60 : decode c_B_takeOutOld 60 = .ok (.iload_n 1, 1) := by decide +kernel
theorem d_B_takeOutOld_61 : decode c_B_takeOutOld 61 = .ok (.ireturn, 1) := by decide +kernel
theorem d_B_number_0 : decode c_B_number 0 = .ok (.iload_n 1, 1) := by decide +kernel
theorem d_B_number_1 : decode c_B_number 1 = .ok (.invokestatic 161, 3) := by decide +kernel
theorem d_B_number_4 : decode c_B_number 4 = .ok (.aload_n 0, 1) := by decide +kernel
theorem d_B_number_5 : decode c_B_number 5 = .ok (.getfield 27, 3) := by decide +kernel
theorem d_B_number_8 : decode c_B_number 8 = .ok (.getfield 164, 3) := by decide +kernel
theorem d_B_number_11 : decode c_B_number 11 = .ok (.iload_n 1, 1) := by decide +kernel
theorem d_B_number_12 : decode c_B_number 12 = .ok (.iaload, 1) := by decide +kernel
theorem d_B_number_13 : decode c_B_number 13 = .ok (.ireturn, 1) := by decide +kernel
theorem d_B_refuseNoRouter_0 : decode c_B_refuseNoRouter 0 = .ok (.iload_n 0, 1) := by decide +kernel
theorem d_B_refuseNoRouter_1 : decode c_B_refuseNoRouter 1 = .ok (.invokestatic 9, 3) := by decide +kernel
theorem d_B_refuseNoRouter_4 : decode c_B_refuseNoRouter 4 = .ok (.ifCond .ne 13, 3) := by decide +kernel
theorem d_B_refuseNoRouter_7 : decode c_B_refuseNoRouter 7 = .ok (.new 52, 3) := by decide +kernel
theorem d_B_refuseNoRouter_10 : decode c_B_refuseNoRouter 10 = .ok (.dup, 1) := by decide +kernel
theorem d_B_refuseNoRouter_11 : decode c_B_refuseNoRouter 11 = .ok (.ldc 231, 2) := by decide +kernel
theorem d_B_refuseNoRouter_13 : decode c_B_refuseNoRouter 13 = .ok (.invokespecial 56, 3) := by decide +kernel
theorem d_B_refuseNoRouter_16 : decode c_B_refuseNoRouter 16 = .ok (.athrow, 1) := by decide +kernel
theorem d_B_refuseNoRouter_17 : decode c_B_refuseNoRouter 17 = .ok (.return_, 1) := by decide +kernel
theorem d_B_told_0 : decode c_B_told 0 = .ok (.iload_n 1, 1) := by decide +kernel
theorem d_B_told_1 : decode c_B_told 1 = .ok (.invokestatic 9, 3) := by decide +kernel
theorem d_B_told_4 : decode c_B_told 4 = .ok (.ifCond .eq 12, 3) := by decide +kernel
theorem d_B_told_7 : decode c_B_told 7 = .ok (.iload_n 3, 1) := by decide +kernel
theorem d_B_told_8 : decode c_B_told 8 = .ok (.ifCond .lt 8, 3) := by decide +kernel
theorem d_B_told_11 : decode c_B_told 11 = .ok (.iload_n 3, 1) := by decide +kernel
theorem d_B_told_12 : decode c_B_told 12 = .ok (.iconst 2, 1) := by decide +kernel
theorem d_B_told_13 : decode c_B_told 13 = .ok (.if_icmp .le 13, 3) := by decide +kernel
theorem d_B_told_16 : decode c_B_told 16 = .ok (.new 52, 3) := by decide +kernel
theorem d_B_told_19 : decode c_B_told 19 = .ok (.dup, 1) := by decide +kernel
theorem d_B_told_20 : decode c_B_told 20 = .ok (.ldc 167, 2) := by decide +kernel
theorem d_B_told_22 : decode c_B_told 22 = .ok (.invokespecial 56, 3) := by decide +kernel
theorem d_B_told_25 : decode c_B_told 25 = .ok (.athrow, 1) := by decide +kernel
theorem d_B_told_26 : decode c_B_told 26 = .ok (.iload_n 2, 1) := by decide +kernel
theorem d_B_told_27 : decode c_B_told 27 = .ok (.ifCond .lt 16, 3) := by decide +kernel
theorem d_B_told_30 : decode c_B_told 30 = .ok (.iload_n 2, 1) := by decide +kernel
theorem d_B_told_31 : decode c_B_told 31 = .ok (.aload_n 0, 1) := by decide +kernel
theorem d_B_told_32 : decode c_B_told 32 = .ok (.getfield 27, 3) := by decide +kernel
theorem d_B_told_35 : decode c_B_told 35 = .ok (.getfield 123, 3) := by decide +kernel
theorem d_B_told_38 : decode c_B_told 38 = .ok (.iload_n 1, 1) := by decide +kernel
theorem d_B_told_39 : decode c_B_told 39 = .ok (.iaload, 1) := by decide +kernel
theorem d_B_told_40 : decode c_B_told 40 = .ok (.if_icmp .lt 13, 3) := by decide +kernel
theorem d_B_told_43 : decode c_B_told 43 = .ok (.new 169, 3) := by decide +kernel
theorem d_B_told_46 : decode c_B_told 46 = .ok (.dup, 1) := by decide +kernel
theorem d_B_told_47 : decode c_B_told 47 = .ok (.ldc 171, 2) := by decide +kernel
theorem d_B_told_49 : decode c_B_told 49 = .ok (.invokespecial 173, 3) := by decide +kernel
theorem d_B_told_52 : decode c_B_told 52 = .ok (.athrow, 1) := by decide +kernel
theorem d_B_told_53 : decode c_B_told 53 = .ok (.iload_n 1, 1) := by decide +kernel
theorem d_B_told_54 : decode c_B_told 54 = .ok (.iload_n 2, 1) := by decide +kernel
theorem d_B_told_55 : decode c_B_told 55 = .ok (.invokestatic 174, 3) := by decide +kernel
theorem d_B_told_58 : decode c_B_told 58 = .ok (.istore 4, 2) := by decide +kernel
theorem d_B_told_60 : decode c_B_told 60 = .ok (.iload_n 3, 1) := by decide +kernel
theorem d_B_told_61 : decode c_B_told 61 = .ok (.ifCond .ne 14, 3) := by decide +kernel
theorem d_B_told_64 : decode c_B_told 64 = .ok (.aload_n 0, 1) := by decide +kernel
theorem d_B_told_65 : decode c_B_told 65 = .ok (.getfield 27, 3) := by decide +kernel
theorem d_B_told_68 : decode c_B_told 68 = .ok (.getfield 177, 3) := by decide +kernel
theorem d_B_told_71 : decode c_B_told 71 = .ok (.iload 4, 2) := by decide +kernel
theorem d_B_told_73 : decode c_B_told 73 = .ok (.iaload, 1) := by decide +kernel
theorem d_B_told_74 : decode c_B_told 74 = .ok (.ireturn, 1) := by decide +kernel
theorem d_B_told_75 : decode c_B_told 75 = .ok (.iload_n 3, 1) := by decide +kernel
theorem d_B_told_76 : decode c_B_told 76 = .ok (.iconst 1, 1) := by decide +kernel
theorem d_B_told_77 : decode c_B_told 77 = .ok (.if_icmp .ne 16, 3) := by decide +kernel
theorem d_B_told_80 : decode c_B_told 80 = .ok (.aload_n 0, 1) := by decide +kernel
theorem d_B_told_81 : decode c_B_told 81 = .ok (.getfield 27, 3) := by decide +kernel
theorem d_B_told_84 : decode c_B_told 84 = .ok (.getfield 180, 3) := by decide +kernel
theorem d_B_told_87 : decode c_B_told 87 = .ok (.iload 4, 2) := by decide +kernel
theorem d_B_told_89 : decode c_B_told 89 = .ok (.iaload, 1) := by decide +kernel
theorem d_B_told_90 : decode c_B_told 90 = .ok (.goto 13, 3) := by decide +kernel
theorem d_B_told_93 : decode c_B_told 93 = .ok (.aload_n 0, 1) := by decide +kernel
theorem d_B_told_94 : decode c_B_told 94 = .ok (.getfield 27, 3) := by decide +kernel
theorem d_B_told_97 : decode c_B_told 97 = .ok (.getfield 183, 3) := by decide +kernel
theorem d_B_told_100 : decode c_B_told 100 = .ok (.iload 4, 2) := by decide +kernel
theorem d_B_told_102 : decode c_B_told 102 = .ok (.iaload, 1) := by decide +kernel
theorem d_B_told_103 : decode c_B_told 103 = .ok (.ireturn, 1) := by decide +kernel
theorem d_B_entries_0 : decode c_B_entries 0 = .ok (.iload_n 1, 1) := by decide +kernel
theorem d_B_entries_1 : decode c_B_entries 1 = .ok (.invokestatic 161, 3) := by decide +kernel
theorem d_B_entries_4 : decode c_B_entries 4 = .ok (.aload_n 0, 1) := by decide +kernel
theorem d_B_entries_5 : decode c_B_entries 5 = .ok (.getfield 27, 3) := by decide +kernel
theorem d_B_entries_8 : decode c_B_entries 8 = .ok (.iload_n 1, 1) := by decide +kernel
theorem d_B_entries_9 : decode c_B_entries 9 = .ok (.invokevirtual 186, 3) := by decide +kernel
theorem d_B_entries_12 : decode c_B_entries 12 = .ok (.ifCond .eq 15, 3) := by decide +kernel
theorem d_B_entries_15 : decode c_B_entries 15 = .ok (.aload_n 0, 1) := by decide +kernel
theorem d_B_entries_16 : decode c_B_entries 16 = .ok (.getfield 27, 3) := by decide +kernel
theorem d_B_entries_19 : decode c_B_entries 19 = .ok (.getfield 123, 3) := by decide +kernel
theorem d_B_entries_22 : decode c_B_entries 22 = .ok (.iload_n 1, 1) := by decide +kernel
theorem d_B_entries_23 : decode c_B_entries 23 = .ok (.iaload, 1) := by decide +kernel
theorem d_B_entries_24 : decode c_B_entries 24 = .ok (.goto 4, 3) := by decide +kernel
theorem d_B_entries_27 : decode c_B_entries 27 = .ok (.iconst (-1), 1) := by decide +kernel
theorem d_B_entries_28 : decode c_B_entries 28 = .ok (.ireturn, 1) := by decide +kernel
theorem d_B_age_0 : decode c_B_age 0 = .ok (.iload_n 1, 1) := by decide +kernel
theorem d_B_age_1 : decode c_B_age 1 = .ok (.invokestatic 161, 3) := by decide +kernel
theorem d_B_age_4 : decode c_B_age 4 = .ok (.aload_n 0, 1) := by decide +kernel
theorem d_B_age_5 : decode c_B_age 5 = .ok (.getfield 27, 3) := by decide +kernel
theorem d_B_age_8 : decode c_B_age 8 = .ok (.iload_n 1, 1) := by decide +kernel
theorem d_B_age_9 : decode c_B_age 9 = .ok (.invokevirtual 186, 3) := by decide +kernel
theorem d_B_age_12 : decode c_B_age 12 = .ok (.ifCond .eq 11, 3) := by decide +kernel
theorem d_B_age_15 : decode c_B_age 15 = .ok (.aload_n 0, 1) := by decide +kernel
theorem d_B_age_16 : decode c_B_age 16 = .ok (.iload_n 1, 1) := by decide +kernel
theorem d_B_age_17 : decode c_B_age 17 = .ok (.invokevirtual 189, 3) := by decide +kernel
theorem d_B_age_20 : decode c_B_age 20 = .ok (.goto 4, 3) := by decide +kernel
theorem d_B_age_23 : decode c_B_age 23 = .ok (.iconst (-1), 1) := by decide +kernel
theorem d_B_age_24 : decode c_B_age 24 = .ok (.ireturn, 1) := by decide +kernel
theorem d_B_distance_0 : decode c_B_distance 0 = .ok (.iload_n 1, 1) := by decide +kernel
theorem d_B_distance_1 : decode c_B_distance 1 = .ok (.invokestatic 161, 3) := by decide +kernel
theorem d_B_distance_4 : decode c_B_distance 4 = .ok (.aload_n 0, 1) := by decide +kernel
theorem d_B_distance_5 : decode c_B_distance 5 = .ok (.getfield 36, 3) := by decide +kernel
theorem d_B_distance_8 : decode c_B_distance 8 = .ok (.invokevirtual 192, 3) := by decide +kernel
theorem d_B_distance_11 : decode c_B_distance 11 = .ok (.aload_n 0, 1) := by decide +kernel
theorem d_B_distance_12 : decode c_B_distance 12 = .ok (.getfield 36, 3) := by decide +kernel
theorem d_B_distance_15 : decode c_B_distance 15 = .ok (.getfield 195, 3) := by decide +kernel
theorem d_B_distance_18 : decode c_B_distance 18 = .ok (.iload_n 1, 1) := by decide +kernel
theorem d_B_distance_19 : decode c_B_distance 19 = .ok (.iaload, 1) := by decide +kernel
theorem d_B_distance_20 : decode c_B_distance 20 = .ok (.ireturn, 1) := by decide +kernel
theorem d_B_cost_0 : decode c_B_cost 0 = .ok (.iload_n 1, 1) := by decide +kernel
theorem d_B_cost_1 : decode c_B_cost 1 = .ok (.invokestatic 198, 3) := by decide +kernel
theorem d_B_cost_4 : decode c_B_cost 4 = .ok (.aload_n 0, 1) := by decide +kernel
theorem d_B_cost_5 : decode c_B_cost 5 = .ok (.getfield 36, 3) := by decide +kernel
theorem d_B_cost_8 : decode c_B_cost 8 = .ok (.invokevirtual 192, 3) := by decide +kernel
theorem d_B_cost_11 : decode c_B_cost 11 = .ok (.aload_n 0, 1) := by decide +kernel
theorem d_B_cost_12 : decode c_B_cost 12 = .ok (.getfield 36, 3) := by decide +kernel
theorem d_B_cost_15 : decode c_B_cost 15 = .ok (.iload_n 1, 1) := by decide +kernel
theorem d_B_cost_16 : decode c_B_cost 16 = .ok (.invokevirtual 201, 3) := by decide +kernel
theorem d_B_cost_19 : decode c_B_cost 19 = .ok (.ireturn, 1) := by decide +kernel
theorem d_B_refuseNoNet_0 : decode c_B_refuseNoNet 0 = .ok (.iload_n 0, 1) := by decide +kernel
theorem d_B_refuseNoNet_1 : decode c_B_refuseNoNet 1 = .ok (.invokestatic 46, 3) := by decide +kernel
theorem d_B_refuseNoNet_4 : decode c_B_refuseNoNet 4 = .ok (.ifCond .ne 13, 3) := by decide +kernel
theorem d_B_refuseNoNet_7 : decode c_B_refuseNoNet 7 = .ok (.new 52, 3) := by decide +kernel
theorem d_B_refuseNoNet_10 : decode c_B_refuseNoNet 10 = .ok (.dup, 1) := by decide +kernel
theorem d_B_refuseNoNet_11 : decode c_B_refuseNoNet 11 = .ok (.ldc 233, 2) := by decide +kernel
theorem d_B_refuseNoNet_13 : decode c_B_refuseNoNet 13 = .ok (.invokespecial 56, 3) := by decide +kernel
theorem d_B_refuseNoNet_16 : decode c_B_refuseNoNet 16 = .ok (.athrow, 1) := by decide +kernel
theorem d_B_refuseNoNet_17 : decode c_B_refuseNoNet 17 = .ok (.return_, 1) := by decide +kernel
theorem d_B_firsts_0 : decode c_B_firsts 0 = .ok (.iload_n 1, 1) := by decide +kernel
theorem d_B_firsts_1 : decode c_B_firsts 1 = .ok (.invokestatic 198, 3) := by decide +kernel
theorem d_B_firsts_4 : decode c_B_firsts 4 = .ok (.aload_n 0, 1) := by decide +kernel
theorem d_B_firsts_5 : decode c_B_firsts 5 = .ok (.getfield 36, 3) := by decide +kernel
theorem d_B_firsts_8 : decode c_B_firsts 8 = .ok (.invokevirtual 192, 3) := by decide +kernel
theorem d_B_firsts_11 : decode c_B_firsts 11 = .ok (.aload_n 0, 1) := by decide +kernel
theorem d_B_firsts_12 : decode c_B_firsts 12 = .ok (.getfield 36, 3) := by decide +kernel
theorem d_B_firsts_15 : decode c_B_firsts 15 = .ok (.iload_n 1, 1) := by decide +kernel
theorem d_B_firsts_16 : decode c_B_firsts 16 = .ok (.invokevirtual 204, 3) := by decide +kernel
theorem d_B_firsts_19 : decode c_B_firsts 19 = .ok (.invokestatic 207, 3) := by decide +kernel
theorem d_B_firsts_22 : decode c_B_firsts 22 = .ok (.ireturn, 1) := by decide +kernel
theorem d_B_first_0 : decode c_B_first 0 = .ok (.iload_n 1, 1) := by decide +kernel
theorem d_B_first_1 : decode c_B_first 1 = .ok (.invokestatic 198, 3) := by decide +kernel
theorem d_B_first_4 : decode c_B_first 4 = .ok (.aload_n 0, 1) := by decide +kernel
theorem d_B_first_5 : decode c_B_first 5 = .ok (.getfield 36, 3) := by decide +kernel
theorem d_B_first_8 : decode c_B_first 8 = .ok (.invokevirtual 192, 3) := by decide +kernel
theorem d_B_first_11 : decode c_B_first 11 = .ok (.aload_n 0, 1) := by decide +kernel
theorem d_B_first_12 : decode c_B_first 12 = .ok (.getfield 36, 3) := by decide +kernel
theorem d_B_first_15 : decode c_B_first 15 = .ok (.iload_n 1, 1) := by decide +kernel
theorem d_B_first_16 : decode c_B_first 16 = .ok (.invokevirtual 204, 3) := by decide +kernel
theorem d_B_first_19 : decode c_B_first 19 = .ok (.istore_n 3, 1) := by decide +kernel
theorem d_B_first_20 : decode c_B_first 20 = .ok (.iload_n 2, 1) := by decide +kernel
theorem d_B_first_21 : decode c_B_first 21 = .ok (.ifCond .lt 11, 3) := by decide +kernel
theorem d_B_first_24 : decode c_B_first 24 = .ok (.iload_n 2, 1) := by decide +kernel
theorem d_B_first_25 : decode c_B_first 25 = .ok (.iload_n 3, 1) := by decide +kernel
theorem d_B_first_26 : decode c_B_first 26 = .ok (.invokestatic 207, 3) := by decide +kernel
theorem d_B_first_29 : decode c_B_first 29 = .ok (.if_icmp .lt 13, 3) := by decide +kernel
theorem d_B_first_32 : decode c_B_first 32 = .ok (.new 169, 3) := by decide +kernel
theorem d_B_first_35 : decode c_B_first 35 = .ok (.dup, 1) := by decide +kernel
theorem d_B_first_36 : decode c_B_first 36 = .ok (.ldc 212, 2) := by decide +kernel
theorem d_B_first_38 : decode c_B_first 38 = .ok (.invokespecial 173, 3) := by decide +kernel
theorem d_B_first_41 : decode c_B_first 41 = .ok (.athrow, 1) := by decide +kernel
theorem d_B_first_42 : decode c_B_first 42 = .ok (.aload_n 0, 1) := by decide +kernel
theorem d_B_first_43 : decode c_B_first 43 = .ok (.getfield 13, 3) := by decide +kernel
theorem d_B_first_46 : decode c_B_first 46 = .ok (.iload_n 3, 1) := by decide +kernel
theorem d_B_first_47 : decode c_B_first 47 = .ok (.iload_n 2, 1) := by decide +kernel
theorem d_B_first_48 : decode c_B_first 48 = .ok (.invokestatic 214, 3) := by decide +kernel
theorem d_B_first_51 : decode c_B_first 51 = .ok (.invokestatic 174, 3) := by decide +kernel
theorem d_B_first_54 : decode c_B_first 54 = .ok (.istore 4, 2) := by decide +kernel
theorem d_B_first_56 : decode c_B_first 56 = .ok (.aload_n 0, 1) := by decide +kernel
theorem d_B_first_57 : decode c_B_first 57 = .ok (.getfield 27, 3) := by decide +kernel
theorem d_B_first_60 : decode c_B_first 60 = .ok (.getfield 180, 3) := by decide +kernel
theorem d_B_first_63 : decode c_B_first 63 = .ok (.iload 4, 2) := by decide +kernel
theorem d_B_first_65 : decode c_B_first 65 = .ok (.iaload, 1) := by decide +kernel
theorem d_B_first_66 : decode c_B_first 66 = .ok (.aload_n 0, 1) := by decide +kernel
theorem d_B_first_67 : decode c_B_first 67 = .ok (.getfield 27, 3) := by decide +kernel
theorem d_B_first_70 : decode c_B_first 70 = .ok (.getfield 177, 3) := by decide +kernel
theorem d_B_first_73 : decode c_B_first 73 = .ok (.iload 4, 2) := by decide +kernel
theorem d_B_first_75 : decode c_B_first 75 = .ok (.iaload, 1) := by decide +kernel
theorem d_B_first_76 : decode c_B_first 76 = .ok (.invokestatic 78, 3) := by decide +kernel
theorem d_B_first_79 : decode c_B_first 79 = .ok (.ireturn, 1) := by decide +kernel
theorem d_B_placeOfBit_0 : decode c_B_placeOfBit 0 = .ok (.iload_n 0, 1) := by decide +kernel
theorem d_B_placeOfBit_1 : decode c_B_placeOfBit 1 = .ok (.istore_n 2, 1) := by decide +kernel
theorem d_B_placeOfBit_2 : decode c_B_placeOfBit 2 = .ok (.iconst 0, 1) := by decide +kernel
theorem d_B_placeOfBit_3 : decode c_B_placeOfBit 3 = .ok (.istore_n 3, 1) := by decide +kernel
theorem d_B_placeOfBit_4 : decode c_B_placeOfBit 4 = .ok (.iload_n 3, 1) := by decide +kernel
theorem d_B_placeOfBit_5 : decode c_B_placeOfBit 5 = .ok (.iload_n 1, 1) := by decide +kernel
theorem d_B_placeOfBit_6 : decode c_B_placeOfBit 6 = .ok (.if_icmp .ge 15, 3) := by decide +kernel
theorem d_B_placeOfBit_9 : decode c_B_placeOfBit 9 = .ok (.iload_n 2, 1) := by decide +kernel
theorem d_B_placeOfBit_10 : decode c_B_placeOfBit 10 = .ok (.iload_n 2, 1) := by decide +kernel
theorem d_B_placeOfBit_11 : decode c_B_placeOfBit 11 = .ok (.iconst 1, 1) := by decide +kernel
theorem d_B_placeOfBit_12 : decode c_B_placeOfBit 12 = .ok (.isub, 1) := by decide +kernel
theorem d_B_placeOfBit_13 : decode c_B_placeOfBit 13 = .ok (.iand, 1) := by decide +kernel
theorem d_B_placeOfBit_14 : decode c_B_placeOfBit 14 = .ok (.istore_n 2, 1) := by decide +kernel
theorem d_B_placeOfBit_15 : decode c_B_placeOfBit 15 = .ok (.iinc 3 1, 3) := by decide +kernel
theorem d_B_placeOfBit_18 : decode c_B_placeOfBit 18 = .ok (.goto (-14), 3) := by decide +kernel
theorem d_B_placeOfBit_21 : decode c_B_placeOfBit 21 = .ok (.iload_n 2, 1) := by decide +kernel
theorem d_B_placeOfBit_22 : decode c_B_placeOfBit 22 = .ok (.invokestatic 235, 3) := by decide +kernel
theorem d_B_placeOfBit_25 : decode c_B_placeOfBit 25 = .ok (.ireturn, 1) := by decide +kernel
theorem d_M_init_0 : decode c_M_init 0 = .ok (.aload_n 0, 1) := by decide +kernel
theorem d_M_init_1 : decode c_M_init 1 = .ok (.invokespecial 1, 3) := by decide +kernel
theorem d_M_init_4 : decode c_M_init 4 = .ok (.aload_n 0, 1) := by decide +kernel
theorem d_M_init_5 : decode c_M_init 5 = .ok (.bipush 64, 2) := by decide +kernel
theorem d_M_init_7 : decode c_M_init 7 = .ok (.newarray .int, 2) := by decide +kernel
theorem d_M_init_9 : decode c_M_init 9 = .ok (.putfield 7, 3) := by decide +kernel
theorem d_M_init_12 : decode c_M_init 12 = .ok (.aload_n 0, 1) := by decide +kernel
theorem d_M_init_13 : decode c_M_init 13 = .ok (.sipush 4096, 3) := by decide +kernel
theorem d_M_init_16 : decode c_M_init 16 = .ok (.newarray .boolean, 2) := by decide +kernel
theorem d_M_init_18 : decode c_M_init 18 = .ok (.putfield 13, 3) := by decide +kernel
theorem d_M_init_21 : decode c_M_init 21 = .ok (.aload_n 0, 1) := by decide +kernel
theorem d_M_init_22 : decode c_M_init 22 = .ok (.bipush (-10), 2) := by decide +kernel
theorem d_M_init_24 : decode c_M_init 24 = .ok (.putfield 17, 3) := by decide +kernel
theorem d_M_init_27 : decode c_M_init 27 = .ok (.aload_n 0, 1) := by decide +kernel
theorem d_M_init_28 : decode c_M_init 28 = .ok (.bipush 66, 2) := by decide +kernel
theorem d_M_init_30 : decode c_M_init 30 = .ok (.newarray .int, 2) := by decide +kernel
theorem d_M_init_32 : decode c_M_init 32 = .ok (.putfield 21, 3) := by decide +kernel
theorem d_M_init_35 : decode c_M_init 35 = .ok (.aload_n 0, 1) := by decide +kernel
theorem d_M_init_36 : decode c_M_init 36 = .ok (.bipush 66, 2) := by decide +kernel
theorem d_M_init_38 : decode c_M_init 38 = .ok (.newarray .int, 2) := by decide +kernel
theorem d_M_init_40 : decode c_M_init 40 = .ok (.putfield 24, 3) := by decide +kernel
theorem d_M_init_43 : decode c_M_init 43 = .ok (.aload_n 0, 1) := by decide +kernel
theorem d_M_init_44 : decode c_M_init 44 = .ok (.bipush 66, 2) := by decide +kernel
theorem d_M_init_46 : decode c_M_init 46 = .ok (.newarray .int, 2) := by decide +kernel
theorem d_M_init_48 : decode c_M_init 48 = .ok (.putfield 27, 3) := by decide +kernel
theorem d_M_init_51 : decode c_M_init 51 = .ok (.aload_n 0, 1) := by decide +kernel
theorem d_M_init_52 : decode c_M_init 52 = .ok (.sipush 1584, 3) := by decide +kernel
theorem d_M_init_55 : decode c_M_init 55 = .ok (.newarray .int, 2) := by decide +kernel
theorem d_M_init_57 : decode c_M_init 57 = .ok (.putfield 30, 3) := by decide +kernel
theorem d_M_init_60 : decode c_M_init 60 = .ok (.aload_n 0, 1) := by decide +kernel
theorem d_M_init_61 : decode c_M_init 61 = .ok (.sipush 1584, 3) := by decide +kernel
theorem d_M_init_64 : decode c_M_init 64 = .ok (.newarray .int, 2) := by decide +kernel
theorem d_M_init_66 : decode c_M_init 66 = .ok (.putfield 33, 3) := by decide +kernel
theorem d_M_init_69 : decode c_M_init 69 = .ok (.aload_n 0, 1) := by decide +kernel
theorem d_M_init_70 : decode c_M_init 70 = .ok (.sipush 1584, 3) := by decide +kernel
theorem d_M_init_73 : decode c_M_init 73 = .ok (.newarray .int, 2) := by decide +kernel
theorem d_M_init_75 : decode c_M_init 75 = .ok (.putfield 36, 3) := by decide +kernel
theorem d_M_init_78 : decode c_M_init 78 = .ok (.aload_n 0, 1) := by decide +kernel
theorem d_M_init_79 : decode c_M_init 79 = .ok (.sipush 1536, 3) := by decide +kernel
theorem d_M_init_82 : decode c_M_init 82 = .ok (.newarray .boolean, 2) := by decide +kernel
theorem d_M_init_84 : decode c_M_init 84 = .ok (.putfield 39, 3) := by decide +kernel
theorem d_M_init_87 : decode c_M_init 87 = .ok (.aload_n 0, 1) := by decide +kernel
theorem d_M_init_88 : decode c_M_init 88 = .ok (.bipush 64, 2) := by decide +kernel
theorem d_M_init_90 : decode c_M_init 90 = .ok (.newarray .int, 2) := by decide +kernel
theorem d_M_init_92 : decode c_M_init 92 = .ok (.putfield 42, 3) := by decide +kernel
theorem d_M_init_95 : decode c_M_init 95 = .ok (.aload_n 0, 1) := by decide +kernel
theorem d_M_init_96 : decode c_M_init 96 = .ok (.iload_n 1, 1) := by decide +kernel
theorem d_M_init_97 : decode c_M_init 97 = .ok (.ifCond .lt 9, 3) := by decide +kernel
theorem d_M_init_100 : decode c_M_init 100 = .ok (.iload_n 1, 1) := by decide +kernel
theorem d_M_init_101 : decode c_M_init 101 = .ok (.bipush 63, 2) := by decide +kernel
theorem d_M_init_103 : decode c_M_init 103 = .ok (.if_icmp .le 7, 3) := by decide +kernel
theorem d_M_init_106 : decode c_M_init 106 = .ok (.iconst 0, 1) := by decide +kernel
theorem d_M_init_107 : decode c_M_init 107 = .ok (.goto 4, 3) := by decide +kernel
theorem d_M_init_110 : decode c_M_init 110 = .ok (.iload_n 1, 1) := by decide +kernel
theorem d_M_init_111 : decode c_M_init 111 = .ok (.putfield 45, 3) := by decide +kernel
theorem d_M_init_114 : decode c_M_init 114 = .ok (.return_, 1) := by decide +kernel
theorem d_M_thrown_0 : decode c_M_thrown 0 = .ok (.aload_n 0, 1) := by decide +kernel
theorem d_M_thrown_1 : decode c_M_thrown 1 = .ok (.getfield 48, 3) := by decide +kernel
theorem d_M_thrown_4 : decode c_M_thrown 4 = .ok (.ireturn, 1) := by decide +kernel
theorem d_M_port_0 : decode c_M_port 0 = .ok (.aload_n 0, 1) := by decide +kernel
theorem d_M_port_1 : decode c_M_port 1 = .ok (.iload_n 1, 1) := by decide +kernel
theorem d_M_port_2 : decode c_M_port 2 = .ok (.iconst 0, 1) := by decide +kernel
theorem d_M_port_3 : decode c_M_port 3 = .ok (.bipush 63, 2) := by decide +kernel
theorem d_M_port_5 : decode c_M_port 5 = .ok (.invokestatic 51, 3) := by decide +kernel
theorem d_M_port_8 : decode c_M_port 8 = .ok (.ifCond .eq 14, 3) := by decide +kernel
theorem d_M_port_11 : decode c_M_port 11 = .ok (.iload_n 2, 1) := by decide +kernel
theorem d_M_port_12 : decode c_M_port 12 = .ok (.iconst 0, 1) := by decide +kernel
theorem d_M_port_13 : decode c_M_port 13 = .ok (.sipush 1000, 3) := by decide +kernel
theorem d_M_port_16 : decode c_M_port 16 = .ok (.invokestatic 51, 3) := by decide +kernel
theorem d_M_port_19 : decode c_M_port 19 = .ok (.ifCond .ne 7, 3) := by decide +kernel
theorem d_M_port_22 : decode c_M_port 22 = .ok (.iconst 1, 1) := by decide +kernel
theorem d_M_port_23 : decode c_M_port 23 = .ok (.goto 30, 3) := by decide +kernel
theorem d_M_port_26 : decode c_M_port 26 = .ok (.iload_n 2, 1) := by decide +kernel
theorem d_M_port_27 : decode c_M_port 27 = .ok (.ifCond .le 25, 3) := by decide +kernel
theorem d_M_port_30 : decode c_M_port 30 = .ok (.aload_n 0, 1) := by decide +kernel
theorem d_M_port_31 : decode c_M_port 31 = .ok (.getfield 7, 3) := by decide +kernel
theorem d_M_port_34 : decode c_M_port 34 = .ok (.iload_n 1, 1) := by decide +kernel
theorem d_M_port_35 : decode c_M_port 35 = .ok (.iaload, 1) := by decide +kernel
theorem d_M_port_36 : decode c_M_port 36 = .ok (.ifCond .ne 16, 3) := by decide +kernel
theorem d_M_port_39 : decode c_M_port 39 = .ok (.aload_n 0, 1) := by decide +kernel
theorem d_M_port_40 : decode c_M_port 40 = .ok (.invokevirtual 55, 3) := by decide +kernel
theorem d_M_port_43 : decode c_M_port 43 = .ok (.bipush 8, 2) := by decide +kernel
theorem d_M_port_45 : decode c_M_port 45 = .ok (.if_icmp .ne 7, 3) := by decide +kernel
theorem d_M_port_48 : decode c_M_port 48 = .ok (.iconst 2, 1) := by decide +kernel
theorem d_M_port_49 : decode c_M_port 49 = .ok (.goto 4, 3) := by decide +kernel
theorem d_M_port_52 : decode c_M_port 52 = .ok (.iconst 0, 1) := by decide +kernel
theorem d_M_port_53 : decode c_M_port 53 = .ok (.putfield 48, 3) := by decide +kernel
theorem d_M_port_56 : decode c_M_port 56 = .ok (.aload_n 0, 1) := by decide +kernel
theorem d_M_port_57 : decode c_M_port 57 = .ok (.getfield 48, 3) := by decide +kernel
theorem d_M_port_60 : decode c_M_port 60 = .ok (.ifCond .le 5, 3) := by decide +kernel
theorem d_M_port_63 : decode c_M_port 63 = .ok (.iconst 0, 1) := by decide +kernel
theorem d_M_port_64 : decode c_M_port 64 = .ok (.ireturn, 1) := by decide +kernel
theorem d_M_port_65 : decode c_M_port 65 = .ok (.aload_n 0, 1) := by decide +kernel
theorem d_M_port_66 : decode c_M_port 66 = .ok (.getfield 7, 3) := by decide +kernel
theorem d_M_port_69 : decode c_M_port 69 = .ok (.iload_n 1, 1) := by decide +kernel
theorem d_M_port_70 : decode c_M_port 70 = .ok (.iaload, 1) := by decide +kernel
theorem d_M_port_71 : decode c_M_port 71 = .ok (.istore_n 3, 1) := by decide +kernel
theorem d_M_port_72 : decode c_M_port 72 = .ok (.aload_n 0, 1) := by decide +kernel
theorem d_M_port_73 : decode c_M_port 73 = .ok (.getfield 7, 3) := by decide +kernel
theorem d_M_port_76 : decode c_M_port 76 = .ok (.iload_n 1, 1) := by decide +kernel
theorem d_M_port_77 : decode c_M_port 77 = .ok (.iload_n 2, 1) := by decide +kernel
theorem d_M_port_78 : decode c_M_port 78 = .ok (.iastore, 1) := by decide +kernel
theorem d_M_port_79 : decode c_M_port 79 = .ok (.iconst 0, 1) := by decide +kernel
theorem d_M_port_80 : decode c_M_port 80 = .ok (.istore 4, 2) := by decide +kernel
theorem d_M_port_82 : decode c_M_port 82 = .ok (.iload 4, 2) := by decide +kernel
theorem d_M_port_84 : decode c_M_port 84 = .ok (.bipush 64, 2) := by decide +kernel
theorem d_M_port_86 : decode c_M_port 86 = .ok (.if_icmp .ge 26, 3) := by decide +kernel
theorem d_M_port_89 : decode c_M_port 89 = .ok (.iload_n 2, 1) := by decide +kernel
theorem d_M_port_90 : decode c_M_port 90 = .ok (.ifCond .ne 22, 3) := by decide +kernel
theorem d_M_port_93 : decode c_M_port 93 = .ok (.aload_n 0, 1) := by decide +kernel
theorem d_M_port_94 : decode c_M_port 94 = .ok (.getfield 13, 3) := by decide +kernel
theorem d_M_port_97 : decode c_M_port 97 = .ok (.bipush 64, 2) := by decide +kernel
theorem d_M_port_99 : decode c_M_port 99 = .ok (.iload_n 1, 1) := by decide +kernel
theorem d_M_port_100 : decode c_M_port 100 = .ok (.imul, 1) := by decide +kernel
theorem d_M_port_101 : decode c_M_port 101 = .ok (.iload 4, 2) := by decide +kernel
theorem d_M_port_103 : decode c_M_port 103 = .ok (.iadd, 1) := by decide +kernel
theorem d_M_port_104 : decode c_M_port 104 = .ok (.iconst 0, 1) := by decide +kernel
theorem d_M_port_105 : decode c_M_port 105 = .ok (.bastore, 1) := by decide +kernel
theorem d_M_port_106 : decode c_M_port 106 = .ok (.iinc 4 1, 3) := by decide +kernel
theorem d_M_port_109 : decode c_M_port 109 = .ok (.goto (-27), 3) := by decide +kernel
theorem d_M_port_112 : decode c_M_port 112 = .ok (.iload_n 3, 1) := by decide +kernel
theorem d_M_port_113 : decode c_M_port 113 = .ok (.ireturn, 1) := by decide +kernel
theorem d_M_in_0 : decode c_M_in 0 = .ok (.iload_n 0, 1) := by decide +kernel
theorem d_M_in_1 : decode c_M_in 1 = .ok (.iload_n 1, 1) := by decide +kernel
theorem d_M_in_2 : decode c_M_in 2 = .ok (.if_icmp .lt 12, 3) := by decide +kernel
theorem d_M_in_5 : decode c_M_in 5 = .ok (.iload_n 0, 1) := by decide +kernel
theorem d_M_in_6 : decode c_M_in 6 = .ok (.iload_n 2, 1) := by decide +kernel
theorem d_M_in_7 : decode c_M_in 7 = .ok (.if_icmp .gt 7, 3) := by decide +kernel
theorem d_M_in_10 : decode c_M_in 10 = .ok (.iconst 1, 1) := by decide +kernel
theorem d_M_in_11 : decode c_M_in 11 = .ok (.goto 4, 3) := by decide +kernel
theorem d_M_in_14 : decode c_M_in 14 = .ok (.iconst 0, 1) := by decide +kernel
theorem d_M_in_15 : decode c_M_in 15 = .ok (.ireturn, 1) := by decide +kernel
theorem d_M_portCount_0 : decode c_M_portCount 0 = .ok (.iconst 0, 1) := by decide +kernel
theorem d_M_portCount_1 : decode c_M_portCount 1 = .ok (.istore_n 1, 1) := by decide +kernel
theorem d_M_portCount_2 : decode c_M_portCount 2 = .ok (.iconst 0, 1) := by decide +kernel
theorem d_M_portCount_3 : decode c_M_portCount 3 = .ok (.istore_n 2, 1) := by decide +kernel
theorem d_M_portCount_4 : decode c_M_portCount 4 = .ok (.iload_n 2, 1) := by decide +kernel
theorem d_M_portCount_5 : decode c_M_portCount 5 = .ok (.bipush 64, 2) := by decide +kernel
theorem d_M_portCount_7 : decode c_M_portCount 7 = .ok (.if_icmp .ge 26, 3) := by decide +kernel
theorem d_M_portCount_10 : decode c_M_portCount 10 = .ok (.iload_n 1, 1) := by decide +kernel
theorem d_M_portCount_11 : decode c_M_portCount 11 = .ok (.aload_n 0, 1) := by decide +kernel
theorem d_M_portCount_12 : decode c_M_portCount 12 = .ok (.getfield 7, 3) := by decide +kernel
theorem d_M_portCount_15 : decode c_M_portCount 15 = .ok (.iload_n 2, 1) := by decide +kernel
theorem d_M_portCount_16 : decode c_M_portCount 16 = .ok (.iaload, 1) := by decide +kernel
theorem d_M_portCount_17 : decode c_M_portCount 17 = .ok (.ifCond .le 7, 3) := by decide +kernel
theorem d_M_portCount_20 : decode c_M_portCount 20 = .ok (.iconst 1, 1) := by decide +kernel
theorem d_M_portCount_21 : decode c_M_portCount 21 = .ok (.goto 4, 3) := by decide +kernel
theorem d_M_portCount_24 : decode c_M_portCount 24 = .ok (.iconst 0, 1) := by decide +kernel
theorem d_M_portCount_25 : decode c_M_portCount 25 = .ok (.iadd, 1) := by decide +kernel
theorem d_M_portCount_26 : decode c_M_portCount 26 = .ok (.istore_n 1, 1) := by decide +kernel
theorem d_M_portCount_27 : decode c_M_portCount 27 = .ok (.iinc 2 1, 3) := by decide +kernel
theorem d_M_portCount_30 : decode c_M_portCount 30 = .ok (.goto (-26), 3) := by decide +kernel
theorem d_M_portCount_33 : decode c_M_portCount 33 = .ok (.iload_n 1, 1) := by decide +kernel
theorem d_M_portCount_34 : decode c_M_portCount 34 = .ok (.ireturn, 1) := by decide +kernel
theorem d_M_friend_0 : decode c_M_friend 0 = .ok (.aload_n 0, 1) := by decide +kernel
theorem d_M_friend_1 : decode c_M_friend 1 = .ok (.iload_n 1, 1) := by decide +kernel
theorem d_M_friend_2 : decode c_M_friend 2 = .ok (.iconst 0, 1) := by decide +kernel
theorem d_M_friend_3 : decode c_M_friend 3 = .ok (.bipush 63, 2) := by decide +kernel
theorem d_M_friend_5 : decode c_M_friend 5 = .ok (.invokestatic 51, 3) := by decide +kernel
theorem d_M_friend_8 : decode c_M_friend 8 = .ok (.ifCond .eq 21, 3) := by decide +kernel
theorem d_M_friend_11 : decode c_M_friend 11 = .ok (.iload_n 2, 1) := by decide +kernel
theorem d_M_friend_12 : decode c_M_friend 12 = .ok (.iconst 0, 1) := by decide +kernel
theorem d_M_friend_13 : decode c_M_friend 13 = .ok (.bipush 63, 2) := by decide +kernel
theorem d_M_friend_15 : decode c_M_friend 15 = .ok (.invokestatic 51, 3) := by decide +kernel
theorem d_M_friend_18 : decode c_M_friend 18 = .ok (.ifCond .eq 11, 3) := by decide +kernel
theorem d_M_friend_21 : decode c_M_friend 21 = .ok (.iload_n 1, 1) := by decide +kernel
theorem d_M_friend_22 : decode c_M_friend 22 = .ok (.aload_n 0, 1) := by decide +kernel
theorem d_M_friend_23 : decode c_M_friend 23 = .ok (.getfield 45, 3) := by decide +kernel
theorem d_M_friend_26 : decode c_M_friend 26 = .ok (.if_icmp .ne 7, 3) := by decide +kernel
theorem d_M_friend_29 : decode c_M_friend 29 = .ok (.iconst 1, 1) := by decide +kernel
theorem d_M_friend_30 : decode c_M_friend 30 = .ok (.goto 4, 3) := by decide +kernel
theorem d_M_friend_33 : decode c_M_friend 33 = .ok (.iconst 0, 1) := by decide +kernel
theorem d_M_friend_34 : decode c_M_friend 34 = .ok (.putfield 48, 3) := by decide +kernel
theorem d_M_friend_37 : decode c_M_friend 37 = .ok (.aload_n 0, 1) := by decide +kernel
theorem d_M_friend_38 : decode c_M_friend 38 = .ok (.getfield 48, 3) := by decide +kernel
theorem d_M_friend_41 : decode c_M_friend 41 = .ok (.ifCond .le 5, 3) := by decide +kernel
theorem d_M_friend_44 : decode c_M_friend 44 = .ok (.iconst 0, 1) := by decide +kernel
theorem d_M_friend_45 : decode c_M_friend 45 = .ok (.ireturn, 1) := by decide +kernel
theorem d_M_friend_46 : decode c_M_friend 46 = .ok (.aload_n 0, 1) := by decide +kernel
theorem d_M_friend_47 : decode c_M_friend 47 = .ok (.getfield 13, 3) := by decide +kernel
theorem d_M_friend_50 : decode c_M_friend 50 = .ok (.bipush 64, 2) := by decide +kernel
theorem d_M_friend_52 : decode c_M_friend 52 = .ok (.iload_n 2, 1) := by decide +kernel
theorem d_M_friend_53 : decode c_M_friend 53 = .ok (.imul, 1) := by decide +kernel
theorem d_M_friend_54 : decode c_M_friend 54 = .ok (.iload_n 1, 1) := by decide +kernel
theorem d_M_friend_55 : decode c_M_friend 55 = .ok (.iadd, 1) := by decide +kernel
theorem d_M_friend_56 : decode c_M_friend 56 = .ok (.baload, 1) := by decide +kernel
theorem d_M_friend_57 : decode c_M_friend 57 = .ok (.istore 4, 2) := by decide +kernel
theorem d_M_friend_59 : decode c_M_friend 59 = .ok (.aload_n 0, 1) := by decide +kernel
theorem d_M_friend_60 : decode c_M_friend 60 = .ok (.aload_n 0, 1) := by decide +kernel
theorem d_M_friend_61 : decode c_M_friend 61 = .ok (.getfield 7, 3) := by decide +kernel
theorem d_M_friend_64 : decode c_M_friend 64 = .ok (.iload_n 2, 1) := by decide +kernel
theorem d_M_friend_65 : decode c_M_friend 65 = .ok (.iaload, 1) := by decide +kernel
theorem d_M_friend_66 : decode c_M_friend 66 = .ok (.ifCond .eq 21, 3) := by decide +kernel
theorem d_M_friend_69 : decode c_M_friend 69 = .ok (.iload_n 3, 1) := by decide +kernel
theorem d_M_friend_70 : decode c_M_friend 70 = .ok (.ifCond .eq 21, 3) := by decide +kernel
theorem d_M_friend_73 : decode c_M_friend 73 = .ok (.iload 4, 2) := by decide +kernel
theorem d_M_friend_75 : decode c_M_friend 75 = .ok (.ifCond .ne 16, 3) := by decide +kernel
theorem d_M_friend_78 : decode c_M_friend 78 = .ok (.aload_n 0, 1) := by decide +kernel
theorem d_M_friend_79 : decode c_M_friend 79 = .ok (.invokevirtual 59, 3) := by decide +kernel
theorem d_M_friend_82 : decode c_M_friend 82 = .ok (.bipush 16, 2) := by decide +kernel
theorem d_M_friend_84 : decode c_M_friend 84 = .ok (.if_icmp .ne 7, 3) := by decide +kernel
theorem d_M_friend_87 : decode c_M_friend 87 = .ok (.iconst 2, 1) := by decide +kernel
theorem d_M_friend_88 : decode c_M_friend 88 = .ok (.goto 4, 3) := by decide +kernel
theorem d_M_friend_91 : decode c_M_friend 91 = .ok (.iconst 0, 1) := by decide +kernel
theorem d_M_friend_92 : decode c_M_friend 92 = .ok (.putfield 48, 3) := by decide +kernel
theorem d_M_friend_95 : decode c_M_friend 95 = .ok (.aload_n 0, 1) := by decide +kernel
theorem d_M_friend_96 : decode c_M_friend 96 = .ok (.getfield 48, 3) := by decide +kernel
theorem d_M_friend_99 : decode c_M_friend 99 = .ok (.ifCond .le 5, 3) := by decide +kernel
theorem d_M_friend_102 : decode c_M_friend 102 = .ok (.iconst 0, 1) := by decide +kernel
theorem d_M_friend_103 : decode c_M_friend 103 = .ok (.ireturn, 1) := by decide +kernel
theorem d_M_friend_104 : decode c_M_friend 104 = .ok (.aload_n 0, 1) := by decide +kernel
theorem d_M_friend_105 : decode c_M_friend 105 = .ok (.getfield 13, 3) := by decide +kernel
theorem d_M_friend_108 : decode c_M_friend 108 = .ok (.bipush 64, 2) := by decide +kernel
theorem d_M_friend_110 : decode c_M_friend 110 = .ok (.iload_n 2, 1) := by decide +kernel
theorem d_M_friend_111 : decode c_M_friend 111 = .ok (.imul, 1) := by decide +kernel
theorem d_M_friend_112 : decode c_M_friend 112 = .ok (.iload_n 1, 1) := by decide +kernel
theorem d_M_friend_113 : decode c_M_friend 113 = .ok (.iadd, 1) := by decide +kernel
theorem d_M_friend_114 : decode c_M_friend 114 = .ok (.iload_n 3, 1) := by decide +kernel
theorem d_M_friend_115 : decode c_M_friend 115 = .ok (.bastore, 1) := by decide +kernel
theorem d_M_friend_116 : decode c_M_friend 116 = .ok (.iload 4, 2) := by decide +kernel
theorem d_M_friend_118 : decode c_M_friend 118 = .ok (.iload_n 3, 1) := by decide +kernel
theorem d_M_friend_119 : decode c_M_friend 119 = .ok (.if_icmp .eq 7, 3) := by decide +kernel
theorem d_M_friend_122 : decode c_M_friend 122 = .ok (.iconst 1, 1) := by decide +kernel
theorem d_M_friend_123 : decode c_M_friend 123 = .ok (.goto 4, 3) := by decide +kernel
theorem d_M_friend_126 : decode c_M_friend 126 = .ok (.iconst 0, 1) := by decide +kernel
theorem d_M_friend_127 : decode c_M_friend 127 = .ok (.ireturn, 1) := by decide +kernel
theorem d_M_friendCount_0 : decode c_M_friendCount 0 = .ok (.iconst 0, 1) := by decide +kernel
theorem d_M_friendCount_1 : decode c_M_friendCount 1 = .ok (.istore_n 1, 1) := by decide +kernel
theorem d_M_friendCount_2 : decode c_M_friendCount 2 = .ok (.iconst 0, 1) := by decide +kernel
theorem d_M_friendCount_3 : decode c_M_friendCount 3 = .ok (.istore_n 2, 1) := by decide +kernel
theorem d_M_friendCount_4 : decode c_M_friendCount 4 = .ok (.iload_n 2, 1) := by decide +kernel
theorem d_M_friendCount_5 : decode c_M_friendCount 5 = .ok (.sipush 4096, 3) := by decide +kernel
theorem d_M_friendCount_8 : decode c_M_friendCount 8 = .ok (.if_icmp .ge 26, 3) := by decide +kernel
theorem d_M_friendCount_11 : decode c_M_friendCount 11 = .ok (.iload_n 1, 1) := by decide +kernel
theorem d_M_friendCount_12 : decode c_M_friendCount 12 = .ok (.aload_n 0, 1) := by decide +kernel
theorem d_M_friendCount_13 : decode c_M_friendCount 13 = .ok (.getfield 13, 3) := by decide +kernel
theorem d_M_friendCount_16 : decode c_M_friendCount 16 = .ok (.iload_n 2, 1) := by decide +kernel
theorem d_M_friendCount_17 : decode c_M_friendCount 17 = .ok (.baload, 1) := by decide +kernel
theorem d_M_friendCount_18 : decode c_M_friendCount 18 = .ok (.ifCond .eq 7, 3) := by decide +kernel
theorem d_M_friendCount_21 : decode c_M_friendCount 21 = .ok (.iconst 1, 1) := by decide +kernel
theorem d_M_friendCount_22 : decode c_M_friendCount 22 = .ok (.goto 4, 3) := by decide +kernel
theorem d_M_friendCount_25 : decode c_M_friendCount 25 = .ok (.iconst 0, 1) := by decide +kernel
theorem d_M_friendCount_26 : decode c_M_friendCount 26 = .ok (.iadd, 1) := by decide +kernel
theorem d_M_friendCount_27 : decode c_M_friendCount 27 = .ok (.istore_n 1, 1) := by decide +kernel
theorem d_M_friendCount_28 : decode c_M_friendCount 28 = .ok (.iinc 2 1, 3) := by decide +kernel
theorem d_M_friendCount_31 : decode c_M_friendCount 31 = .ok (.goto (-27), 3) := by decide +kernel
theorem d_M_friendCount_34 : decode c_M_friendCount 34 = .ok (.iload_n 1, 1) := by decide +kernel
theorem d_M_friendCount_35 : decode c_M_friendCount 35 = .ok (.ireturn, 1) := by decide +kernel
theorem d_M_begin_0 : decode c_M_begin 0 = .ok (.aload_n 0, 1) := by decide +kernel
theorem d_M_begin_1 : decode c_M_begin 1 = .ok (.iload_n 1, 1) := by decide +kernel
theorem d_M_begin_2 : decode c_M_begin 2 = .ok (.iconst 0, 1) := by decide +kernel
theorem d_M_begin_3 : decode c_M_begin 3 = .ok (.bipush 63, 2) := by decide +kernel
theorem d_M_begin_5 : decode c_M_begin 5 = .ok (.invokestatic 51, 3) := by decide +kernel
theorem d_M_begin_8 : decode c_M_begin 8 = .ok (.ifCond .eq 17, 3) := by decide +kernel
theorem d_M_begin_11 : decode c_M_begin 11 = .ok (.iload_n 2, 1) := by decide +kernel
theorem d_M_begin_12 : decode c_M_begin 12 = .ok (.iconst 1, 1) := by decide +kernel
theorem d_M_begin_13 : decode c_M_begin 13 = .ok (.ldc 66, 2) := by decide +kernel
theorem d_M_begin_15 : decode c_M_begin 15 = .ok (.invokestatic 51, 3) := by decide +kernel
theorem d_M_begin_18 : decode c_M_begin 18 = .ok (.ifCond .eq 7, 3) := by decide +kernel
theorem d_M_begin_21 : decode c_M_begin 21 = .ok (.iconst 0, 1) := by decide +kernel
theorem d_M_begin_22 : decode c_M_begin 22 = .ok (.goto 4, 3) := by decide +kernel
theorem d_M_begin_25 : decode c_M_begin 25 = .ok (.iconst 1, 1) := by decide +kernel
theorem d_M_begin_26 : decode c_M_begin 26 = .ok (.putfield 48, 3) := by decide +kernel
theorem d_M_begin_29 : decode c_M_begin 29 = .ok (.aload_n 0, 1) := by decide +kernel
theorem d_M_begin_30 : decode c_M_begin 30 = .ok (.getfield 48, 3) := by decide +kernel
theorem d_M_begin_33 : decode c_M_begin 33 = .ok (.ifCond .ne 24, 3) := by decide +kernel
theorem d_M_begin_36 : decode c_M_begin 36 = .ok (.aload_n 0, 1) := by decide +kernel
theorem d_M_begin_37 : decode c_M_begin 37 = .ok (.iload_n 1, 1) := by decide +kernel
theorem d_M_begin_38 : decode c_M_begin 38 = .ok (.putfield 67, 3) := by decide +kernel
theorem d_M_begin_41 : decode c_M_begin 41 = .ok (.aload_n 0, 1) := by decide +kernel
theorem d_M_begin_42 : decode c_M_begin 42 = .ok (.getfield 21, 3) := by decide +kernel
theorem d_M_begin_45 : decode c_M_begin 45 = .ok (.bipush 64, 2) := by decide +kernel
theorem d_M_begin_47 : decode c_M_begin 47 = .ok (.iload_n 2, 1) := by decide +kernel
theorem d_M_begin_48 : decode c_M_begin 48 = .ok (.iastore, 1) := by decide +kernel
theorem d_M_begin_49 : decode c_M_begin 49 = .ok (.aload_n 0, 1) := by decide +kernel
theorem d_M_begin_50 : decode c_M_begin 50 = .ok (.getfield 27, 3) := by decide +kernel
theorem d_M_begin_53 : decode c_M_begin 53 = .ok (.bipush 64, 2) := by decide +kernel
theorem d_M_begin_55 : decode c_M_begin 55 = .ok (.iconst 0, 1) := by decide +kernel
theorem d_M_begin_56 : decode c_M_begin 56 = .ok (.iastore, 1) := by decide +kernel
theorem d_M_begin_57 : decode c_M_begin 57 = .ok (.return_, 1) := by decide +kernel
theorem d_M_entry_0 : decode c_M_entry 0 = .ok (.iload_n 1, 1) := by decide +kernel
theorem d_M_entry_1 : decode c_M_entry 1 = .ok (.iconst (-1), 1) := by decide +kernel
theorem d_M_entry_2 : decode c_M_entry 2 = .ok (.bipush 63, 2) := by decide +kernel
theorem d_M_entry_4 : decode c_M_entry 4 = .ok (.invokestatic 51, 3) := by decide +kernel
theorem d_M_entry_7 : decode c_M_entry 7 = .ok (.ifCond .eq 46, 3) := by decide +kernel
theorem d_M_entry_10 : decode c_M_entry 10 = .ok (.iload_n 2, 1) := by decide +kernel
theorem d_M_entry_11 : decode c_M_entry 11 = .ok (.iconst 0, 1) := by decide +kernel
theorem d_M_entry_12 : decode c_M_entry 12 = .ok (.bipush 63, 2) := by decide +kernel
theorem d_M_entry_14 : decode c_M_entry 14 = .ok (.invokestatic 51, 3) := by decide +kernel
theorem d_M_entry_17 : decode c_M_entry 17 = .ok (.ifCond .eq 36, 3) := by decide +kernel
theorem d_M_entry_20 : decode c_M_entry 20 = .ok (.iload_n 3, 1) := by decide +kernel
theorem d_M_entry_21 : decode c_M_entry 21 = .ok (.iconst 1, 1) := by decide +kernel
theorem d_M_entry_22 : decode c_M_entry 22 = .ok (.sipush 1000, 3) := by decide +kernel
theorem d_M_entry_25 : decode c_M_entry 25 = .ok (.invokestatic 51, 3) := by decide +kernel
theorem d_M_entry_28 : decode c_M_entry 28 = .ok (.ifCond .eq 25, 3) := by decide +kernel
theorem d_M_entry_31 : decode c_M_entry 31 = .ok (.aload_n 0, 1) := by decide +kernel
theorem d_M_entry_32 : decode c_M_entry 32 = .ok (.getfield 21, 3) := by decide +kernel
theorem d_M_entry_35 : decode c_M_entry 35 = .ok (.bipush 64, 2) := by decide +kernel
theorem d_M_entry_37 : decode c_M_entry 37 = .ok (.iaload, 1) := by decide +kernel
theorem d_M_entry_38 : decode c_M_entry 38 = .ok (.ifCond .eq 11, 3) := by decide +kernel
theorem d_M_entry_41 : decode c_M_entry 41 = .ok (.iload_n 1, 1) := by decide +kernel
theorem d_M_entry_42 : decode c_M_entry 42 = .ok (.aload_n 0, 1) := by decide +kernel
theorem d_M_entry_43 : decode c_M_entry 43 = .ok (.getfield 67, 3) := by decide +kernel
theorem d_M_entry_46 : decode c_M_entry 46 = .ok (.if_icmp .eq 7, 3) := by decide +kernel
theorem d_M_entry_49 : decode c_M_entry 49 = .ok (.iconst 1, 1) := by decide +kernel
theorem d_M_entry_50 : decode c_M_entry 50 = .ok (.goto 4, 3) := by decide +kernel
theorem d_M_entry_53 : decode c_M_entry 53 = .ok (.iconst 0, 1) := by decide +kernel
theorem d_M_entry_54 : decode c_M_entry 54 = .ok (.istore 4, 2) := by decide +kernel
theorem d_M_entry_56 : decode c_M_entry 56 = .ok (.aload_n 0, 1) := by decide +kernel
theorem d_M_entry_57 : decode c_M_entry 57 = .ok (.iload 4, 2) := by decide +kernel
theorem d_M_entry_59 : decode c_M_entry 59 = .ok (.ifCond .ne 7, 3) := by decide +kernel
theorem d_M_entry_62 : decode c_M_entry 62 = .ok (.iconst 1, 1) := by decide +kernel
theorem d_M_entry_63 : decode c_M_entry 63 = .ok (.goto 41, 3) := by decide +kernel
theorem d_M_entry_66 : decode c_M_entry 66 = .ok (.aload_n 0, 1) := by decide +kernel
theorem d_M_entry_67 : decode c_M_entry 67 = .ok (.getfield 21, 3) := by decide +kernel
theorem d_M_entry_70 : decode c_M_entry 70 = .ok (.bipush 64, 2) := by decide +kernel
theorem d_M_entry_72 : decode c_M_entry 72 = .ok (.iaload, 1) := by decide +kernel
theorem d_M_entry_73 : decode c_M_entry 73 = .ok (.ifCond .eq 26, 3) := by decide +kernel
theorem d_M_entry_76 : decode c_M_entry 76 = .ok (.aload_n 0, 1) := by decide +kernel
theorem d_M_entry_77 : decode c_M_entry 77 = .ok (.getfield 27, 3) := by decide +kernel
theorem d_M_entry_80 : decode c_M_entry 80 = .ok (.bipush 64, 2) := by decide +kernel
theorem d_M_entry_82 : decode c_M_entry 82 = .ok (.iaload, 1) := by decide +kernel
theorem d_M_entry_83 : decode c_M_entry 83 = .ok (.bipush 24, 2) := by decide +kernel
theorem d_M_entry_85 : decode c_M_entry 85 = .ok (.if_icmp .eq 14, 3) := by decide +kernel
theorem d_M_entry_88 : decode c_M_entry 88 = .ok (.aload_n 0, 1) := by decide +kernel
theorem d_M_entry_89 : decode c_M_entry 89 = .ok (.bipush 64, 2) := by decide +kernel
theorem d_M_entry_91 : decode c_M_entry 91 = .ok (.iload_n 1, 1) := by decide +kernel
theorem d_M_entry_92 : decode c_M_entry 92 = .ok (.iload_n 2, 1) := by decide +kernel
theorem d_M_entry_93 : decode c_M_entry 93 = .ok (.invokevirtual 70, 3) := by decide +kernel
theorem d_M_entry_96 : decode c_M_entry 96 = .ok (.ifCond .lt 7, 3) := by decide +kernel
theorem d_M_entry_99 : decode c_M_entry 99 = .ok (.iconst 2, 1) := by decide +kernel
theorem d_M_entry_100 : decode c_M_entry 100 = .ok (.goto 4, 3) := by decide +kernel
theorem d_M_entry_103 : decode c_M_entry 103 = .ok (.iconst 0, 1) := by decide +kernel
theorem d_M_entry_104 : decode c_M_entry 104 = .ok (.putfield 48, 3) := by decide +kernel
theorem d_M_entry_107 : decode c_M_entry 107 = .ok (.aload_n 0, 1) := by decide +kernel
theorem d_M_entry_108 : decode c_M_entry 108 = .ok (.getfield 48, 3) := by decide +kernel
theorem d_M_entry_111 : decode c_M_entry 111 = .ok (.ifCond .le 5, 3) := by decide +kernel
theorem d_M_entry_114 : decode c_M_entry 114 = .ok (.iconst 0, 1) := by decide +kernel
theorem d_M_entry_115 : decode c_M_entry 115 = .ok (.ireturn, 1) := by decide +kernel
theorem d_M_entry_116 : decode c_M_entry 116 = .ok (.aload_n 0, 1) := by decide +kernel
theorem d_M_entry_117 : decode c_M_entry 117 = .ok (.bipush 64, 2) := by decide +kernel
theorem d_M_entry_119 : decode c_M_entry 119 = .ok (.iload_n 1, 1) := by decide +kernel
theorem d_M_entry_120 : decode c_M_entry 120 = .ok (.iload_n 2, 1) := by decide +kernel
theorem d_M_entry_121 : decode c_M_entry 121 = .ok (.iload_n 3, 1) := by decide +kernel
theorem d_M_entry_122 : decode c_M_entry 122 = .ok (.invokevirtual 62, 3) := by decide +kernel
theorem d_M_entry_125 : decode c_M_entry 125 = .ok (.aload_n 0, 1) := by decide +kernel
theorem d_M_entry_126 : decode c_M_entry 126 = .ok (.getfield 27, 3) := by decide +kernel
theorem d_M_entry_129 : decode c_M_entry 129 = .ok (.bipush 64, 2) := by decide +kernel
theorem d_M_entry_131 : decode c_M_entry 131 = .ok (.iaload, 1) := by decide +kernel
theorem d_M_entry_132 : decode c_M_entry 132 = .ok (.ireturn, 1) := by decide +kernel
theorem d_M_find_0 : decode c_M_find 0 = .ok (.iconst (-1), 1) := by decide +kernel
theorem d_M_find_1 : decode c_M_find 1 = .ok (.istore 4, 2) := by decide +kernel
theorem d_M_find_3 : decode c_M_find 3 = .ok (.bipush 24, 2) := by decide +kernel
theorem d_M_find_5 : decode c_M_find 5 = .ok (.iload_n 1, 1) := by decide +kernel
theorem d_M_find_6 : decode c_M_find 6 = .ok (.imul, 1) := by decide +kernel
theorem d_M_find_7 : decode c_M_find 7 = .ok (.istore 5, 2) := by decide +kernel
theorem d_M_find_9 : decode c_M_find 9 = .ok (.iload 5, 2) := by decide +kernel
theorem d_M_find_11 : decode c_M_find 11 = .ok (.bipush 24, 2) := by decide +kernel
theorem d_M_find_13 : decode c_M_find 13 = .ok (.iload_n 1, 1) := by decide +kernel
theorem d_M_find_14 : decode c_M_find 14 = .ok (.imul, 1) := by decide +kernel
theorem d_M_find_15 : decode c_M_find 15 = .ok (.aload_n 0, 1) := by decide +kernel
theorem d_M_find_16 : decode c_M_find 16 = .ok (.getfield 27, 3) := by decide +kernel
theorem d_M_find_19 : decode c_M_find 19 = .ok (.iload_n 1, 1) := by decide +kernel
theorem d_M_find_20 : decode c_M_find 20 = .ok (.iaload, 1) := by decide +kernel
theorem d_M_find_21 : decode c_M_find 21 = .ok (.iadd, 1) := by decide +kernel
theorem d_M_find_22 : decode c_M_find 22 = .ok (.if_icmp .ge 40, 3) := by decide +kernel
theorem d_M_find_25 : decode c_M_find 25 = .ok (.aload_n 0, 1) := by decide +kernel
theorem d_M_find_26 : decode c_M_find 26 = .ok (.getfield 30, 3) := by decide +kernel
theorem d_M_find_29 : decode c_M_find 29 = .ok (.iload 5, 2) := by decide +kernel
theorem d_M_find_31 : decode c_M_find 31 = .ok (.iaload, 1) := by decide +kernel
theorem d_M_find_32 : decode c_M_find 32 = .ok (.iload_n 2, 1) := by decide +kernel
theorem d_M_find_33 : decode c_M_find 33 = .ok (.if_icmp .ne 19, 3) := by decide +kernel
theorem d_M_find_36 : decode c_M_find 36 = .ok (.aload_n 0, 1) := by decide +kernel
theorem d_M_find_37 : decode c_M_find 37 = .ok (.getfield 33, 3) := by decide +kernel
theorem d_M_find_40 : decode c_M_find 40 = .ok (.iload 5, 2) := by decide +kernel
theorem d_M_find_42 : decode c_M_find 42 = .ok (.iaload, 1) := by decide +kernel
theorem d_M_find_43 : decode c_M_find 43 = .ok (.iload_n 3, 1) := by decide +kernel
theorem d_M_find_44 : decode c_M_find 44 = .ok (.if_icmp .ne 8, 3) := by decide +kernel
theorem d_M_find_47 : decode c_M_find 47 = .ok (.iload 5, 2) := by decide +kernel
theorem d_M_find_49 : decode c_M_find 49 = .ok (.goto 5, 3) := by decide +kernel
theorem d_M_find_52 : decode c_M_find 52 = .ok (.iload 4, 2) := by decide +kernel
theorem d_M_find_54 : decode c_M_find 54 = .ok (.istore 4, 2) := by decide +kernel
theorem d_M_find_56 : decode c_M_find 56 = .ok (.iinc 5 1, 3) := by decide +kernel
theorem d_M_find_59 : decode c_M_find 59 = .ok (.goto (-50), 3) := by decide +kernel
theorem d_M_find_62 : decode c_M_find 62 = .ok (.iload 4, 2) := by decide +kernel
theorem d_M_find_64 : decode c_M_find 64 = .ok (.ireturn, 1) := by decide +kernel
theorem d_M_add_0 : decode c_M_add 0 = .ok (.bipush 24, 2) := by decide +kernel
theorem d_M_add_2 : decode c_M_add 2 = .ok (.iload_n 1, 1) := by decide +kernel
theorem d_M_add_3 : decode c_M_add 3 = .ok (.imul, 1) := by decide +kernel
theorem d_M_add_4 : decode c_M_add 4 = .ok (.aload_n 0, 1) := by decide +kernel
theorem d_M_add_5 : decode c_M_add 5 = .ok (.getfield 27, 3) := by decide +kernel
theorem d_M_add_8 : decode c_M_add 8 = .ok (.iload_n 1, 1) := by decide +kernel
theorem d_M_add_9 : decode c_M_add 9 = .ok (.iaload, 1) := by decide +kernel
theorem d_M_add_10 : decode c_M_add 10 = .ok (.iadd, 1) := by decide +kernel
theorem d_M_add_11 : decode c_M_add 11 = .ok (.istore 5, 2) := by decide +kernel
theorem d_M_add_13 : decode c_M_add 13 = .ok (.aload_n 0, 1) := by decide +kernel
theorem d_M_add_14 : decode c_M_add 14 = .ok (.getfield 30, 3) := by decide +kernel
theorem d_M_add_17 : decode c_M_add 17 = .ok (.iload 5, 2) := by decide +kernel
theorem d_M_add_19 : decode c_M_add 19 = .ok (.iload_n 2, 1) := by decide +kernel
theorem d_M_add_20 : decode c_M_add 20 = .ok (.iastore, 1) := by decide +kernel
theorem d_M_add_21 : decode c_M_add 21 = .ok (.aload_n 0, 1) := by decide +kernel
theorem d_M_add_22 : decode c_M_add 22 = .ok (.getfield 33, 3) := by decide +kernel
theorem d_M_add_25 : decode c_M_add 25 = .ok (.iload 5, 2) := by decide +kernel
theorem d_M_add_27 : decode c_M_add 27 = .ok (.iload_n 3, 1) := by decide +kernel
theorem d_M_add_28 : decode c_M_add 28 = .ok (.iastore, 1) := by decide +kernel
theorem d_M_add_29 : decode c_M_add 29 = .ok (.aload_n 0, 1) := by decide +kernel
theorem d_M_add_30 : decode c_M_add 30 = .ok (.getfield 36, 3) := by decide +kernel
theorem d_M_add_33 : decode c_M_add 33 = .ok (.iload 5, 2) := by decide +kernel
theorem d_M_add_35 : decode c_M_add 35 = .ok (.iload 4, 2) := by decide +kernel
theorem d_M_add_37 : decode c_M_add 37 = .ok (.iastore, 1) := by decide +kernel
theorem d_M_add_38 : decode c_M_add 38 = .ok (.aload_n 0, 1) := by decide +kernel
theorem d_M_add_39 : decode c_M_add 39 = .ok (.getfield 27, 3) := by decide +kernel
theorem d_M_add_42 : decode c_M_add 42 = .ok (.iload_n 1, 1) := by decide +kernel
theorem d_M_add_43 : decode c_M_add 43 = .ok (.dup2, 1) := by decide +kernel
theorem d_M_add_44 : decode c_M_add 44 = .ok (.iaload, 1) := by decide +kernel
theorem d_M_add_45 : decode c_M_add 45 = .ok (.iconst 1, 1) := by decide +kernel
theorem d_M_add_46 : decode c_M_add 46 = .ok (.iadd, 1) := by decide +kernel
theorem d_M_add_47 : decode c_M_add 47 = .ok (.iastore, 1) := by decide +kernel
theorem d_M_add_48 : decode c_M_add 48 = .ok (.return_, 1) := by decide +kernel
theorem d_M_come_0 : decode c_M_come 0 = .ok (.aload_n 0, 1) := by decide +kernel
theorem d_M_come_1 : decode c_M_come 1 = .ok (.aload_n 0, 1) := by decide +kernel
theorem d_M_come_2 : decode c_M_come 2 = .ok (.getfield 21, 3) := by decide +kernel
theorem d_M_come_5 : decode c_M_come 5 = .ok (.bipush 64, 2) := by decide +kernel
theorem d_M_come_7 : decode c_M_come 7 = .ok (.iaload, 1) := by decide +kernel
theorem d_M_come_8 : decode c_M_come 8 = .ok (.ifCond .ne 7, 3) := by decide +kernel
theorem d_M_come_11 : decode c_M_come 11 = .ok (.iconst 1, 1) := by decide +kernel
theorem d_M_come_12 : decode c_M_come 12 = .ok (.goto 4, 3) := by decide +kernel
theorem d_M_come_15 : decode c_M_come 15 = .ok (.iconst 0, 1) := by decide +kernel
theorem d_M_come_16 : decode c_M_come 16 = .ok (.putfield 48, 3) := by decide +kernel
theorem d_M_come_19 : decode c_M_come 19 = .ok (.aload_n 0, 1) := by decide +kernel
theorem d_M_come_20 : decode c_M_come 20 = .ok (.getfield 48, 3) := by decide +kernel
theorem d_M_come_23 : decode c_M_come 23 = .ok (.ifCond .le 5, 3) := by decide +kernel
theorem d_M_come_26 : decode c_M_come 26 = .ok (.iconst 0, 1) := by decide +kernel
theorem d_M_come_27 : decode c_M_come 27 = .ok (.ireturn, 1) := by decide +kernel
theorem d_M_come_28 : decode c_M_come 28 = .ok (.aload_n 0, 1) := by decide +kernel
theorem d_M_come_29 : decode c_M_come 29 = .ok (.getfield 21, 3) := by decide +kernel
theorem d_M_come_32 : decode c_M_come 32 = .ok (.bipush 64, 2) := by decide +kernel
theorem d_M_come_34 : decode c_M_come 34 = .ok (.iaload, 1) := by decide +kernel
theorem d_M_come_35 : decode c_M_come 35 = .ok (.istore_n 1, 1) := by decide +kernel
theorem d_M_come_36 : decode c_M_come 36 = .ok (.aload_n 0, 1) := by decide +kernel
theorem d_M_come_37 : decode c_M_come 37 = .ok (.getfield 67, 3) := by decide +kernel
theorem d_M_come_40 : decode c_M_come 40 = .ok (.istore_n 2, 1) := by decide +kernel
theorem d_M_come_41 : decode c_M_come 41 = .ok (.aload_n 0, 1) := by decide +kernel
theorem d_M_come_42 : decode c_M_come 42 = .ok (.getfield 21, 3) := by decide +kernel
theorem d_M_come_45 : decode c_M_come 45 = .ok (.bipush 64, 2) := by decide +kernel
theorem d_M_come_47 : decode c_M_come 47 = .ok (.iconst 0, 1) := by decide +kernel
theorem d_M_come_48 : decode c_M_come 48 = .ok (.iastore, 1) := by decide +kernel
theorem d_M_come_49 : decode c_M_come 49 = .ok (.iload_n 2, 1) := by decide +kernel
theorem d_M_come_50 : decode c_M_come 50 = .ok (.aload_n 0, 1) := by decide +kernel
theorem d_M_come_51 : decode c_M_come 51 = .ok (.getfield 45, 3) := by decide +kernel
theorem d_M_come_54 : decode c_M_come 54 = .ok (.if_icmp .ne 39, 3) := by decide +kernel
theorem d_M_come_57 : decode c_M_come 57 = .ok (.iload_n 1, 1) := by decide +kernel
theorem d_M_come_58 : decode c_M_come 58 = .ok (.aload_n 0, 1) := by decide +kernel
theorem d_M_come_59 : decode c_M_come 59 = .ok (.getfield 74, 3) := by decide +kernel
theorem d_M_come_62 : decode c_M_come 62 = .ok (.if_icmp .le 7, 3) := by decide +kernel
theorem d_M_come_65 : decode c_M_come 65 = .ok (.iconst 3, 1) := by decide +kernel
theorem d_M_come_66 : decode c_M_come 66 = .ok (.goto 4, 3) := by decide +kernel
theorem d_M_come_69 : decode c_M_come 69 = .ok (.iconst 4, 1) := by decide +kernel
theorem d_M_come_70 : decode c_M_come 70 = .ok (.istore_n 3, 1) := by decide +kernel
theorem d_M_come_71 : decode c_M_come 71 = .ok (.aload_n 0, 1) := by decide +kernel
theorem d_M_come_72 : decode c_M_come 72 = .ok (.iload_n 1, 1) := by decide +kernel
theorem d_M_come_73 : decode c_M_come 73 = .ok (.aload_n 0, 1) := by decide +kernel
theorem d_M_come_74 : decode c_M_come 74 = .ok (.getfield 74, 3) := by decide +kernel
theorem d_M_come_77 : decode c_M_come 77 = .ok (.if_icmp .le 7, 3) := by decide +kernel
theorem d_M_come_80 : decode c_M_come 80 = .ok (.iload_n 1, 1) := by decide +kernel
theorem d_M_come_81 : decode c_M_come 81 = .ok (.goto 7, 3) := by decide +kernel
theorem d_M_come_84 : decode c_M_come 84 = .ok (.aload_n 0, 1) := by decide +kernel
theorem d_M_come_85 : decode c_M_come 85 = .ok (.getfield 74, 3) := by decide +kernel
theorem d_M_come_88 : decode c_M_come 88 = .ok (.putfield 74, 3) := by decide +kernel
theorem d_M_come_91 : decode c_M_come 91 = .ok (.iload_n 3, 1) := by decide +kernel
theorem d_M_come_92 : decode c_M_come 92 = .ok (.ireturn, 1) := by decide +kernel
theorem d_M_come_93 : decode c_M_come 93 = .ok (.aload_n 0, 1) := by decide +kernel
theorem d_M_come_94 : decode c_M_come 94 = .ok (.getfield 21, 3) := by decide +kernel
theorem d_M_come_97 : decode c_M_come 97 = .ok (.iload_n 2, 1) := by decide +kernel
theorem d_M_come_98 : decode c_M_come 98 = .ok (.iaload, 1) := by decide +kernel
theorem d_M_come_99 : decode c_M_come 99 = .ok (.iload_n 1, 1) := by decide +kernel
theorem d_M_come_100 : decode c_M_come 100 = .ok (.if_icmp .lt 19, 3) := by decide +kernel
theorem d_M_come_103 : decode c_M_come 103 = .ok (.aload_n 0, 1) := by decide +kernel
theorem d_M_come_104 : decode c_M_come 104 = .ok (.getfield 21, 3) := by decide +kernel
theorem d_M_come_107 : decode c_M_come 107 = .ok (.iload_n 2, 1) := by decide +kernel
theorem d_M_come_108 : decode c_M_come 108 = .ok (.iaload, 1) := by decide +kernel
theorem d_M_come_109 : decode c_M_come 109 = .ok (.iload_n 1, 1) := by decide +kernel
theorem d_M_come_110 : decode c_M_come 110 = .ok (.if_icmp .ne 7, 3) := by decide +kernel
theorem d_M_come_113 : decode c_M_come 113 = .ok (.iconst 1, 1) := by decide +kernel
theorem d_M_come_114 : decode c_M_come 114 = .ok (.goto 4, 3) := by decide +kernel
theorem d_M_come_117 : decode c_M_come 117 = .ok (.iconst 2, 1) := by decide +kernel
theorem d_M_come_118 : decode c_M_come 118 = .ok (.ireturn, 1) := by decide +kernel
theorem d_M_come_119 : decode c_M_come 119 = .ok (.aload_n 0, 1) := by decide +kernel
theorem d_M_come_120 : decode c_M_come 120 = .ok (.bipush 64, 2) := by decide +kernel
theorem d_M_come_122 : decode c_M_come 122 = .ok (.iload_n 2, 1) := by decide +kernel
theorem d_M_come_123 : decode c_M_come 123 = .ok (.invokevirtual 77, 3) := by decide +kernel
theorem d_M_come_126 : decode c_M_come 126 = .ok (.aload_n 0, 1) := by decide +kernel
theorem d_M_come_127 : decode c_M_come 127 = .ok (.getfield 21, 3) := by decide +kernel
theorem d_M_come_130 : decode c_M_come 130 = .ok (.iload_n 2, 1) := by decide +kernel
theorem d_M_come_131 : decode c_M_come 131 = .ok (.iload_n 1, 1) := by decide +kernel
theorem d_M_come_132 : decode c_M_come 132 = .ok (.iastore, 1) := by decide +kernel
theorem d_M_come_133 : decode c_M_come 133 = .ok (.aload_n 0, 1) := by decide +kernel
theorem d_M_come_134 : decode c_M_come 134 = .ok (.getfield 24, 3) := by decide +kernel
theorem d_M_come_137 : decode c_M_come 137 = .ok (.iload_n 2, 1) := by decide +kernel
theorem d_M_come_138 : decode c_M_come 138 = .ok (.aload_n 0, 1) := by decide +kernel
theorem d_M_come_139 : decode c_M_come 139 = .ok (.getfield 81, 3) := by decide +kernel
theorem d_M_come_142 : decode c_M_come 142 = .ok (.iastore, 1) := by decide +kernel
theorem d_M_come_143 : decode c_M_come 143 = .ok (.iconst 0, 1) := by decide +kernel
theorem d_M_come_144 : decode c_M_come 144 = .ok (.ireturn, 1) := by decide +kernel
theorem d_M_copy_0 : decode c_M_copy 0 = .ok (.aload_n 0, 1) := by decide +kernel
theorem d_M_copy_1 : decode c_M_copy 1 = .ok (.getfield 27, 3) := by decide +kernel
theorem d_M_copy_4 : decode c_M_copy 4 = .ok (.iload_n 2, 1) := by decide +kernel
theorem d_M_copy_5 : decode c_M_copy 5 = .ok (.iconst 0, 1) := by decide +kernel
theorem d_M_copy_6 : decode c_M_copy 6 = .ok (.iastore, 1) := by decide +kernel
theorem d_M_copy_7 : decode c_M_copy 7 = .ok (.bipush 24, 2) := by decide +kernel
theorem d_M_copy_9 : decode c_M_copy 9 = .ok (.iload_n 1, 1) := by decide +kernel
theorem d_M_copy_10 : decode c_M_copy 10 = .ok (.imul, 1) := by decide +kernel
theorem d_M_copy_11 : decode c_M_copy 11 = .ok (.istore_n 3, 1) := by decide +kernel
theorem d_M_copy_12 : decode c_M_copy 12 = .ok (.iload_n 3, 1) := by decide +kernel
theorem d_M_copy_13 : decode c_M_copy 13 = .ok (.bipush 24, 2) := by decide +kernel
theorem d_M_copy_15 : decode c_M_copy 15 = .ok (.iload_n 1, 1) := by decide +kernel
theorem d_M_copy_16 : decode c_M_copy 16 = .ok (.imul, 1) := by decide +kernel
theorem d_M_copy_17 : decode c_M_copy 17 = .ok (.aload_n 0, 1) := by decide +kernel
theorem d_M_copy_18 : decode c_M_copy 18 = .ok (.getfield 27, 3) := by decide +kernel
theorem d_M_copy_21 : decode c_M_copy 21 = .ok (.iload_n 1, 1) := by decide +kernel
theorem d_M_copy_22 : decode c_M_copy 22 = .ok (.iaload, 1) := by decide +kernel
theorem d_M_copy_23 : decode c_M_copy 23 = .ok (.iadd, 1) := by decide +kernel
theorem d_M_copy_24 : decode c_M_copy 24 = .ok (.if_icmp .ge 32, 3) := by decide +kernel
theorem d_M_copy_27 : decode c_M_copy 27 = .ok (.aload_n 0, 1) := by decide +kernel
theorem d_M_copy_28 : decode c_M_copy 28 = .ok (.iload_n 2, 1) := by decide +kernel
theorem d_M_copy_29 : decode c_M_copy 29 = .ok (.aload_n 0, 1) := by decide +kernel
theorem d_M_copy_30 : decode c_M_copy 30 = .ok (.getfield 30, 3) := by decide +kernel
theorem d_M_copy_33 : decode c_M_copy 33 = .ok (.iload_n 3, 1) := by decide +kernel
theorem d_M_copy_34 : decode c_M_copy 34 = .ok (.iaload, 1) := by decide +kernel
theorem d_M_copy_35 : decode c_M_copy 35 = .ok (.aload_n 0, 1) := by decide +kernel
theorem d_M_copy_36 : decode c_M_copy 36 = .ok (.getfield 33, 3) := by decide +kernel
theorem d_M_copy_39 : decode c_M_copy 39 = .ok (.iload_n 3, 1) := by decide +kernel
theorem d_M_copy_40 : decode c_M_copy 40 = .ok (.iaload, 1) := by decide +kernel
theorem d_M_copy_41 : decode c_M_copy 41 = .ok (.aload_n 0, 1) := by decide +kernel
theorem d_M_copy_42 : decode c_M_copy 42 = .ok (.getfield 36, 3) := by decide +kernel
theorem d_M_copy_45 : decode c_M_copy 45 = .ok (.iload_n 3, 1) := by decide +kernel
theorem d_M_copy_46 : decode c_M_copy 46 = .ok (.iaload, 1) := by decide +kernel
theorem d_M_copy_47 : decode c_M_copy 47 = .ok (.invokevirtual 62, 3) := by decide +kernel
theorem d_M_copy_50 : decode c_M_copy 50 = .ok (.iinc 3 1, 3) := by decide +kernel
theorem d_M_copy_53 : decode c_M_copy 53 = .ok (.goto (-41), 3) := by decide +kernel
theorem d_M_copy_56 : decode c_M_copy 56 = .ok (.return_, 1) := by decide +kernel
theorem d_M_pass_0 : decode c_M_pass 0 = .ok (.aload_n 0, 1) := by decide +kernel
theorem d_M_pass_1 : decode c_M_pass 1 = .ok (.iload_n 1, 1) := by decide +kernel
theorem d_M_pass_2 : decode c_M_pass 2 = .ok (.iconst 0, 1) := by decide +kernel
theorem d_M_pass_3 : decode c_M_pass 3 = .ok (.sipush 10000, 3) := by decide +kernel
theorem d_M_pass_6 : decode c_M_pass 6 = .ok (.invokestatic 51, 3) := by decide +kernel
theorem d_M_pass_9 : decode c_M_pass 9 = .ok (.ifCond .ne 7, 3) := by decide +kernel
theorem d_M_pass_12 : decode c_M_pass 12 = .ok (.iconst 1, 1) := by decide +kernel
theorem d_M_pass_13 : decode c_M_pass 13 = .ok (.goto 19, 3) := by decide +kernel
theorem d_M_pass_16 : decode c_M_pass 16 = .ok (.aload_n 0, 1) := by decide +kernel
theorem d_M_pass_17 : decode c_M_pass 17 = .ok (.getfield 81, 3) := by decide +kernel
theorem d_M_pass_20 : decode c_M_pass 20 = .ok (.iload_n 1, 1) := by decide +kernel
theorem d_M_pass_21 : decode c_M_pass 21 = .ok (.iadd, 1) := by decide +kernel
theorem d_M_pass_22 : decode c_M_pass 22 = .ok (.ldc 84, 2) := by decide +kernel
theorem d_M_pass_24 : decode c_M_pass 24 = .ok (.if_icmp .le 7, 3) := by decide +kernel
theorem d_M_pass_27 : decode c_M_pass 27 = .ok (.iconst 2, 1) := by decide +kernel
theorem d_M_pass_28 : decode c_M_pass 28 = .ok (.goto 4, 3) := by decide +kernel
theorem d_M_pass_31 : decode c_M_pass 31 = .ok (.iconst 0, 1) := by decide +kernel
theorem d_M_pass_32 : decode c_M_pass 32 = .ok (.putfield 48, 3) := by decide +kernel
theorem d_M_pass_35 : decode c_M_pass 35 = .ok (.aload_n 0, 1) := by decide +kernel
theorem d_M_pass_36 : decode c_M_pass 36 = .ok (.getfield 48, 3) := by decide +kernel
theorem d_M_pass_39 : decode c_M_pass 39 = .ok (.ifCond .le 5, 3) := by decide +kernel
theorem d_M_pass_42 : decode c_M_pass 42 = .ok (.iconst 0, 1) := by decide +kernel
theorem d_M_pass_43 : decode c_M_pass 43 = .ok (.ireturn, 1) := by decide +kernel
theorem d_M_pass_44 : decode c_M_pass 44 = .ok (.aload_n 0, 1) := by decide +kernel
theorem d_M_pass_45 : decode c_M_pass 45 = .ok (.dup, 1) := by decide +kernel
theorem d_M_pass_46 : decode c_M_pass 46 = .ok (.getfield 81, 3) := by decide +kernel
theorem d_M_pass_49 : decode c_M_pass 49 = .ok (.iload_n 1, 1) := by decide +kernel
theorem d_M_pass_50 : decode c_M_pass 50 = .ok (.iadd, 1) := by decide +kernel
theorem d_M_pass_51 : decode c_M_pass 51 = .ok (.putfield 81, 3) := by decide +kernel
theorem d_M_pass_54 : decode c_M_pass 54 = .ok (.iconst 0, 1) := by decide +kernel
theorem d_M_pass_55 : decode c_M_pass 55 = .ok (.istore_n 2, 1) := by decide +kernel
theorem d_M_pass_56 : decode c_M_pass 56 = .ok (.iconst 0, 1) := by decide +kernel
theorem d_M_pass_57 : decode c_M_pass 57 = .ok (.istore_n 3, 1) := by decide +kernel
theorem d_M_pass_58 : decode c_M_pass 58 = .ok (.iload_n 3, 1) := by decide +kernel
theorem d_M_pass_59 : decode c_M_pass 59 = .ok (.bipush 64, 2) := by decide +kernel
theorem d_M_pass_61 : decode c_M_pass 61 = .ok (.if_icmp .ge 97, 3) := by decide +kernel
theorem d_M_pass_64 : decode c_M_pass 64 = .ok (.aload_n 0, 1) := by decide +kernel
theorem d_M_pass_65 : decode c_M_pass 65 = .ok (.getfield 21, 3) := by decide +kernel
theorem d_M_pass_68 : decode c_M_pass 68 = .ok (.iload_n 3, 1) := by decide +kernel
theorem d_M_pass_69 : decode c_M_pass 69 = .ok (.iaload, 1) := by decide +kernel
theorem d_M_pass_70 : decode c_M_pass 70 = .ok (.ifCond .le 24, 3) := by decide +kernel
theorem d_M_pass_73 : decode c_M_pass 73 = .ok (.aload_n 0, 1) := by decide +kernel
theorem d_M_pass_74 : decode c_M_pass 74 = .ok (.getfield 81, 3) := by decide +kernel
theorem d_M_pass_77 : decode c_M_pass 77 = .ok (.aload_n 0, 1) := by decide +kernel
theorem d_M_pass_78 : decode c_M_pass 78 = .ok (.getfield 24, 3) := by decide +kernel
theorem d_M_pass_81 : decode c_M_pass 81 = .ok (.iload_n 3, 1) := by decide +kernel
theorem d_M_pass_82 : decode c_M_pass 82 = .ok (.iaload, 1) := by decide +kernel
theorem d_M_pass_83 : decode c_M_pass 83 = .ok (.isub, 1) := by decide +kernel
theorem d_M_pass_84 : decode c_M_pass 84 = .ok (.sipush 5000, 3) := by decide +kernel
theorem d_M_pass_87 : decode c_M_pass 87 = .ok (.if_icmp .lt 7, 3) := by decide +kernel
theorem d_M_pass_90 : decode c_M_pass 90 = .ok (.iconst 1, 1) := by decide +kernel
theorem d_M_pass_91 : decode c_M_pass 91 = .ok (.goto 4, 3) := by decide +kernel
theorem d_M_pass_94 : decode c_M_pass 94 = .ok (.iconst 0, 1) := by decide +kernel
theorem d_M_pass_95 : decode c_M_pass 95 = .ok (.istore 4, 2) := by decide +kernel
theorem d_M_pass_97 : decode c_M_pass 97 = .ok (.iload_n 2, 1) := by decide +kernel
theorem d_M_pass_98 : decode c_M_pass 98 = .ok (.iload 4, 2) := by decide +kernel
theorem d_M_pass_100 : decode c_M_pass 100 = .ok (.ifCond .eq 7, 3) := by decide +kernel
theorem d_M_pass_103 : decode c_M_pass 103 = .ok (.iconst 1, 1) := by decide +kernel
theorem d_M_pass_104 : decode c_M_pass 104 = .ok (.goto 4, 3) := by decide +kernel
theorem d_M_pass_107 : decode c_M_pass 107 = .ok (.iconst 0, 1) := by decide +kernel
theorem d_M_pass_108 : decode c_M_pass 108 = .ok (.iadd, 1) := by decide +kernel
theorem d_M_pass_109 : decode c_M_pass 109 = .ok (.istore_n 2, 1) := by decide +kernel
theorem d_M_pass_110 : decode c_M_pass 110 = .ok (.aload_n 0, 1) := by decide +kernel
theorem d_M_pass_111 : decode c_M_pass 111 = .ok (.getfield 21, 3) := by decide +kernel
theorem d_M_pass_114 : decode c_M_pass 114 = .ok (.iload_n 3, 1) := by decide +kernel
theorem d_M_pass_115 : decode c_M_pass 115 = .ok (.iload 4, 2) := by decide +kernel
theorem d_M_pass_117 : decode c_M_pass 117 = .ok (.ifCond .eq 7, 3) := by decide +kernel
theorem d_M_pass_120 : decode c_M_pass 120 = .ok (.iconst 0, 1) := by decide +kernel
theorem d_M_pass_121 : decode c_M_pass 121 = .ok (.goto 9, 3) := by decide +kernel
theorem d_M_pass_124 : decode c_M_pass 124 = .ok (.aload_n 0, 1) := by decide +kernel
theorem d_M_pass_125 : decode c_M_pass 125 = .ok (.getfield 21, 3) := by decide +kernel
theorem d_M_pass_128 : decode c_M_pass 128 = .ok (.iload_n 3, 1) := by decide +kernel
theorem d_M_pass_129 : decode c_M_pass 129 = .ok (.iaload, 1) := by decide +kernel
theorem d_M_pass_130 : decode c_M_pass 130 = .ok (.iastore, 1) := by decide +kernel
theorem d_M_pass_131 : decode c_M_pass 131 = .ok (.aload_n 0, 1) := by decide +kernel
theorem d_M_pass_132 : decode c_M_pass 132 = .ok (.getfield 27, 3) := by decide +kernel
theorem d_M_pass_135 : decode c_M_pass 135 = .ok (.iload_n 3, 1) := by decide +kernel
theorem d_M_pass_136 : decode c_M_pass 136 = .ok (.iload 4, 2) := by decide +kernel
theorem d_M_pass_138 : decode c_M_pass 138 = .ok (.ifCond .eq 7, 3) := by decide +kernel
theorem d_M_pass_141 : decode c_M_pass 141 = .ok (.iconst 0, 1) := by decide +kernel
theorem d_M_pass_142 : decode c_M_pass 142 = .ok (.goto 9, 3) := by decide +kernel
theorem d_M_pass_145 : decode c_M_pass 145 = .ok (.aload_n 0, 1) := by decide +kernel
theorem d_M_pass_146 : decode c_M_pass 146 = .ok (.getfield 27, 3) := by decide +kernel
theorem d_M_pass_149 : decode c_M_pass 149 = .ok (.iload_n 3, 1) := by decide +kernel
theorem d_M_pass_150 : decode c_M_pass 150 = .ok (.iaload, 1) := by decide +kernel
theorem d_M_pass_151 : decode c_M_pass 151 = .ok (.iastore, 1) := by decide +kernel
theorem d_M_pass_152 : decode c_M_pass 152 = .ok (.iinc 3 1, 3) := by decide +kernel
theorem d_M_pass_155 : decode c_M_pass 155 = .ok (.goto (-97), 3) := by decide +kernel
theorem d_M_pass_158 : decode c_M_pass 158 = .ok (.iload_n 2, 1) := by decide +kernel
theorem d_M_pass_159 : decode c_M_pass 159 = .ok (.ireturn, 1) := by decide +kernel
theorem d_M_make_0 : decode c_M_make 0 = .ok (.aload_n 0, 1) := by decide +kernel
theorem d_M_make_1 : decode c_M_make 1 = .ok (.iconst 0, 1) := by decide +kernel
theorem d_M_make_2 : decode c_M_make 2 = .ok (.putfield 48, 3) := by decide +kernel
theorem d_M_make_5 : decode c_M_make 5 = .ok (.aload_n 0, 1) := by decide +kernel
theorem d_M_make_6 : decode c_M_make 6 = .ok (.invokevirtual 85, 3) := by decide +kernel
theorem d_M_make_9 : decode c_M_make 9 = .ok (.aload_n 0, 1) := by decide +kernel
theorem d_M_make_10 : decode c_M_make 10 = .ok (.getfield 21, 3) := by decide +kernel
theorem d_M_make_13 : decode c_M_make 13 = .ok (.aload_n 0, 1) := by decide +kernel
theorem d_M_make_14 : decode c_M_make 14 = .ok (.getfield 45, 3) := by decide +kernel
theorem d_M_make_17 : decode c_M_make 17 = .ok (.iaload, 1) := by decide +kernel
theorem d_M_make_18 : decode c_M_make 18 = .ok (.ifCond .le 50, 3) := by decide +kernel
theorem d_M_make_21 : decode c_M_make 21 = .ok (.aload_n 0, 1) := by decide +kernel
theorem d_M_make_22 : decode c_M_make 22 = .ok (.invokevirtual 88, 3) := by decide +kernel
theorem d_M_make_25 : decode c_M_make 25 = .ok (.ifCond .eq 43, 3) := by decide +kernel
theorem d_M_make_28 : decode c_M_make 28 = .ok (.aload_n 0, 1) := by decide +kernel
theorem d_M_make_29 : decode c_M_make 29 = .ok (.getfield 81, 3) := by decide +kernel
theorem d_M_make_32 : decode c_M_make 32 = .ok (.aload_n 0, 1) := by decide +kernel
theorem d_M_make_33 : decode c_M_make 33 = .ok (.getfield 24, 3) := by decide +kernel
theorem d_M_make_36 : decode c_M_make 36 = .ok (.aload_n 0, 1) := by decide +kernel
theorem d_M_make_37 : decode c_M_make 37 = .ok (.getfield 45, 3) := by decide +kernel
theorem d_M_make_40 : decode c_M_make 40 = .ok (.iaload, 1) := by decide +kernel
theorem d_M_make_41 : decode c_M_make 41 = .ok (.isub, 1) := by decide +kernel
theorem d_M_make_42 : decode c_M_make 42 = .ok (.sipush 2000, 3) := by decide +kernel
theorem d_M_make_45 : decode c_M_make 45 = .ok (.if_icmp .ge 23, 3) := by decide +kernel
theorem d_M_make_48 : decode c_M_make 48 = .ok (.aload_n 0, 1) := by decide +kernel
theorem d_M_make_49 : decode c_M_make 49 = .ok (.getfield 21, 3) := by decide +kernel
theorem d_M_make_52 : decode c_M_make 52 = .ok (.aload_n 0, 1) := by decide +kernel
theorem d_M_make_53 : decode c_M_make 53 = .ok (.getfield 45, 3) := by decide +kernel
theorem d_M_make_56 : decode c_M_make 56 = .ok (.iaload, 1) := by decide +kernel
theorem d_M_make_57 : decode c_M_make 57 = .ok (.aload_n 0, 1) := by decide +kernel
theorem d_M_make_58 : decode c_M_make 58 = .ok (.getfield 74, 3) := by decide +kernel
theorem d_M_make_61 : decode c_M_make 61 = .ok (.if_icmp .lt 7, 3) := by decide +kernel
theorem d_M_make_64 : decode c_M_make 64 = .ok (.iconst 1, 1) := by decide +kernel
theorem d_M_make_65 : decode c_M_make 65 = .ok (.goto 4, 3) := by decide +kernel
theorem d_M_make_68 : decode c_M_make 68 = .ok (.iconst 0, 1) := by decide +kernel
theorem d_M_make_69 : decode c_M_make 69 = .ok (.istore_n 1, 1) := by decide +kernel
theorem d_M_make_70 : decode c_M_make 70 = .ok (.iload_n 1, 1) := by decide +kernel
theorem d_M_make_71 : decode c_M_make 71 = .ok (.ifCond .ne 17, 3) := by decide +kernel
theorem d_M_make_74 : decode c_M_make 74 = .ok (.aload_n 0, 1) := by decide +kernel
theorem d_M_make_75 : decode c_M_make 75 = .ok (.getfield 81, 3) := by decide +kernel
theorem d_M_make_78 : decode c_M_make 78 = .ok (.aload_n 0, 1) := by decide +kernel
theorem d_M_make_79 : decode c_M_make 79 = .ok (.getfield 17, 3) := by decide +kernel
theorem d_M_make_82 : decode c_M_make 82 = .ok (.isub, 1) := by decide +kernel
theorem d_M_make_83 : decode c_M_make 83 = .ok (.bipush 10, 2) := by decide +kernel
theorem d_M_make_85 : decode c_M_make 85 = .ok (.if_icmp .ge 5, 3) := by decide +kernel
theorem d_M_make_88 : decode c_M_make 88 = .ok (.iconst (-1), 1) := by decide +kernel
theorem d_M_make_89 : decode c_M_make 89 = .ok (.ireturn, 1) := by decide +kernel
theorem d_M_make_90 : decode c_M_make 90 = .ok (.aload_n 0, 1) := by decide +kernel
theorem d_M_make_91 : decode c_M_make 91 = .ok (.dup, 1) := by decide +kernel
theorem d_M_make_92 : decode c_M_make 92 = .ok (.getfield 74, 3) := by decide +kernel
theorem d_M_make_95 : decode c_M_make 95 = .ok (.iconst 1, 1) := by decide +kernel
theorem d_M_make_96 : decode c_M_make 96 = .ok (.iadd, 1) := by decide +kernel
theorem d_M_make_97 : decode c_M_make 97 = .ok (.putfield 74, 3) := by decide +kernel
theorem d_M_make_100 : decode c_M_make 100 = .ok (.aload_n 0, 1) := by decide +kernel
theorem d_M_make_101 : decode c_M_make 101 = .ok (.aload_n 0, 1) := by decide +kernel
theorem d_M_make_102 : decode c_M_make 102 = .ok (.getfield 81, 3) := by decide +kernel
theorem d_M_make_105 : decode c_M_make 105 = .ok (.putfield 17, 3) := by decide +kernel
theorem d_M_make_108 : decode c_M_make 108 = .ok (.aload_n 0, 1) := by decide +kernel
theorem d_M_make_109 : decode c_M_make 109 = .ok (.bipush 65, 2) := by decide +kernel
theorem d_M_make_111 : decode c_M_make 111 = .ok (.aload_n 0, 1) := by decide +kernel
theorem d_M_make_112 : decode c_M_make 112 = .ok (.getfield 45, 3) := by decide +kernel
theorem d_M_make_115 : decode c_M_make 115 = .ok (.invokevirtual 77, 3) := by decide +kernel
theorem d_M_make_118 : decode c_M_make 118 = .ok (.aload_n 0, 1) := by decide +kernel
theorem d_M_make_119 : decode c_M_make 119 = .ok (.getfield 21, 3) := by decide +kernel
theorem d_M_make_122 : decode c_M_make 122 = .ok (.aload_n 0, 1) := by decide +kernel
theorem d_M_make_123 : decode c_M_make 123 = .ok (.getfield 45, 3) := by decide +kernel
theorem d_M_make_126 : decode c_M_make 126 = .ok (.aload_n 0, 1) := by decide +kernel
theorem d_M_make_127 : decode c_M_make 127 = .ok (.getfield 74, 3) := by decide +kernel
theorem d_M_make_130 : decode c_M_make 130 = .ok (.iastore, 1) := by decide +kernel
theorem d_M_make_131 : decode c_M_make 131 = .ok (.aload_n 0, 1) := by decide +kernel
theorem d_M_make_132 : decode c_M_make 132 = .ok (.getfield 24, 3) := by decide +kernel
theorem d_M_make_135 : decode c_M_make 135 = .ok (.aload_n 0, 1) := by decide +kernel
theorem d_M_make_136 : decode c_M_make 136 = .ok (.getfield 45, 3) := by decide +kernel
theorem d_M_make_139 : decode c_M_make 139 = .ok (.aload_n 0, 1) := by decide +kernel
theorem d_M_make_140 : decode c_M_make 140 = .ok (.getfield 81, 3) := by decide +kernel
theorem d_M_make_143 : decode c_M_make 143 = .ok (.iastore, 1) := by decide +kernel
theorem d_M_make_144 : decode c_M_make 144 = .ok (.aload_n 0, 1) := by decide +kernel
theorem d_M_make_145 : decode c_M_make 145 = .ok (.getfield 74, 3) := by decide +kernel
theorem d_M_make_148 : decode c_M_make 148 = .ok (.ireturn, 1) := by decide +kernel
theorem d_M_tell_0 : decode c_M_tell 0 = .ok (.aload_n 0, 1) := by decide +kernel
theorem d_M_tell_1 : decode c_M_tell 1 = .ok (.getfield 27, 3) := by decide +kernel
theorem d_M_tell_4 : decode c_M_tell 4 = .ok (.bipush 65, 2) := by decide +kernel
theorem d_M_tell_6 : decode c_M_tell 6 = .ok (.iconst 0, 1) := by decide +kernel
theorem d_M_tell_7 : decode c_M_tell 7 = .ok (.iastore, 1) := by decide +kernel
theorem d_M_tell_8 : decode c_M_tell 8 = .ok (.iconst 0, 1) := by decide +kernel
theorem d_M_tell_9 : decode c_M_tell 9 = .ok (.istore_n 1, 1) := by decide +kernel
theorem d_M_tell_10 : decode c_M_tell 10 = .ok (.iload_n 1, 1) := by decide +kernel
theorem d_M_tell_11 : decode c_M_tell 11 = .ok (.bipush 64, 2) := by decide +kernel
theorem d_M_tell_13 : decode c_M_tell 13 = .ok (.if_icmp .ge 32, 3) := by decide +kernel
theorem d_M_tell_16 : decode c_M_tell 16 = .ok (.aload_n 0, 1) := by decide +kernel
theorem d_M_tell_17 : decode c_M_tell 17 = .ok (.getfield 7, 3) := by decide +kernel
theorem d_M_tell_20 : decode c_M_tell 20 = .ok (.iload_n 1, 1) := by decide +kernel
theorem d_M_tell_21 : decode c_M_tell 21 = .ok (.iaload, 1) := by decide +kernel
theorem d_M_tell_22 : decode c_M_tell 22 = .ok (.ifCond .le 17, 3) := by decide +kernel
theorem d_M_tell_25 : decode c_M_tell 25 = .ok (.aload_n 0, 1) := by decide +kernel
theorem d_M_tell_26 : decode c_M_tell 26 = .ok (.bipush 65, 2) := by decide +kernel
theorem d_M_tell_28 : decode c_M_tell 28 = .ok (.iconst (-1), 1) := by decide +kernel
theorem d_M_tell_29 : decode c_M_tell 29 = .ok (.iload_n 1, 1) := by decide +kernel
theorem d_M_tell_30 : decode c_M_tell 30 = .ok (.aload_n 0, 1) := by decide +kernel
theorem d_M_tell_31 : decode c_M_tell 31 = .ok (.getfield 7, 3) := by decide +kernel
theorem d_M_tell_34 : decode c_M_tell 34 = .ok (.iload_n 1, 1) := by decide +kernel
theorem d_M_tell_35 : decode c_M_tell 35 = .ok (.iaload, 1) := by decide +kernel
theorem d_M_tell_36 : decode c_M_tell 36 = .ok (.invokevirtual 62, 3) := by decide +kernel
theorem d_M_tell_39 : decode c_M_tell 39 = .ok (.iinc 1 1, 3) := by decide +kernel
theorem d_M_tell_42 : decode c_M_tell 42 = .ok (.goto (-32), 3) := by decide +kernel
theorem d_M_tell_45 : decode c_M_tell 45 = .ok (.iconst 0, 1) := by decide +kernel
theorem d_M_tell_46 : decode c_M_tell 46 = .ok (.istore_n 1, 1) := by decide +kernel
theorem d_M_tell_47 : decode c_M_tell 47 = .ok (.iload_n 1, 1) := by decide +kernel
theorem d_M_tell_48 : decode c_M_tell 48 = .ok (.sipush 4096, 3) := by decide +kernel
theorem d_M_tell_51 : decode c_M_tell 51 = .ok (.if_icmp .ge 41, 3) := by decide +kernel
theorem d_M_tell_54 : decode c_M_tell 54 = .ok (.aload_n 0, 1) := by decide +kernel
theorem d_M_tell_55 : decode c_M_tell 55 = .ok (.getfield 13, 3) := by decide +kernel
theorem d_M_tell_58 : decode c_M_tell 58 = .ok (.iload_n 1, 1) := by decide +kernel
theorem d_M_tell_59 : decode c_M_tell 59 = .ok (.baload, 1) := by decide +kernel
theorem d_M_tell_60 : decode c_M_tell 60 = .ok (.ifCond .eq 26, 3) := by decide +kernel
theorem d_M_tell_63 : decode c_M_tell 63 = .ok (.aload_n 0, 1) := by decide +kernel
theorem d_M_tell_64 : decode c_M_tell 64 = .ok (.bipush 65, 2) := by decide +kernel
theorem d_M_tell_66 : decode c_M_tell 66 = .ok (.iload_n 1, 1) := by decide +kernel
theorem d_M_tell_67 : decode c_M_tell 67 = .ok (.bipush 64, 2) := by decide +kernel
theorem d_M_tell_69 : decode c_M_tell 69 = .ok (.irem, 1) := by decide +kernel
theorem d_M_tell_70 : decode c_M_tell 70 = .ok (.iload_n 1, 1) := by decide +kernel
theorem d_M_tell_71 : decode c_M_tell 71 = .ok (.bipush 64, 2) := by decide +kernel
theorem d_M_tell_73 : decode c_M_tell 73 = .ok (.idiv, 1) := by decide +kernel
theorem d_M_tell_74 : decode c_M_tell 74 = .ok (.aload_n 0, 1) := by decide +kernel
theorem d_M_tell_75 : decode c_M_tell 75 = .ok (.getfield 7, 3) := by decide +kernel
theorem d_M_tell_78 : decode c_M_tell 78 = .ok (.iload_n 1, 1) := by decide +kernel
theorem d_M_tell_79 : decode c_M_tell 79 = .ok (.bipush 64, 2) := by decide +kernel
theorem d_M_tell_81 : decode c_M_tell 81 = .ok (.idiv, 1) := by decide +kernel
theorem d_M_tell_82 : decode c_M_tell 82 = .ok (.iaload, 1) := by decide +kernel
theorem d_M_tell_83 : decode c_M_tell 83 = .ok (.invokevirtual 62, 3) := by decide +kernel
theorem d_M_tell_86 : decode c_M_tell 86 = .ok (.iinc 1 1, 3) := by decide +kernel
theorem d_M_tell_89 : decode c_M_tell 89 = .ok (.goto (-42), 3) := by decide +kernel
theorem d_M_tell_92 : decode c_M_tell 92 = .ok (.return_, 1) := by decide +kernel
theorem d_M_isToldNow_0 : decode c_M_isToldNow 0 = .ok (.aload_n 0, 1) := by decide +kernel
theorem d_M_isToldNow_1 : decode c_M_isToldNow 1 = .ok (.getfield 27, 3) := by decide +kernel
theorem d_M_isToldNow_4 : decode c_M_isToldNow 4 = .ok (.bipush 65, 2) := by decide +kernel
theorem d_M_isToldNow_6 : decode c_M_isToldNow 6 = .ok (.iaload, 1) := by decide +kernel
theorem d_M_isToldNow_7 : decode c_M_isToldNow 7 = .ok (.aload_n 0, 1) := by decide +kernel
theorem d_M_isToldNow_8 : decode c_M_isToldNow 8 = .ok (.getfield 27, 3) := by decide +kernel
theorem d_M_isToldNow_11 : decode c_M_isToldNow 11 = .ok (.aload_n 0, 1) := by decide +kernel
theorem d_M_isToldNow_12 : decode c_M_isToldNow 12 = .ok (.getfield 45, 3) := by decide +kernel
theorem d_M_isToldNow_15 : decode c_M_isToldNow 15 = .ok (.iaload, 1) := by decide +kernel
theorem d_M_isToldNow_16 : decode c_M_isToldNow 16 = .ok (.if_icmp .ne 7, 3) := by decide +kernel
theorem d_M_isToldNow_19 : decode c_M_isToldNow 19 = .ok (.iconst 1, 1) := by decide +kernel
theorem d_M_isToldNow_20 : decode c_M_isToldNow 20 = .ok (.goto 4, 3) := by decide +kernel
theorem d_M_isToldNow_23 : decode c_M_isToldNow 23 = .ok (.iconst 0, 1) := by decide +kernel
theorem d_M_isToldNow_24 : decode c_M_isToldNow 24 = .ok (.istore_n 1, 1) := by decide +kernel
theorem d_M_isToldNow_25 : decode c_M_isToldNow 25 = .ok (.iconst 0, 1) := by decide +kernel
theorem d_M_isToldNow_26 : decode c_M_isToldNow 26 = .ok (.istore_n 2, 1) := by decide +kernel
theorem d_M_isToldNow_27 : decode c_M_isToldNow 27 = .ok (.iload_n 2, 1) := by decide +kernel
theorem d_M_isToldNow_28 : decode c_M_isToldNow 28 = .ok (.aload_n 0, 1) := by decide +kernel
theorem d_M_isToldNow_29 : decode c_M_isToldNow 29 = .ok (.getfield 27, 3) := by decide +kernel
theorem d_M_isToldNow_32 : decode c_M_isToldNow 32 = .ok (.bipush 65, 2) := by decide +kernel
theorem d_M_isToldNow_34 : decode c_M_isToldNow 34 = .ok (.iaload, 1) := by decide +kernel
theorem d_M_isToldNow_35 : decode c_M_isToldNow 35 = .ok (.if_icmp .ge 84, 3) := by decide +kernel
theorem d_M_isToldNow_38 : decode c_M_isToldNow 38 = .ok (.iload_n 1, 1) := by decide +kernel
theorem d_M_isToldNow_39 : decode c_M_isToldNow 39 = .ok (.ifCond .eq 80, 3) := by decide +kernel
theorem d_M_isToldNow_42 : decode c_M_isToldNow 42 = .ok (.sipush 1560, 3) := by decide +kernel
theorem d_M_isToldNow_45 : decode c_M_isToldNow 45 = .ok (.iload_n 2, 1) := by decide +kernel
theorem d_M_isToldNow_46 : decode c_M_isToldNow 46 = .ok (.iadd, 1) := by decide +kernel
theorem d_M_isToldNow_47 : decode c_M_isToldNow 47 = .ok (.istore_n 3, 1) := by decide +kernel
theorem d_M_isToldNow_48 : decode c_M_isToldNow 48 = .ok (.bipush 24, 2) := by decide +kernel
theorem d_M_isToldNow_50 : decode c_M_isToldNow 50 = .ok (.aload_n 0, 1) := by decide +kernel
theorem d_M_isToldNow_51 : decode c_M_isToldNow 51 = .ok (.getfield 45, 3) := by decide +kernel
theorem d_M_isToldNow_54 : decode c_M_isToldNow 54 = .ok (.imul, 1) := by decide +kernel
theorem d_M_isToldNow_55 : decode c_M_isToldNow 55 = .ok (.iload_n 2, 1) := by decide +kernel
theorem d_M_isToldNow_56 : decode c_M_isToldNow 56 = .ok (.iadd, 1) := by decide +kernel
theorem d_M_isToldNow_57 : decode c_M_isToldNow 57 = .ok (.istore 4, 2) := by decide +kernel
theorem d_M_isToldNow_59 : decode c_M_isToldNow 59 = .ok (.aload_n 0, 1) := by decide +kernel
theorem d_M_isToldNow_60 : decode c_M_isToldNow 60 = .ok (.getfield 30, 3) := by decide +kernel
theorem d_M_isToldNow_63 : decode c_M_isToldNow 63 = .ok (.iload_n 3, 1) := by decide +kernel
theorem d_M_isToldNow_64 : decode c_M_isToldNow 64 = .ok (.iaload, 1) := by decide +kernel
theorem d_M_isToldNow_65 : decode c_M_isToldNow 65 = .ok (.aload_n 0, 1) := by decide +kernel
theorem d_M_isToldNow_66 : decode c_M_isToldNow 66 = .ok (.getfield 30, 3) := by decide +kernel
theorem d_M_isToldNow_69 : decode c_M_isToldNow 69 = .ok (.iload 4, 2) := by decide +kernel
theorem d_M_isToldNow_71 : decode c_M_isToldNow 71 = .ok (.iaload, 1) := by decide +kernel
theorem d_M_isToldNow_72 : decode c_M_isToldNow 72 = .ok (.if_icmp .ne 39, 3) := by decide +kernel
theorem d_M_isToldNow_75 : decode c_M_isToldNow 75 = .ok (.aload_n 0, 1) := by decide +kernel
theorem d_M_isToldNow_76 : decode c_M_isToldNow 76 = .ok (.getfield 33, 3) := by decide +kernel
theorem d_M_isToldNow_79 : decode c_M_isToldNow 79 = .ok (.iload_n 3, 1) := by decide +kernel
theorem d_M_isToldNow_80 : decode c_M_isToldNow 80 = .ok (.iaload, 1) := by decide +kernel
theorem d_M_isToldNow_81 : decode c_M_isToldNow 81 = .ok (.aload_n 0, 1) := by decide +kernel
theorem d_M_isToldNow_82 : decode c_M_isToldNow 82 = .ok (.getfield 33, 3) := by decide +kernel
theorem d_M_isToldNow_85 : decode c_M_isToldNow 85 = .ok (.iload 4, 2) := by decide +kernel
theorem d_M_isToldNow_87 : decode c_M_isToldNow 87 = .ok (.iaload, 1) := by decide +kernel
theorem d_M_isToldNow_88 : decode c_M_isToldNow 88 = .ok (.if_icmp .ne 23, 3) := by decide +kernel
theorem d_M_isToldNow_91 : decode c_M_isToldNow 91 = .ok (.aload_n 0, 1) := by decide +kernel
theorem d_M_isToldNow_92 : decode c_M_isToldNow 92 = .ok (.getfield 36, 3) := by decide +kernel
theorem d_M_isToldNow_95 : decode c_M_isToldNow 95 = .ok (.iload_n 3, 1) := by decide +kernel
theorem d_M_isToldNow_96 : decode c_M_isToldNow 96 = .ok (.iaload, 1) := by decide +kernel
theorem d_M_isToldNow_97 : decode c_M_isToldNow 97 = .ok (.aload_n 0, 1) := by decide +kernel
theorem d_M_isToldNow_98 : decode c_M_isToldNow 98 = .ok (.getfield 36, 3) := by decide +kernel
theorem d_M_isToldNow_101 : decode c_M_isToldNow 101 = .ok (.iload 4, 2) := by decide +kernel
theorem d_M_isToldNow_103 : decode c_M_isToldNow 103 = .ok (.iaload, 1) := by decide +kernel
theorem d_M_isToldNow_104 : decode c_M_isToldNow 104 = .ok (.if_icmp .ne 7, 3) := by decide +kernel
theorem d_M_isToldNow_107 : decode c_M_isToldNow 107 = .ok (.iconst 1, 1) := by decide +kernel
theorem d_M_isToldNow_108 : decode c_M_isToldNow 108 = .ok (.goto 4, 3) := by decide +kernel
theorem d_M_isToldNow_111 : decode c_M_isToldNow 111 = .ok (.iconst 0, 1) := by decide +kernel
theorem d_M_isToldNow_112 : decode c_M_isToldNow 112 = .ok (.istore_n 1, 1) := by decide +kernel
theorem d_M_isToldNow_113 : decode c_M_isToldNow 113 = .ok (.iinc 2 1, 3) := by decide +kernel
theorem d_M_isToldNow_116 : decode c_M_isToldNow 116 = .ok (.goto (-89), 3) := by decide +kernel
theorem d_M_isToldNow_119 : decode c_M_isToldNow 119 = .ok (.iload_n 1, 1) := by decide +kernel
theorem d_M_isToldNow_120 : decode c_M_isToldNow 120 = .ok (.ireturn, 1) := by decide +kernel
theorem d_M_number_0 : decode c_M_number 0 = .ok (.aload_n 0, 1) := by decide +kernel
theorem d_M_number_1 : decode c_M_number 1 = .ok (.iload_n 1, 1) := by decide +kernel
theorem d_M_number_2 : decode c_M_number 2 = .ok (.iconst 0, 1) := by decide +kernel
theorem d_M_number_3 : decode c_M_number 3 = .ok (.bipush 63, 2) := by decide +kernel
theorem d_M_number_5 : decode c_M_number 5 = .ok (.invokestatic 51, 3) := by decide +kernel
theorem d_M_number_8 : decode c_M_number 8 = .ok (.ifCond .eq 7, 3) := by decide +kernel
theorem d_M_number_11 : decode c_M_number 11 = .ok (.iconst 0, 1) := by decide +kernel
theorem d_M_number_12 : decode c_M_number 12 = .ok (.goto 4, 3) := by decide +kernel
theorem d_M_number_15 : decode c_M_number 15 = .ok (.iconst 1, 1) := by decide +kernel
theorem d_M_number_16 : decode c_M_number 16 = .ok (.putfield 48, 3) := by decide +kernel
theorem d_M_number_19 : decode c_M_number 19 = .ok (.aload_n 0, 1) := by decide +kernel
theorem d_M_number_20 : decode c_M_number 20 = .ok (.getfield 48, 3) := by decide +kernel
theorem d_M_number_23 : decode c_M_number 23 = .ok (.ifCond .le 7, 3) := by decide +kernel
theorem d_M_number_26 : decode c_M_number 26 = .ok (.iconst 0, 1) := by decide +kernel
theorem d_M_number_27 : decode c_M_number 27 = .ok (.goto 22, 3) := by decide +kernel
theorem d_M_number_30 : decode c_M_number 30 = .ok (.aload_n 0, 1) := by decide +kernel
theorem d_M_number_31 : decode c_M_number 31 = .ok (.getfield 21, 3) := by decide +kernel
theorem d_M_number_34 : decode c_M_number 34 = .ok (.iload_n 1, 1) := by decide +kernel
theorem d_M_number_35 : decode c_M_number 35 = .ok (.iaload, 1) := by decide +kernel
theorem d_M_number_36 : decode c_M_number 36 = .ok (.ifCond .ne 7, 3) := by decide +kernel
theorem d_M_number_39 : decode c_M_number 39 = .ok (.iconst (-1), 1) := by decide +kernel
theorem d_M_number_40 : decode c_M_number 40 = .ok (.goto 9, 3) := by decide +kernel
theorem d_M_number_43 : decode c_M_number 43 = .ok (.aload_n 0, 1) := by decide +kernel
theorem d_M_number_44 : decode c_M_number 44 = .ok (.getfield 21, 3) := by decide +kernel
theorem d_M_number_47 : decode c_M_number 47 = .ok (.iload_n 1, 1) := by decide +kernel
theorem d_M_number_48 : decode c_M_number 48 = .ok (.iaload, 1) := by decide +kernel
theorem d_M_number_49 : decode c_M_number 49 = .ok (.ireturn, 1) := by decide +kernel
theorem d_M_told_0 : decode c_M_told 0 = .ok (.aload_n 0, 1) := by decide +kernel
theorem d_M_told_1 : decode c_M_told 1 = .ok (.iload_n 1, 1) := by decide +kernel
theorem d_M_told_2 : decode c_M_told 2 = .ok (.iconst 0, 1) := by decide +kernel
theorem d_M_told_3 : decode c_M_told 3 = .ok (.bipush 63, 2) := by decide +kernel
theorem d_M_told_5 : decode c_M_told 5 = .ok (.invokestatic 51, 3) := by decide +kernel
theorem d_M_told_8 : decode c_M_told 8 = .ok (.ifCond .eq 12, 3) := by decide +kernel
theorem d_M_told_11 : decode c_M_told 11 = .ok (.iload_n 3, 1) := by decide +kernel
theorem d_M_told_12 : decode c_M_told 12 = .ok (.iconst 0, 1) := by decide +kernel
theorem d_M_told_13 : decode c_M_told 13 = .ok (.iconst 2, 1) := by decide +kernel
theorem d_M_told_14 : decode c_M_told 14 = .ok (.invokestatic 51, 3) := by decide +kernel
theorem d_M_told_17 : decode c_M_told 17 = .ok (.ifCond .ne 7, 3) := by decide +kernel
theorem d_M_told_20 : decode c_M_told 20 = .ok (.iconst 1, 1) := by decide +kernel
theorem d_M_told_21 : decode c_M_told 21 = .ok (.goto 31, 3) := by decide +kernel
theorem d_M_told_24 : decode c_M_told 24 = .ok (.aload_n 0, 1) := by decide +kernel
theorem d_M_told_25 : decode c_M_told 25 = .ok (.getfield 21, 3) := by decide +kernel
theorem d_M_told_28 : decode c_M_told 28 = .ok (.iload_n 1, 1) := by decide +kernel
theorem d_M_told_29 : decode c_M_told 29 = .ok (.iaload, 1) := by decide +kernel
theorem d_M_told_30 : decode c_M_told 30 = .ok (.ifCond .eq 17, 3) := by decide +kernel
theorem d_M_told_33 : decode c_M_told 33 = .ok (.iload_n 2, 1) := by decide +kernel
theorem d_M_told_34 : decode c_M_told 34 = .ok (.ifCond .lt 13, 3) := by decide +kernel
theorem d_M_told_37 : decode c_M_told 37 = .ok (.iload_n 2, 1) := by decide +kernel
theorem d_M_told_38 : decode c_M_told 38 = .ok (.aload_n 0, 1) := by decide +kernel
theorem d_M_told_39 : decode c_M_told 39 = .ok (.getfield 27, 3) := by decide +kernel
theorem d_M_told_42 : decode c_M_told 42 = .ok (.iload_n 1, 1) := by decide +kernel
theorem d_M_told_43 : decode c_M_told 43 = .ok (.iaload, 1) := by decide +kernel
theorem d_M_told_44 : decode c_M_told 44 = .ok (.if_icmp .lt 7, 3) := by decide +kernel
theorem d_M_told_47 : decode c_M_told 47 = .ok (.iconst 2, 1) := by decide +kernel
theorem d_M_told_48 : decode c_M_told 48 = .ok (.goto 4, 3) := by decide +kernel
theorem d_M_told_51 : decode c_M_told 51 = .ok (.iconst 0, 1) := by decide +kernel
theorem d_M_told_52 : decode c_M_told 52 = .ok (.putfield 48, 3) := by decide +kernel
theorem d_M_told_55 : decode c_M_told 55 = .ok (.aload_n 0, 1) := by decide +kernel
theorem d_M_told_56 : decode c_M_told 56 = .ok (.getfield 48, 3) := by decide +kernel
theorem d_M_told_59 : decode c_M_told 59 = .ok (.ifCond .le 5, 3) := by decide +kernel
theorem d_M_told_62 : decode c_M_told 62 = .ok (.iconst 0, 1) := by decide +kernel
theorem d_M_told_63 : decode c_M_told 63 = .ok (.ireturn, 1) := by decide +kernel
theorem d_M_told_64 : decode c_M_told 64 = .ok (.bipush 24, 2) := by decide +kernel
theorem d_M_told_66 : decode c_M_told 66 = .ok (.iload_n 1, 1) := by decide +kernel
theorem d_M_told_67 : decode c_M_told 67 = .ok (.imul, 1) := by decide +kernel
theorem d_M_told_68 : decode c_M_told 68 = .ok (.iload_n 2, 1) := by decide +kernel
theorem d_M_told_69 : decode c_M_told 69 = .ok (.iadd, 1) := by decide +kernel
theorem d_M_told_70 : decode c_M_told 70 = .ok (.istore 4, 2) := by decide +kernel
theorem d_M_told_72 : decode c_M_told 72 = .ok (.iload_n 3, 1) := by decide +kernel
theorem d_M_told_73 : decode c_M_told 73 = .ok (.ifCond .ne 13, 3) := by decide +kernel
theorem d_M_told_76 : decode c_M_told 76 = .ok (.aload_n 0, 1) := by decide +kernel
theorem d_M_told_77 : decode c_M_told 77 = .ok (.getfield 30, 3) := by decide +kernel
theorem d_M_told_80 : decode c_M_told 80 = .ok (.iload 4, 2) := by decide +kernel
theorem d_M_told_82 : decode c_M_told 82 = .ok (.iaload, 1) := by decide +kernel
theorem d_M_told_83 : decode c_M_told 83 = .ok (.goto 25, 3) := by decide +kernel
theorem d_M_told_86 : decode c_M_told 86 = .ok (.iload_n 3, 1) := by decide +kernel
theorem d_M_told_87 : decode c_M_told 87 = .ok (.iconst 1, 1) := by decide +kernel
theorem d_M_told_88 : decode c_M_told 88 = .ok (.if_icmp .ne 13, 3) := by decide +kernel
theorem d_M_told_91 : decode c_M_told 91 = .ok (.aload_n 0, 1) := by decide +kernel
theorem d_M_told_92 : decode c_M_told 92 = .ok (.getfield 33, 3) := by decide +kernel
theorem d_M_told_95 : decode c_M_told 95 = .ok (.iload 4, 2) := by decide +kernel
theorem d_M_told_97 : decode c_M_told 97 = .ok (.iaload, 1) := by decide +kernel
theorem d_M_told_98 : decode c_M_told 98 = .ok (.goto 10, 3) := by decide +kernel
theorem d_M_told_101 : decode c_M_told 101 = .ok (.aload_n 0, 1) := by decide +kernel
theorem d_M_told_102 : decode c_M_told 102 = .ok (.getfield 36, 3) := by decide +kernel
theorem d_M_told_105 : decode c_M_told 105 = .ok (.iload 4, 2) := by decide +kernel
theorem d_M_told_107 : decode c_M_told 107 = .ok (.iaload, 1) := by decide +kernel
theorem d_M_told_108 : decode c_M_told 108 = .ok (.ireturn, 1) := by decide +kernel
theorem d_M_entries_0 : decode c_M_entries 0 = .ok (.aload_n 0, 1) := by decide +kernel
theorem d_M_entries_1 : decode c_M_entries 1 = .ok (.iload_n 1, 1) := by decide +kernel
theorem d_M_entries_2 : decode c_M_entries 2 = .ok (.iconst 0, 1) := by decide +kernel
theorem d_M_entries_3 : decode c_M_entries 3 = .ok (.bipush 63, 2) := by decide +kernel
theorem d_M_entries_5 : decode c_M_entries 5 = .ok (.invokestatic 51, 3) := by decide +kernel
theorem d_M_entries_8 : decode c_M_entries 8 = .ok (.ifCond .eq 7, 3) := by decide +kernel
theorem d_M_entries_11 : decode c_M_entries 11 = .ok (.iconst 0, 1) := by decide +kernel
theorem d_M_entries_12 : decode c_M_entries 12 = .ok (.goto 4, 3) := by decide +kernel
theorem d_M_entries_15 : decode c_M_entries 15 = .ok (.iconst 1, 1) := by decide +kernel
theorem d_M_entries_16 : decode c_M_entries 16 = .ok (.putfield 48, 3) := by decide +kernel
theorem d_M_entries_19 : decode c_M_entries 19 = .ok (.aload_n 0, 1) := by decide +kernel
theorem d_M_entries_20 : decode c_M_entries 20 = .ok (.getfield 48, 3) := by decide +kernel
theorem d_M_entries_23 : decode c_M_entries 23 = .ok (.ifCond .le 7, 3) := by decide +kernel
theorem d_M_entries_26 : decode c_M_entries 26 = .ok (.iconst 0, 1) := by decide +kernel
theorem d_M_entries_27 : decode c_M_entries 27 = .ok (.goto 22, 3) := by decide +kernel
theorem d_M_entries_30 : decode c_M_entries 30 = .ok (.aload_n 0, 1) := by decide +kernel
theorem d_M_entries_31 : decode c_M_entries 31 = .ok (.getfield 21, 3) := by decide +kernel
theorem d_M_entries_34 : decode c_M_entries 34 = .ok (.iload_n 1, 1) := by decide +kernel
theorem d_M_entries_35 : decode c_M_entries 35 = .ok (.iaload, 1) := by decide +kernel
theorem d_M_entries_36 : decode c_M_entries 36 = .ok (.ifCond .ne 7, 3) := by decide +kernel
theorem d_M_entries_39 : decode c_M_entries 39 = .ok (.iconst (-1), 1) := by decide +kernel
theorem d_M_entries_40 : decode c_M_entries 40 = .ok (.goto 9, 3) := by decide +kernel
theorem d_M_entries_43 : decode c_M_entries 43 = .ok (.aload_n 0, 1) := by decide +kernel
theorem d_M_entries_44 : decode c_M_entries 44 = .ok (.getfield 27, 3) := by decide +kernel
theorem d_M_entries_47 : decode c_M_entries 47 = .ok (.iload_n 1, 1) := by decide +kernel
theorem d_M_entries_48 : decode c_M_entries 48 = .ok (.iaload, 1) := by decide +kernel
theorem d_M_entries_49 : decode c_M_entries 49 = .ok (.ireturn, 1) := by decide +kernel
theorem d_M_age_0 : decode c_M_age 0 = .ok (.aload_n 0, 1) := by decide +kernel
theorem d_M_age_1 : decode c_M_age 1 = .ok (.iload_n 1, 1) := by decide +kernel
theorem d_M_age_2 : decode c_M_age 2 = .ok (.iconst 0, 1) := by decide +kernel
theorem d_M_age_3 : decode c_M_age 3 = .ok (.bipush 63, 2) := by decide +kernel
theorem d_M_age_5 : decode c_M_age 5 = .ok (.invokestatic 51, 3) := by decide +kernel
theorem d_M_age_8 : decode c_M_age 8 = .ok (.ifCond .eq 7, 3) := by decide +kernel
theorem d_M_age_11 : decode c_M_age 11 = .ok (.iconst 0, 1) := by decide +kernel
theorem d_M_age_12 : decode c_M_age 12 = .ok (.goto 4, 3) := by decide +kernel
theorem d_M_age_15 : decode c_M_age 15 = .ok (.iconst 1, 1) := by decide +kernel
theorem d_M_age_16 : decode c_M_age 16 = .ok (.putfield 48, 3) := by decide +kernel
theorem d_M_age_19 : decode c_M_age 19 = .ok (.aload_n 0, 1) := by decide +kernel
theorem d_M_age_20 : decode c_M_age 20 = .ok (.getfield 48, 3) := by decide +kernel
theorem d_M_age_23 : decode c_M_age 23 = .ok (.ifCond .le 7, 3) := by decide +kernel
theorem d_M_age_26 : decode c_M_age 26 = .ok (.iconst 0, 1) := by decide +kernel
theorem d_M_age_27 : decode c_M_age 27 = .ok (.goto 27, 3) := by decide +kernel
theorem d_M_age_30 : decode c_M_age 30 = .ok (.aload_n 0, 1) := by decide +kernel
theorem d_M_age_31 : decode c_M_age 31 = .ok (.getfield 21, 3) := by decide +kernel
theorem d_M_age_34 : decode c_M_age 34 = .ok (.iload_n 1, 1) := by decide +kernel
theorem d_M_age_35 : decode c_M_age 35 = .ok (.iaload, 1) := by decide +kernel
theorem d_M_age_36 : decode c_M_age 36 = .ok (.ifCond .ne 7, 3) := by decide +kernel
theorem d_M_age_39 : decode c_M_age 39 = .ok (.iconst (-1), 1) := by decide +kernel
theorem d_M_age_40 : decode c_M_age 40 = .ok (.goto 14, 3) := by decide +kernel
theorem d_M_age_43 : decode c_M_age 43 = .ok (.aload_n 0, 1) := by decide +kernel
theorem d_M_age_44 : decode c_M_age 44 = .ok (.getfield 81, 3) := by decide +kernel
theorem d_M_age_47 : decode c_M_age 47 = .ok (.aload_n 0, 1) := by decide +kernel
theorem d_M_age_48 : decode c_M_age 48 = .ok (.getfield 24, 3) := by decide +kernel
theorem d_M_age_51 : decode c_M_age 51 = .ok (.iload_n 1, 1) := by decide +kernel
theorem d_M_age_52 : decode c_M_age 52 = .ok (.iaload, 1) := by decide +kernel
theorem d_M_age_53 : decode c_M_age 53 = .ok (.isub, 1) := by decide +kernel
theorem d_M_age_54 : decode c_M_age 54 = .ok (.ireturn, 1) := by decide +kernel
end
section
theorem d_M_distance_0 : decode c_M_distance 0 = .ok (.aload_n 0, 1) := by decide +kernel
theorem d_M_distance_1 : decode c_M_distance 1 = .ok (.iload_n 1, 1) := by decide +kernel
theorem d_M_distance_2 : decode c_M_distance 2 = .ok (.iconst 0, 1) := by decide +kernel
theorem d_M_distance_3 : decode c_M_distance 3 = .ok (.bipush 63, 2) := by decide +kernel
theorem d_M_distance_5 : decode c_M_distance 5 = .ok (.invokestatic 51, 3) := by decide +kernel
theorem d_M_distance_8 : decode c_M_distance 8 = .ok (.ifCond .eq 7, 3) := by decide +kernel
theorem d_M_distance_11 : decode c_M_distance 11 = .ok (.iconst 0, 1) := by decide +kernel
theorem d_M_distance_12 : decode c_M_distance 12 = .ok (.goto 4, 3) := by decide +kernel
theorem d_M_distance_15 : decode c_M_distance 15 = .ok (.iconst 1, 1) := by decide +kernel
theorem d_M_distance_16 : decode c_M_distance 16 = .ok (.putfield 48, 3) := by decide +kernel
theorem d_M_distance_19 : decode c_M_distance 19 = .ok (.aload_n 0, 1) := by decide +kernel
theorem d_M_distance_20 : decode c_M_distance 20 = .ok (.getfield 48, 3) := by decide +kernel
theorem d_M_distance_23 : decode c_M_distance 23 = .ok (.ifCond .le 5, 3) := by decide +kernel
theorem d_M_distance_26 : decode c_M_distance 26 = .ok (.iconst 0, 1) := by decide +kernel
theorem d_M_distance_27 : decode c_M_distance 27 = .ok (.ireturn, 1) := by decide +kernel
theorem d_M_distance_28 : decode c_M_distance 28 = .ok (.aload_n 0, 1) := by decide +kernel
theorem d_M_distance_29 : decode c_M_distance 29 = .ok (.invokevirtual 92, 3) := by decide +kernel
theorem d_M_distance_32 : decode c_M_distance 32 = .ok (.aload_n 0, 1) := by decide +kernel
theorem d_M_distance_33 : decode c_M_distance 33 = .ok (.aload_n 0, 1) := by decide +kernel
theorem d_M_distance_34 : decode c_M_distance 34 = .ok (.getfield 45, 3) := by decide +kernel
theorem d_M_distance_37 : decode c_M_distance 37 = .ok (.invokevirtual 95, 3) := by decide +kernel
theorem d_M_distance_40 : decode c_M_distance 40 = .ok (.aload_n 0, 1) := by decide +kernel
theorem d_M_distance_41 : decode c_M_distance 41 = .ok (.getfield 42, 3) := by decide +kernel
theorem d_M_distance_44 : decode c_M_distance 44 = .ok (.iload_n 1, 1) := by decide +kernel
theorem d_M_distance_45 : decode c_M_distance 45 = .ok (.iaload, 1) := by decide +kernel
theorem d_M_distance_46 : decode c_M_distance 46 = .ok (.ireturn, 1) := by decide +kernel
theorem d_M_check_0 : decode c_M_check 0 = .ok (.iconst 0, 1) := by decide +kernel
theorem d_M_check_1 : decode c_M_check 1 = .ok (.istore_n 1, 1) := by decide +kernel
theorem d_M_check_2 : decode c_M_check 2 = .ok (.iload_n 1, 1) := by decide +kernel
theorem d_M_check_3 : decode c_M_check 3 = .ok (.bipush 64, 2) := by decide +kernel
theorem d_M_check_5 : decode c_M_check 5 = .ok (.if_icmp .ge 75, 3) := by decide +kernel
theorem d_M_check_8 : decode c_M_check 8 = .ok (.bipush 24, 2) := by decide +kernel
theorem d_M_check_10 : decode c_M_check 10 = .ok (.iload_n 1, 1) := by decide +kernel
theorem d_M_check_11 : decode c_M_check 11 = .ok (.imul, 1) := by decide +kernel
theorem d_M_check_12 : decode c_M_check 12 = .ok (.istore_n 2, 1) := by decide +kernel
theorem d_M_check_13 : decode c_M_check 13 = .ok (.iload_n 2, 1) := by decide +kernel
theorem d_M_check_14 : decode c_M_check 14 = .ok (.bipush 24, 2) := by decide +kernel
theorem d_M_check_16 : decode c_M_check 16 = .ok (.iload_n 1, 1) := by decide +kernel
theorem d_M_check_17 : decode c_M_check 17 = .ok (.imul, 1) := by decide +kernel
theorem d_M_check_18 : decode c_M_check 18 = .ok (.aload_n 0, 1) := by decide +kernel
theorem d_M_check_19 : decode c_M_check 19 = .ok (.getfield 27, 3) := by decide +kernel
theorem d_M_check_22 : decode c_M_check 22 = .ok (.iload_n 1, 1) := by decide +kernel
theorem d_M_check_23 : decode c_M_check 23 = .ok (.iaload, 1) := by decide +kernel
theorem d_M_check_24 : decode c_M_check 24 = .ok (.iadd, 1) := by decide +kernel
theorem d_M_check_25 : decode c_M_check 25 = .ok (.if_icmp .ge 49, 3) := by decide +kernel
theorem d_M_check_28 : decode c_M_check 28 = .ok (.aload_n 0, 1) := by decide +kernel
theorem d_M_check_29 : decode c_M_check 29 = .ok (.getfield 39, 3) := by decide +kernel
theorem d_M_check_32 : decode c_M_check 32 = .ok (.iload_n 2, 1) := by decide +kernel
theorem d_M_check_33 : decode c_M_check 33 = .ok (.aload_n 0, 1) := by decide +kernel
theorem d_M_check_34 : decode c_M_check 34 = .ok (.getfield 30, 3) := by decide +kernel
theorem d_M_check_37 : decode c_M_check 37 = .ok (.iload_n 2, 1) := by decide +kernel
theorem d_M_check_38 : decode c_M_check 38 = .ok (.iaload, 1) := by decide +kernel
theorem d_M_check_39 : decode c_M_check 39 = .ok (.ifCond .lt 27, 3) := by decide +kernel
theorem d_M_check_42 : decode c_M_check 42 = .ok (.aload_n 0, 1) := by decide +kernel
theorem d_M_check_43 : decode c_M_check 43 = .ok (.aload_n 0, 1) := by decide +kernel
theorem d_M_check_44 : decode c_M_check 44 = .ok (.getfield 30, 3) := by decide +kernel
theorem d_M_check_47 : decode c_M_check 47 = .ok (.iload_n 2, 1) := by decide +kernel
theorem d_M_check_48 : decode c_M_check 48 = .ok (.iaload, 1) := by decide +kernel
theorem d_M_check_49 : decode c_M_check 49 = .ok (.iload_n 1, 1) := by decide +kernel
theorem d_M_check_50 : decode c_M_check 50 = .ok (.aload_n 0, 1) := by decide +kernel
theorem d_M_check_51 : decode c_M_check 51 = .ok (.getfield 33, 3) := by decide +kernel
theorem d_M_check_54 : decode c_M_check 54 = .ok (.iload_n 2, 1) := by decide +kernel
theorem d_M_check_55 : decode c_M_check 55 = .ok (.iaload, 1) := by decide +kernel
theorem d_M_check_56 : decode c_M_check 56 = .ok (.invokevirtual 70, 3) := by decide +kernel
theorem d_M_check_59 : decode c_M_check 59 = .ok (.ifCond .lt 7, 3) := by decide +kernel
theorem d_M_check_62 : decode c_M_check 62 = .ok (.iconst 1, 1) := by decide +kernel
theorem d_M_check_63 : decode c_M_check 63 = .ok (.goto 4, 3) := by decide +kernel
theorem d_M_check_66 : decode c_M_check 66 = .ok (.iconst 0, 1) := by decide +kernel
theorem d_M_check_67 : decode c_M_check 67 = .ok (.bastore, 1) := by decide +kernel
theorem d_M_check_68 : decode c_M_check 68 = .ok (.iinc 2 1, 3) := by decide +kernel
theorem d_M_check_71 : decode c_M_check 71 = .ok (.goto (-58), 3) := by decide +kernel
theorem d_M_check_74 : decode c_M_check 74 = .ok (.iinc 1 1, 3) := by decide +kernel
theorem d_M_check_77 : decode c_M_check 77 = .ok (.goto (-75), 3) := by decide +kernel
theorem d_M_check_80 : decode c_M_check 80 = .ok (.return_, 1) := by decide +kernel
theorem d_M_spread_0 : decode c_M_spread 0 = .ok (.iconst 0, 1) := by decide +kernel
theorem d_M_spread_1 : decode c_M_spread 1 = .ok (.istore_n 2, 1) := by decide +kernel
theorem d_M_spread_2 : decode c_M_spread 2 = .ok (.iload_n 2, 1) := by decide +kernel
theorem d_M_spread_3 : decode c_M_spread 3 = .ok (.bipush 64, 2) := by decide +kernel
theorem d_M_spread_5 : decode c_M_spread 5 = .ok (.if_icmp .ge 25, 3) := by decide +kernel
theorem d_M_spread_8 : decode c_M_spread 8 = .ok (.aload_n 0, 1) := by decide +kernel
theorem d_M_spread_9 : decode c_M_spread 9 = .ok (.getfield 42, 3) := by decide +kernel
theorem d_M_spread_12 : decode c_M_spread 12 = .ok (.iload_n 2, 1) := by decide +kernel
theorem d_M_spread_13 : decode c_M_spread 13 = .ok (.iload_n 2, 1) := by decide +kernel
theorem d_M_spread_14 : decode c_M_spread 14 = .ok (.iload_n 1, 1) := by decide +kernel
theorem d_M_spread_15 : decode c_M_spread 15 = .ok (.if_icmp .ne 7, 3) := by decide +kernel
theorem d_M_spread_18 : decode c_M_spread 18 = .ok (.iconst 0, 1) := by decide +kernel
theorem d_M_spread_19 : decode c_M_spread 19 = .ok (.goto 4, 3) := by decide +kernel
theorem d_M_spread_22 : decode c_M_spread 22 = .ok (.iconst (-1), 1) := by decide +kernel
theorem d_M_spread_23 : decode c_M_spread 23 = .ok (.iastore, 1) := by decide +kernel
theorem d_M_spread_24 : decode c_M_spread 24 = .ok (.iinc 2 1, 3) := by decide +kernel
theorem d_M_spread_27 : decode c_M_spread 27 = .ok (.goto (-25), 3) := by decide +kernel
theorem d_M_spread_30 : decode c_M_spread 30 = .ok (.iconst 1, 1) := by decide +kernel
theorem d_M_spread_31 : decode c_M_spread 31 = .ok (.istore_n 2, 1) := by decide +kernel
theorem d_M_spread_32 : decode c_M_spread 32 = .ok (.iload_n 2, 1) := by decide +kernel
theorem d_M_spread_33 : decode c_M_spread 33 = .ok (.ifCond .eq 135, 3) := by decide +kernel
theorem d_M_spread_36 : decode c_M_spread 36 = .ok (.iconst 0, 1) := by decide +kernel
theorem d_M_spread_37 : decode c_M_spread 37 = .ok (.istore_n 2, 1) := by decide +kernel
theorem d_M_spread_38 : decode c_M_spread 38 = .ok (.iconst 0, 1) := by decide +kernel
theorem d_M_spread_39 : decode c_M_spread 39 = .ok (.istore_n 3, 1) := by decide +kernel
theorem d_M_spread_40 : decode c_M_spread 40 = .ok (.iload_n 3, 1) := by decide +kernel
theorem d_M_spread_41 : decode c_M_spread 41 = .ok (.bipush 64, 2) := by decide +kernel
theorem d_M_spread_43 : decode c_M_spread 43 = .ok (.if_icmp .ge 122, 3) := by decide +kernel
theorem d_M_spread_46 : decode c_M_spread 46 = .ok (.bipush 24, 2) := by decide +kernel
theorem d_M_spread_48 : decode c_M_spread 48 = .ok (.iload_n 3, 1) := by decide +kernel
theorem d_M_spread_49 : decode c_M_spread 49 = .ok (.imul, 1) := by decide +kernel
theorem d_M_spread_50 : decode c_M_spread 50 = .ok (.istore 4, 2) := by decide +kernel
theorem d_M_spread_52 : decode c_M_spread 52 = .ok (.iload 4, 2) := by decide +kernel
theorem d_M_spread_54 : decode c_M_spread 54 = .ok (.bipush 24, 2) := by decide +kernel
theorem d_M_spread_56 : decode c_M_spread 56 = .ok (.iload_n 3, 1) := by decide +kernel
theorem d_M_spread_57 : decode c_M_spread 57 = .ok (.imul, 1) := by decide +kernel
theorem d_M_spread_58 : decode c_M_spread 58 = .ok (.aload_n 0, 1) := by decide +kernel
theorem d_M_spread_59 : decode c_M_spread 59 = .ok (.getfield 27, 3) := by decide +kernel
theorem d_M_spread_62 : decode c_M_spread 62 = .ok (.iload_n 3, 1) := by decide +kernel
theorem d_M_spread_63 : decode c_M_spread 63 = .ok (.iaload, 1) := by decide +kernel
theorem d_M_spread_64 : decode c_M_spread 64 = .ok (.iadd, 1) := by decide +kernel
theorem d_M_spread_65 : decode c_M_spread 65 = .ok (.if_icmp .ge 94, 3) := by decide +kernel
theorem d_M_spread_68 : decode c_M_spread 68 = .ok (.aload_n 0, 1) := by decide +kernel
theorem d_M_spread_69 : decode c_M_spread 69 = .ok (.getfield 42, 3) := by decide +kernel
theorem d_M_spread_72 : decode c_M_spread 72 = .ok (.iload_n 3, 1) := by decide +kernel
theorem d_M_spread_73 : decode c_M_spread 73 = .ok (.iaload, 1) := by decide +kernel
theorem d_M_spread_74 : decode c_M_spread 74 = .ok (.ifCond .lt 85, 3) := by decide +kernel
theorem d_M_spread_77 : decode c_M_spread 77 = .ok (.aload_n 0, 1) := by decide +kernel
theorem d_M_spread_78 : decode c_M_spread 78 = .ok (.getfield 30, 3) := by decide +kernel
theorem d_M_spread_81 : decode c_M_spread 81 = .ok (.iload 4, 2) := by decide +kernel
theorem d_M_spread_83 : decode c_M_spread 83 = .ok (.iaload, 1) := by decide +kernel
theorem d_M_spread_84 : decode c_M_spread 84 = .ok (.istore 5, 2) := by decide +kernel
theorem d_M_spread_86 : decode c_M_spread 86 = .ok (.aload_n 0, 1) := by decide +kernel
theorem d_M_spread_87 : decode c_M_spread 87 = .ok (.getfield 39, 3) := by decide +kernel
theorem d_M_spread_90 : decode c_M_spread 90 = .ok (.iload 4, 2) := by decide +kernel
theorem d_M_spread_92 : decode c_M_spread 92 = .ok (.baload, 1) := by decide +kernel
theorem d_M_spread_93 : decode c_M_spread 93 = .ok (.ifCond .eq 60, 3) := by decide +kernel
theorem d_M_spread_96 : decode c_M_spread 96 = .ok (.aload_n 0, 1) := by decide +kernel
theorem d_M_spread_97 : decode c_M_spread 97 = .ok (.getfield 42, 3) := by decide +kernel
theorem d_M_spread_100 : decode c_M_spread 100 = .ok (.iload 5, 2) := by decide +kernel
theorem d_M_spread_102 : decode c_M_spread 102 = .ok (.iaload, 1) := by decide +kernel
theorem d_M_spread_103 : decode c_M_spread 103 = .ok (.ifCond .lt 27, 3) := by decide +kernel
theorem d_M_spread_106 : decode c_M_spread 106 = .ok (.aload_n 0, 1) := by decide +kernel
theorem d_M_spread_107 : decode c_M_spread 107 = .ok (.getfield 42, 3) := by decide +kernel
theorem d_M_spread_110 : decode c_M_spread 110 = .ok (.iload_n 3, 1) := by decide +kernel
theorem d_M_spread_111 : decode c_M_spread 111 = .ok (.iaload, 1) := by decide +kernel
theorem d_M_spread_112 : decode c_M_spread 112 = .ok (.aload_n 0, 1) := by decide +kernel
theorem d_M_spread_113 : decode c_M_spread 113 = .ok (.getfield 36, 3) := by decide +kernel
theorem d_M_spread_116 : decode c_M_spread 116 = .ok (.iload 4, 2) := by decide +kernel
theorem d_M_spread_118 : decode c_M_spread 118 = .ok (.iaload, 1) := by decide +kernel
theorem d_M_spread_119 : decode c_M_spread 119 = .ok (.iadd, 1) := by decide +kernel
theorem d_M_spread_120 : decode c_M_spread 120 = .ok (.aload_n 0, 1) := by decide +kernel
theorem d_M_spread_121 : decode c_M_spread 121 = .ok (.getfield 42, 3) := by decide +kernel
theorem d_M_spread_124 : decode c_M_spread 124 = .ok (.iload 5, 2) := by decide +kernel
theorem d_M_spread_126 : decode c_M_spread 126 = .ok (.iaload, 1) := by decide +kernel
theorem d_M_spread_127 : decode c_M_spread 127 = .ok (.if_icmp .ge 26, 3) := by decide +kernel
theorem d_M_spread_130 : decode c_M_spread 130 = .ok (.aload_n 0, 1) := by decide +kernel
theorem d_M_spread_131 : decode c_M_spread 131 = .ok (.getfield 42, 3) := by decide +kernel
theorem d_M_spread_134 : decode c_M_spread 134 = .ok (.iload 5, 2) := by decide +kernel
theorem d_M_spread_136 : decode c_M_spread 136 = .ok (.aload_n 0, 1) := by decide +kernel
theorem d_M_spread_137 : decode c_M_spread 137 = .ok (.getfield 42, 3) := by decide +kernel
theorem d_M_spread_140 : decode c_M_spread 140 = .ok (.iload_n 3, 1) := by decide +kernel
theorem d_M_spread_141 : decode c_M_spread 141 = .ok (.iaload, 1) := by decide +kernel
theorem d_M_spread_142 : decode c_M_spread 142 = .ok (.aload_n 0, 1) := by decide +kernel
theorem d_M_spread_143 : decode c_M_spread 143 = .ok (.getfield 36, 3) := by decide +kernel
theorem d_M_spread_146 : decode c_M_spread 146 = .ok (.iload 4, 2) := by decide +kernel
theorem d_M_spread_148 : decode c_M_spread 148 = .ok (.iaload, 1) := by decide +kernel
theorem d_M_spread_149 : decode c_M_spread 149 = .ok (.iadd, 1) := by decide +kernel
theorem d_M_spread_150 : decode c_M_spread 150 = .ok (.iastore, 1) := by decide +kernel
theorem d_M_spread_151 : decode c_M_spread 151 = .ok (.iconst 1, 1) := by decide +kernel
theorem d_M_spread_152 : decode c_M_spread 152 = .ok (.istore_n 2, 1) := by decide +kernel
theorem d_M_spread_153 : decode c_M_spread 153 = .ok (.iinc 4 1, 3) := by decide +kernel
theorem d_M_spread_156 : decode c_M_spread 156 = .ok (.goto (-104), 3) := by decide +kernel
theorem d_M_spread_159 : decode c_M_spread 159 = .ok (.iinc 3 1, 3) := by decide +kernel
theorem d_M_spread_162 : decode c_M_spread 162 = .ok (.goto (-122), 3) := by decide +kernel
theorem d_M_spread_165 : decode c_M_spread 165 = .ok (.goto (-133), 3) := by decide +kernel
theorem d_M_spread_168 : decode c_M_spread 168 = .ok (.return_, 1) := by decide +kernel
theorem d_M_cost_0 : decode c_M_cost 0 = .ok (.aload_n 0, 1) := by decide +kernel
theorem d_M_cost_1 : decode c_M_cost 1 = .ok (.iload_n 1, 1) := by decide +kernel
theorem d_M_cost_2 : decode c_M_cost 2 = .ok (.iconst 0, 1) := by decide +kernel
theorem d_M_cost_3 : decode c_M_cost 3 = .ok (.bipush 63, 2) := by decide +kernel
theorem d_M_cost_5 : decode c_M_cost 5 = .ok (.invokestatic 51, 3) := by decide +kernel
theorem d_M_cost_8 : decode c_M_cost 8 = .ok (.ifCond .eq 7, 3) := by decide +kernel
theorem d_M_cost_11 : decode c_M_cost 11 = .ok (.iconst 0, 1) := by decide +kernel
theorem d_M_cost_12 : decode c_M_cost 12 = .ok (.goto 4, 3) := by decide +kernel
theorem d_M_cost_15 : decode c_M_cost 15 = .ok (.iconst 1, 1) := by decide +kernel
theorem d_M_cost_16 : decode c_M_cost 16 = .ok (.putfield 48, 3) := by decide +kernel
theorem d_M_cost_19 : decode c_M_cost 19 = .ok (.aload_n 0, 1) := by decide +kernel
theorem d_M_cost_20 : decode c_M_cost 20 = .ok (.getfield 48, 3) := by decide +kernel
theorem d_M_cost_23 : decode c_M_cost 23 = .ok (.ifCond .le 5, 3) := by decide +kernel
theorem d_M_cost_26 : decode c_M_cost 26 = .ok (.iconst 0, 1) := by decide +kernel
theorem d_M_cost_27 : decode c_M_cost 27 = .ok (.ireturn, 1) := by decide +kernel
theorem d_M_cost_28 : decode c_M_cost 28 = .ok (.aload_n 0, 1) := by decide +kernel
theorem d_M_cost_29 : decode c_M_cost 29 = .ok (.invokevirtual 92, 3) := by decide +kernel
theorem d_M_cost_32 : decode c_M_cost 32 = .ok (.aload_n 0, 1) := by decide +kernel
theorem d_M_cost_33 : decode c_M_cost 33 = .ok (.aload_n 0, 1) := by decide +kernel
theorem d_M_cost_34 : decode c_M_cost 34 = .ok (.getfield 45, 3) := by decide +kernel
theorem d_M_cost_37 : decode c_M_cost 37 = .ok (.invokevirtual 95, 3) := by decide +kernel
theorem d_M_cost_40 : decode c_M_cost 40 = .ok (.aload_n 0, 1) := by decide +kernel
theorem d_M_cost_41 : decode c_M_cost 41 = .ok (.iload_n 1, 1) := by decide +kernel
theorem d_M_cost_42 : decode c_M_cost 42 = .ok (.invokevirtual 99, 3) := by decide +kernel
theorem d_M_cost_45 : decode c_M_cost 45 = .ok (.ireturn, 1) := by decide +kernel
theorem d_M_reach_0 : decode c_M_reach 0 = .ok (.iconst (-1), 1) := by decide +kernel
theorem d_M_reach_1 : decode c_M_reach 1 = .ok (.istore_n 2, 1) := by decide +kernel
theorem d_M_reach_2 : decode c_M_reach 2 = .ok (.iconst 0, 1) := by decide +kernel
theorem d_M_reach_3 : decode c_M_reach 3 = .ok (.istore_n 3, 1) := by decide +kernel
theorem d_M_reach_4 : decode c_M_reach 4 = .ok (.iload_n 3, 1) := by decide +kernel
theorem d_M_reach_5 : decode c_M_reach 5 = .ok (.bipush 64, 2) := by decide +kernel
theorem d_M_reach_7 : decode c_M_reach 7 = .ok (.if_icmp .ge 78, 3) := by decide +kernel
theorem d_M_reach_10 : decode c_M_reach 10 = .ok (.aload_n 0, 1) := by decide +kernel
theorem d_M_reach_11 : decode c_M_reach 11 = .ok (.getfield 42, 3) := by decide +kernel
theorem d_M_reach_14 : decode c_M_reach 14 = .ok (.iload_n 3, 1) := by decide +kernel
theorem d_M_reach_15 : decode c_M_reach 15 = .ok (.iaload, 1) := by decide +kernel
theorem d_M_reach_16 : decode c_M_reach 16 = .ok (.ifCond .ge 7, 3) := by decide +kernel
theorem d_M_reach_19 : decode c_M_reach 19 = .ok (.iconst (-1), 1) := by decide +kernel
theorem d_M_reach_20 : decode c_M_reach 20 = .ok (.goto 10, 3) := by decide +kernel
theorem d_M_reach_23 : decode c_M_reach 23 = .ok (.aload_n 0, 1) := by decide +kernel
theorem d_M_reach_24 : decode c_M_reach 24 = .ok (.iload_n 3, 1) := by decide +kernel
theorem d_M_reach_25 : decode c_M_reach 25 = .ok (.iconst (-1), 1) := by decide +kernel
theorem d_M_reach_26 : decode c_M_reach 26 = .ok (.iload_n 1, 1) := by decide +kernel
theorem d_M_reach_27 : decode c_M_reach 27 = .ok (.invokevirtual 70, 3) := by decide +kernel
theorem d_M_reach_30 : decode c_M_reach 30 = .ok (.istore 4, 2) := by decide +kernel
theorem d_M_reach_32 : decode c_M_reach 32 = .ok (.iload 4, 2) := by decide +kernel
theorem d_M_reach_34 : decode c_M_reach 34 = .ok (.ifCond .ge 7, 3) := by decide +kernel
theorem d_M_reach_37 : decode c_M_reach 37 = .ok (.iconst (-1), 1) := by decide +kernel
theorem d_M_reach_38 : decode c_M_reach 38 = .ok (.goto 17, 3) := by decide +kernel
theorem d_M_reach_41 : decode c_M_reach 41 = .ok (.aload_n 0, 1) := by decide +kernel
theorem d_M_reach_42 : decode c_M_reach 42 = .ok (.getfield 42, 3) := by decide +kernel
theorem d_M_reach_45 : decode c_M_reach 45 = .ok (.iload_n 3, 1) := by decide +kernel
theorem d_M_reach_46 : decode c_M_reach 46 = .ok (.iaload, 1) := by decide +kernel
theorem d_M_reach_47 : decode c_M_reach 47 = .ok (.aload_n 0, 1) := by decide +kernel
theorem d_M_reach_48 : decode c_M_reach 48 = .ok (.getfield 36, 3) := by decide +kernel
theorem d_M_reach_51 : decode c_M_reach 51 = .ok (.iload 4, 2) := by decide +kernel
theorem d_M_reach_53 : decode c_M_reach 53 = .ok (.iaload, 1) := by decide +kernel
theorem d_M_reach_54 : decode c_M_reach 54 = .ok (.iadd, 1) := by decide +kernel
theorem d_M_reach_55 : decode c_M_reach 55 = .ok (.istore 5, 2) := by decide +kernel
theorem d_M_reach_57 : decode c_M_reach 57 = .ok (.iload 5, 2) := by decide +kernel
theorem d_M_reach_59 : decode c_M_reach 59 = .ok (.ifCond .lt 18, 3) := by decide +kernel
theorem d_M_reach_62 : decode c_M_reach 62 = .ok (.iload_n 2, 1) := by decide +kernel
theorem d_M_reach_63 : decode c_M_reach 63 = .ok (.ifCond .lt 9, 3) := by decide +kernel
theorem d_M_reach_66 : decode c_M_reach 66 = .ok (.iload 5, 2) := by decide +kernel
theorem d_M_reach_68 : decode c_M_reach 68 = .ok (.iload_n 2, 1) := by decide +kernel
theorem d_M_reach_69 : decode c_M_reach 69 = .ok (.if_icmp .ge 8, 3) := by decide +kernel
theorem d_M_reach_72 : decode c_M_reach 72 = .ok (.iload 5, 2) := by decide +kernel
theorem d_M_reach_74 : decode c_M_reach 74 = .ok (.goto 4, 3) := by decide +kernel
theorem d_M_reach_77 : decode c_M_reach 77 = .ok (.iload_n 2, 1) := by decide +kernel
theorem d_M_reach_78 : decode c_M_reach 78 = .ok (.istore_n 2, 1) := by decide +kernel
theorem d_M_reach_79 : decode c_M_reach 79 = .ok (.iinc 3 1, 3) := by decide +kernel
theorem d_M_reach_82 : decode c_M_reach 82 = .ok (.goto (-78), 3) := by decide +kernel
theorem d_M_reach_85 : decode c_M_reach 85 = .ok (.iload_n 2, 1) := by decide +kernel
theorem d_M_reach_86 : decode c_M_reach 86 = .ok (.ireturn, 1) := by decide +kernel
theorem d_M_firsts_0 : decode c_M_firsts 0 = .ok (.aload_n 0, 1) := by decide +kernel
theorem d_M_firsts_1 : decode c_M_firsts 1 = .ok (.iload_n 1, 1) := by decide +kernel
theorem d_M_firsts_2 : decode c_M_firsts 2 = .ok (.iconst 0, 1) := by decide +kernel
theorem d_M_firsts_3 : decode c_M_firsts 3 = .ok (.bipush 63, 2) := by decide +kernel
theorem d_M_firsts_5 : decode c_M_firsts 5 = .ok (.invokestatic 51, 3) := by decide +kernel
theorem d_M_firsts_8 : decode c_M_firsts 8 = .ok (.ifCond .eq 7, 3) := by decide +kernel
theorem d_M_firsts_11 : decode c_M_firsts 11 = .ok (.iconst 0, 1) := by decide +kernel
theorem d_M_firsts_12 : decode c_M_firsts 12 = .ok (.goto 4, 3) := by decide +kernel
theorem d_M_firsts_15 : decode c_M_firsts 15 = .ok (.iconst 1, 1) := by decide +kernel
theorem d_M_firsts_16 : decode c_M_firsts 16 = .ok (.putfield 48, 3) := by decide +kernel
theorem d_M_firsts_19 : decode c_M_firsts 19 = .ok (.aload_n 0, 1) := by decide +kernel
theorem d_M_firsts_20 : decode c_M_firsts 20 = .ok (.getfield 48, 3) := by decide +kernel
theorem d_M_firsts_23 : decode c_M_firsts 23 = .ok (.ifCond .le 7, 3) := by decide +kernel
theorem d_M_firsts_26 : decode c_M_firsts 26 = .ok (.iconst 0, 1) := by decide +kernel
theorem d_M_firsts_27 : decode c_M_firsts 27 = .ok (.goto 9, 3) := by decide +kernel
theorem d_M_firsts_30 : decode c_M_firsts 30 = .ok (.aload_n 0, 1) := by decide +kernel
theorem d_M_firsts_31 : decode c_M_firsts 31 = .ok (.iload_n 1, 1) := by decide +kernel
theorem d_M_firsts_32 : decode c_M_firsts 32 = .ok (.iconst (-1), 1) := by decide +kernel
theorem d_M_firsts_33 : decode c_M_firsts 33 = .ok (.invokevirtual 103, 3) := by decide +kernel
theorem d_M_firsts_36 : decode c_M_firsts 36 = .ok (.ireturn, 1) := by decide +kernel
theorem d_M_step_0 : decode c_M_step 0 = .ok (.aload_n 0, 1) := by decide +kernel
theorem d_M_step_1 : decode c_M_step 1 = .ok (.invokevirtual 92, 3) := by decide +kernel
theorem d_M_step_4 : decode c_M_step 4 = .ok (.aload_n 0, 1) := by decide +kernel
theorem d_M_step_5 : decode c_M_step 5 = .ok (.aload_n 0, 1) := by decide +kernel
theorem d_M_step_6 : decode c_M_step 6 = .ok (.getfield 45, 3) := by decide +kernel
theorem d_M_step_9 : decode c_M_step 9 = .ok (.invokevirtual 95, 3) := by decide +kernel
theorem d_M_step_12 : decode c_M_step 12 = .ok (.aload_n 0, 1) := by decide +kernel
theorem d_M_step_13 : decode c_M_step 13 = .ok (.iload_n 1, 1) := by decide +kernel
theorem d_M_step_14 : decode c_M_step 14 = .ok (.invokevirtual 99, 3) := by decide +kernel
theorem d_M_step_17 : decode c_M_step 17 = .ok (.istore_n 3, 1) := by decide +kernel
theorem d_M_step_18 : decode c_M_step 18 = .ok (.aload_n 0, 1) := by decide +kernel
theorem d_M_step_19 : decode c_M_step 19 = .ok (.aload_n 0, 1) := by decide +kernel
theorem d_M_step_20 : decode c_M_step 20 = .ok (.getfield 45, 3) := by decide +kernel
theorem d_M_step_23 : decode c_M_step 23 = .ok (.iconst (-1), 1) := by decide +kernel
theorem d_M_step_24 : decode c_M_step 24 = .ok (.iload_n 1, 1) := by decide +kernel
theorem d_M_step_25 : decode c_M_step 25 = .ok (.invokevirtual 70, 3) := by decide +kernel
theorem d_M_step_28 : decode c_M_step 28 = .ok (.istore 4, 2) := by decide +kernel
theorem d_M_step_30 : decode c_M_step 30 = .ok (.iconst 0, 1) := by decide +kernel
theorem d_M_step_31 : decode c_M_step 31 = .ok (.istore 5, 2) := by decide +kernel
theorem d_M_step_33 : decode c_M_step 33 = .ok (.iconst (-1), 1) := by decide +kernel
theorem d_M_step_34 : decode c_M_step 34 = .ok (.istore 6, 2) := by decide +kernel
theorem d_M_step_36 : decode c_M_step 36 = .ok (.iload_n 3, 1) := by decide +kernel
theorem d_M_step_37 : decode c_M_step 37 = .ok (.ifCond .lt 19, 3) := by decide +kernel
theorem d_M_step_40 : decode c_M_step 40 = .ok (.iload 4, 2) := by decide +kernel
theorem d_M_step_42 : decode c_M_step 42 = .ok (.ifCond .lt 18, 3) := by decide +kernel
theorem d_M_step_45 : decode c_M_step 45 = .ok (.aload_n 0, 1) := by decide +kernel
theorem d_M_step_46 : decode c_M_step 46 = .ok (.getfield 36, 3) := by decide +kernel
theorem d_M_step_49 : decode c_M_step 49 = .ok (.iload 4, 2) := by decide +kernel
theorem d_M_step_51 : decode c_M_step 51 = .ok (.iaload, 1) := by decide +kernel
theorem d_M_step_52 : decode c_M_step 52 = .ok (.iload_n 3, 1) := by decide +kernel
theorem d_M_step_53 : decode c_M_step 53 = .ok (.if_icmp .ne 7, 3) := by decide +kernel
theorem d_M_step_56 : decode c_M_step 56 = .ok (.iconst 1, 1) := by decide +kernel
theorem d_M_step_57 : decode c_M_step 57 = .ok (.goto 4, 3) := by decide +kernel
theorem d_M_step_60 : decode c_M_step 60 = .ok (.iconst 0, 1) := by decide +kernel
theorem d_M_step_61 : decode c_M_step 61 = .ok (.istore 7, 2) := by decide +kernel
theorem d_M_step_63 : decode c_M_step 63 = .ok (.bipush 24, 2) := by decide +kernel
theorem d_M_step_65 : decode c_M_step 65 = .ok (.aload_n 0, 1) := by decide +kernel
theorem d_M_step_66 : decode c_M_step 66 = .ok (.getfield 45, 3) := by decide +kernel
theorem d_M_step_69 : decode c_M_step 69 = .ok (.imul, 1) := by decide +kernel
theorem d_M_step_70 : decode c_M_step 70 = .ok (.istore 8, 2) := by decide +kernel
theorem d_M_step_72 : decode c_M_step 72 = .ok (.iload 8, 2) := by decide +kernel
theorem d_M_step_74 : decode c_M_step 74 = .ok (.bipush 24, 2) := by decide +kernel
theorem d_M_step_76 : decode c_M_step 76 = .ok (.aload_n 0, 1) := by decide +kernel
theorem d_M_step_77 : decode c_M_step 77 = .ok (.getfield 45, 3) := by decide +kernel
theorem d_M_step_80 : decode c_M_step 80 = .ok (.imul, 1) := by decide +kernel
theorem d_M_step_81 : decode c_M_step 81 = .ok (.aload_n 0, 1) := by decide +kernel
theorem d_M_step_82 : decode c_M_step 82 = .ok (.getfield 27, 3) := by decide +kernel
theorem d_M_step_85 : decode c_M_step 85 = .ok (.aload_n 0, 1) := by decide +kernel
theorem d_M_step_86 : decode c_M_step 86 = .ok (.getfield 45, 3) := by decide +kernel
theorem d_M_step_89 : decode c_M_step 89 = .ok (.iaload, 1) := by decide +kernel
theorem d_M_step_90 : decode c_M_step 90 = .ok (.iadd, 1) := by decide +kernel
theorem d_M_step_91 : decode c_M_step 91 = .ok (.if_icmp .ge 119, 3) := by decide +kernel
theorem d_M_step_94 : decode c_M_step 94 = .ok (.iload 7, 2) := by decide +kernel
theorem d_M_step_96 : decode c_M_step 96 = .ok (.ifCond .ne 114, 3) := by decide +kernel
theorem d_M_step_99 : decode c_M_step 99 = .ok (.aload_n 0, 1) := by decide +kernel
theorem d_M_step_100 : decode c_M_step 100 = .ok (.getfield 39, 3) := by decide +kernel
theorem d_M_step_103 : decode c_M_step 103 = .ok (.iload 8, 2) := by decide +kernel
theorem d_M_step_105 : decode c_M_step 105 = .ok (.baload, 1) := by decide +kernel
theorem d_M_step_106 : decode c_M_step 106 = .ok (.ifCond .eq 98, 3) := by decide +kernel
theorem d_M_step_109 : decode c_M_step 109 = .ok (.aload_n 0, 1) := by decide +kernel
theorem d_M_step_110 : decode c_M_step 110 = .ok (.aload_n 0, 1) := by decide +kernel
theorem d_M_step_111 : decode c_M_step 111 = .ok (.getfield 30, 3) := by decide +kernel
theorem d_M_step_114 : decode c_M_step 114 = .ok (.iload 8, 2) := by decide +kernel
theorem d_M_step_116 : decode c_M_step 116 = .ok (.iaload, 1) := by decide +kernel
theorem d_M_step_117 : decode c_M_step 117 = .ok (.invokevirtual 95, 3) := by decide +kernel
theorem d_M_step_120 : decode c_M_step 120 = .ok (.aload_n 0, 1) := by decide +kernel
theorem d_M_step_121 : decode c_M_step 121 = .ok (.iload_n 1, 1) := by decide +kernel
theorem d_M_step_122 : decode c_M_step 122 = .ok (.invokevirtual 99, 3) := by decide +kernel
theorem d_M_step_125 : decode c_M_step 125 = .ok (.istore 9, 2) := by decide +kernel
theorem d_M_step_127 : decode c_M_step 127 = .ok (.iload 9, 2) := by decide +kernel
theorem d_M_step_129 : decode c_M_step 129 = .ok (.ifCond .lt 21, 3) := by decide +kernel
theorem d_M_step_132 : decode c_M_step 132 = .ok (.aload_n 0, 1) := by decide +kernel
theorem d_M_step_133 : decode c_M_step 133 = .ok (.getfield 36, 3) := by decide +kernel
theorem d_M_step_136 : decode c_M_step 136 = .ok (.iload 8, 2) := by decide +kernel
theorem d_M_step_138 : decode c_M_step 138 = .ok (.iaload, 1) := by decide +kernel
theorem d_M_step_139 : decode c_M_step 139 = .ok (.iload 9, 2) := by decide +kernel
theorem d_M_step_141 : decode c_M_step 141 = .ok (.iadd, 1) := by decide +kernel
theorem d_M_step_142 : decode c_M_step 142 = .ok (.iload_n 3, 1) := by decide +kernel
theorem d_M_step_143 : decode c_M_step 143 = .ok (.if_icmp .ne 7, 3) := by decide +kernel
theorem d_M_step_146 : decode c_M_step 146 = .ok (.iconst 1, 1) := by decide +kernel
theorem d_M_step_147 : decode c_M_step 147 = .ok (.goto 4, 3) := by decide +kernel
theorem d_M_step_150 : decode c_M_step 150 = .ok (.iconst 0, 1) := by decide +kernel
theorem d_M_step_151 : decode c_M_step 151 = .ok (.istore 10, 2) := by decide +kernel
theorem d_M_step_153 : decode c_M_step 153 = .ok (.iload 10, 2) := by decide +kernel
theorem d_M_step_155 : decode c_M_step 155 = .ok (.ifCond .eq 30, 3) := by decide +kernel
theorem d_M_step_158 : decode c_M_step 158 = .ok (.iload 5, 2) := by decide +kernel
theorem d_M_step_160 : decode c_M_step 160 = .ok (.iload_n 2, 1) := by decide +kernel
theorem d_M_step_161 : decode c_M_step 161 = .ok (.if_icmp .ne 24, 3) := by decide +kernel
theorem d_M_step_164 : decode c_M_step 164 = .ok (.bipush 64, 2) := by decide +kernel
theorem d_M_step_166 : decode c_M_step 166 = .ok (.aload_n 0, 1) := by decide +kernel
theorem d_M_step_167 : decode c_M_step 167 = .ok (.getfield 33, 3) := by decide +kernel
theorem d_M_step_170 : decode c_M_step 170 = .ok (.iload 8, 2) := by decide +kernel
theorem d_M_step_172 : decode c_M_step 172 = .ok (.iaload, 1) := by decide +kernel
theorem d_M_step_173 : decode c_M_step 173 = .ok (.imul, 1) := by decide +kernel
theorem d_M_step_174 : decode c_M_step 174 = .ok (.aload_n 0, 1) := by decide +kernel
theorem d_M_step_175 : decode c_M_step 175 = .ok (.getfield 30, 3) := by decide +kernel
theorem d_M_step_178 : decode c_M_step 178 = .ok (.iload 8, 2) := by decide +kernel
theorem d_M_step_180 : decode c_M_step 180 = .ok (.iaload, 1) := by decide +kernel
theorem d_M_step_181 : decode c_M_step 181 = .ok (.iadd, 1) := by decide +kernel
theorem d_M_step_182 : decode c_M_step 182 = .ok (.goto 5, 3) := by decide +kernel
theorem d_M_step_185 : decode c_M_step 185 = .ok (.iload 6, 2) := by decide +kernel
theorem d_M_step_187 : decode c_M_step 187 = .ok (.istore 6, 2) := by decide +kernel
theorem d_M_step_189 : decode c_M_step 189 = .ok (.iload 5, 2) := by decide +kernel
theorem d_M_step_191 : decode c_M_step 191 = .ok (.iload 10, 2) := by decide +kernel
theorem d_M_step_193 : decode c_M_step 193 = .ok (.ifCond .eq 7, 3) := by decide +kernel
theorem d_M_step_196 : decode c_M_step 196 = .ok (.iconst 1, 1) := by decide +kernel
theorem d_M_step_197 : decode c_M_step 197 = .ok (.goto 4, 3) := by decide +kernel
theorem d_M_step_200 : decode c_M_step 200 = .ok (.iconst 0, 1) := by decide +kernel
theorem d_M_step_201 : decode c_M_step 201 = .ok (.iadd, 1) := by decide +kernel
theorem d_M_step_202 : decode c_M_step 202 = .ok (.istore 5, 2) := by decide +kernel
theorem d_M_step_204 : decode c_M_step 204 = .ok (.iinc 8 1, 3) := by decide +kernel
theorem d_M_step_207 : decode c_M_step 207 = .ok (.goto (-135), 3) := by decide +kernel
theorem d_M_step_210 : decode c_M_step 210 = .ok (.iload_n 2, 1) := by decide +kernel
theorem d_M_step_211 : decode c_M_step 211 = .ok (.ifCond .ge 8, 3) := by decide +kernel
theorem d_M_step_214 : decode c_M_step 214 = .ok (.iload 5, 2) := by decide +kernel
theorem d_M_step_216 : decode c_M_step 216 = .ok (.goto 5, 3) := by decide +kernel
theorem d_M_step_219 : decode c_M_step 219 = .ok (.iload 6, 2) := by decide +kernel
theorem d_M_step_221 : decode c_M_step 221 = .ok (.ireturn, 1) := by decide +kernel
theorem d_M_first_0 : decode c_M_first 0 = .ok (.aload_n 0, 1) := by decide +kernel
theorem d_M_first_1 : decode c_M_first 1 = .ok (.iload_n 1, 1) := by decide +kernel
theorem d_M_first_2 : decode c_M_first 2 = .ok (.iconst 0, 1) := by decide +kernel
theorem d_M_first_3 : decode c_M_first 3 = .ok (.bipush 63, 2) := by decide +kernel
theorem d_M_first_5 : decode c_M_first 5 = .ok (.invokestatic 51, 3) := by decide +kernel
theorem d_M_first_8 : decode c_M_first 8 = .ok (.ifCond .eq 7, 3) := by decide +kernel
theorem d_M_first_11 : decode c_M_first 11 = .ok (.iconst 0, 1) := by decide +kernel
theorem d_M_first_12 : decode c_M_first 12 = .ok (.goto 4, 3) := by decide +kernel
theorem d_M_first_15 : decode c_M_first 15 = .ok (.iconst 1, 1) := by decide +kernel
theorem d_M_first_16 : decode c_M_first 16 = .ok (.putfield 48, 3) := by decide +kernel
theorem d_M_first_19 : decode c_M_first 19 = .ok (.aload_n 0, 1) := by decide +kernel
theorem d_M_first_20 : decode c_M_first 20 = .ok (.getfield 48, 3) := by decide +kernel
theorem d_M_first_23 : decode c_M_first 23 = .ok (.ifCond .le 5, 3) := by decide +kernel
theorem d_M_first_26 : decode c_M_first 26 = .ok (.iconst 0, 1) := by decide +kernel
theorem d_M_first_27 : decode c_M_first 27 = .ok (.ireturn, 1) := by decide +kernel
theorem d_M_first_28 : decode c_M_first 28 = .ok (.iload_n 2, 1) := by decide +kernel
theorem d_M_first_29 : decode c_M_first 29 = .ok (.ifCond .ge 7, 3) := by decide +kernel
theorem d_M_first_32 : decode c_M_first 32 = .ok (.iconst (-1), 1) := by decide +kernel
theorem d_M_first_33 : decode c_M_first 33 = .ok (.goto 9, 3) := by decide +kernel
theorem d_M_first_36 : decode c_M_first 36 = .ok (.aload_n 0, 1) := by decide +kernel
theorem d_M_first_37 : decode c_M_first 37 = .ok (.iload_n 1, 1) := by decide +kernel
theorem d_M_first_38 : decode c_M_first 38 = .ok (.iload_n 2, 1) := by decide +kernel
theorem d_M_first_39 : decode c_M_first 39 = .ok (.invokevirtual 103, 3) := by decide +kernel
theorem d_M_first_42 : decode c_M_first 42 = .ok (.istore_n 3, 1) := by decide +kernel
theorem d_M_first_43 : decode c_M_first 43 = .ok (.aload_n 0, 1) := by decide +kernel
theorem d_M_first_44 : decode c_M_first 44 = .ok (.iload_n 3, 1) := by decide +kernel
theorem d_M_first_45 : decode c_M_first 45 = .ok (.ifCond .ge 7, 3) := by decide +kernel
theorem d_M_first_48 : decode c_M_first 48 = .ok (.iconst 2, 1) := by decide +kernel
theorem d_M_first_49 : decode c_M_first 49 = .ok (.goto 4, 3) := by decide +kernel
theorem d_M_first_52 : decode c_M_first 52 = .ok (.iconst 0, 1) := by decide +kernel
theorem d_M_first_53 : decode c_M_first 53 = .ok (.putfield 48, 3) := by decide +kernel
theorem d_M_first_56 : decode c_M_first 56 = .ok (.aload_n 0, 1) := by decide +kernel
theorem d_M_first_57 : decode c_M_first 57 = .ok (.getfield 48, 3) := by decide +kernel
theorem d_M_first_60 : decode c_M_first 60 = .ok (.ifCond .le 7, 3) := by decide +kernel
theorem d_M_first_63 : decode c_M_first 63 = .ok (.iconst 0, 1) := by decide +kernel
theorem d_M_first_64 : decode c_M_first 64 = .ok (.goto 4, 3) := by decide +kernel
theorem d_M_first_67 : decode c_M_first 67 = .ok (.iload_n 3, 1) := by decide +kernel
theorem d_M_first_68 : decode c_M_first 68 = .ok (.ireturn, 1) := by decide +kernel
theorem d_M_known_0 : decode c_M_known 0 = .ok (.aload_n 0, 1) := by decide +kernel
theorem d_M_known_1 : decode c_M_known 1 = .ok (.iconst 0, 1) := by decide +kernel
theorem d_M_known_2 : decode c_M_known 2 = .ok (.putfield 48, 3) := by decide +kernel
theorem d_M_known_5 : decode c_M_known 5 = .ok (.iconst 0, 1) := by decide +kernel
theorem d_M_known_6 : decode c_M_known 6 = .ok (.istore_n 1, 1) := by decide +kernel
theorem d_M_known_7 : decode c_M_known 7 = .ok (.iconst 0, 1) := by decide +kernel
theorem d_M_known_8 : decode c_M_known 8 = .ok (.istore_n 2, 1) := by decide +kernel
theorem d_M_known_9 : decode c_M_known 9 = .ok (.iload_n 2, 1) := by decide +kernel
theorem d_M_known_10 : decode c_M_known 10 = .ok (.bipush 64, 2) := by decide +kernel
theorem d_M_known_12 : decode c_M_known 12 = .ok (.if_icmp .ge 26, 3) := by decide +kernel
theorem d_M_known_15 : decode c_M_known 15 = .ok (.iload_n 1, 1) := by decide +kernel
theorem d_M_known_16 : decode c_M_known 16 = .ok (.aload_n 0, 1) := by decide +kernel
theorem d_M_known_17 : decode c_M_known 17 = .ok (.getfield 21, 3) := by decide +kernel
theorem d_M_known_20 : decode c_M_known 20 = .ok (.iload_n 2, 1) := by decide +kernel
theorem d_M_known_21 : decode c_M_known 21 = .ok (.iaload, 1) := by decide +kernel
theorem d_M_known_22 : decode c_M_known 22 = .ok (.ifCond .le 7, 3) := by decide +kernel
theorem d_M_known_25 : decode c_M_known 25 = .ok (.iconst 1, 1) := by decide +kernel
theorem d_M_known_26 : decode c_M_known 26 = .ok (.goto 4, 3) := by decide +kernel
theorem d_M_known_29 : decode c_M_known 29 = .ok (.iconst 0, 1) := by decide +kernel
theorem d_M_known_30 : decode c_M_known 30 = .ok (.iadd, 1) := by decide +kernel
theorem d_M_known_31 : decode c_M_known 31 = .ok (.istore_n 1, 1) := by decide +kernel
theorem d_M_known_32 : decode c_M_known 32 = .ok (.iinc 2 1, 3) := by decide +kernel
theorem d_M_known_35 : decode c_M_known 35 = .ok (.goto (-26), 3) := by decide +kernel
theorem d_M_known_38 : decode c_M_known 38 = .ok (.iload_n 1, 1) := by decide +kernel
theorem d_M_known_39 : decode c_M_known 39 = .ok (.ireturn, 1) := by decide +kernel
theorem d_M_time_0 : decode c_M_time 0 = .ok (.aload_n 0, 1) := by decide +kernel
theorem d_M_time_1 : decode c_M_time 1 = .ok (.iconst 0, 1) := by decide +kernel
theorem d_M_time_2 : decode c_M_time 2 = .ok (.putfield 48, 3) := by decide +kernel
theorem d_M_time_5 : decode c_M_time 5 = .ok (.aload_n 0, 1) := by decide +kernel
theorem d_M_time_6 : decode c_M_time 6 = .ok (.getfield 81, 3) := by decide +kernel
theorem d_M_time_9 : decode c_M_time 9 = .ok (.ireturn, 1) := by decide +kernel
theorem d_L_cell_0 : decode c_L_cell 0 = .ok (.iload_n 1, 1) := by decide +kernel
theorem d_L_cell_1 : decode c_L_cell 1 = .ok (.aload_n 0, 1) := by decide +kernel
theorem d_L_cell_2 : decode c_L_cell 2 = .ok (.arraylength, 1) := by decide +kernel
theorem d_L_cell_3 : decode c_L_cell 3 = .ok (.if_icmp .ge 9, 3) := by decide +kernel
theorem d_L_cell_6 : decode c_L_cell 6 = .ok (.aload_n 0, 1) := by decide +kernel
theorem d_L_cell_7 : decode c_L_cell 7 = .ok (.iload_n 1, 1) := by decide +kernel
theorem d_L_cell_8 : decode c_L_cell 8 = .ok (.iaload, 1) := by decide +kernel
theorem d_L_cell_9 : decode c_L_cell 9 = .ok (.goto 4, 3) := by decide +kernel
theorem d_L_cell_12 : decode c_L_cell 12 = .ok (.iconst 0, 1) := by decide +kernel
theorem d_L_cell_13 : decode c_L_cell 13 = .ok (.ireturn, 1) := by decide +kernel
theorem d_L_port_0 : decode c_L_port 0 = .ok (.aload_n 3, 1) := by decide +kernel
theorem d_L_port_1 : decode c_L_port 1 = .ok (.iconst 0, 1) := by decide +kernel
theorem d_L_port_2 : decode c_L_port 2 = .ok (.aload_n 0, 1) := by decide +kernel
theorem d_L_port_3 : decode c_L_port 3 = .ok (.iload_n 1, 1) := by decide +kernel
theorem d_L_port_4 : decode c_L_port 4 = .ok (.iload_n 2, 1) := by decide +kernel
theorem d_L_port_5 : decode c_L_port 5 = .ok (.invokevirtual 7, 3) := by decide +kernel
theorem d_L_port_8 : decode c_L_port 8 = .ok (.i2l, 1) := by decide +kernel
theorem d_L_port_9 : decode c_L_port 9 = .ok (.lastore, 1) := by decide +kernel
theorem d_L_port_10 : decode c_L_port 10 = .ok (.goto 11, 3) := by decide +kernel
theorem d_L_port_13 : decode c_L_port 13 = .ok (.astore 4, 2) := by decide +kernel
theorem d_L_port_15 : decode c_L_port 15 = .ok (.iconst 1, 1) := by decide +kernel
theorem d_L_port_16 : decode c_L_port 16 = .ok (.ireturn, 1) := by decide +kernel
theorem d_L_port_17 : decode c_L_port 17 = .ok (.astore 4, 2) := by decide +kernel
theorem d_L_port_19 : decode c_L_port 19 = .ok (.iconst 2, 1) := by decide +kernel
theorem d_L_port_20 : decode c_L_port 20 = .ok (.ireturn, 1) := by decide +kernel
theorem d_L_port_21 : decode c_L_port 21 = .ok (.iconst 0, 1) := by decide +kernel
theorem d_L_port_22 : decode c_L_port 22 = .ok (.ireturn, 1) := by decide +kernel
theorem d_L_friend_0 : decode c_L_friend 0 = .ok (.aload 4, 2) := by decide +kernel
theorem d_L_friend_2 : decode c_L_friend 2 = .ok (.iconst 0, 1) := by decide +kernel
theorem d_L_friend_3 : decode c_L_friend 3 = .ok (.aload_n 0, 1) := by decide +kernel
theorem d_L_friend_4 : decode c_L_friend 4 = .ok (.iload_n 1, 1) := by decide +kernel
theorem d_L_friend_5 : decode c_L_friend 5 = .ok (.iload_n 2, 1) := by decide +kernel
theorem d_L_friend_6 : decode c_L_friend 6 = .ok (.iload_n 3, 1) := by decide +kernel
theorem d_L_friend_7 : decode c_L_friend 7 = .ok (.invokevirtual 17, 3) := by decide +kernel
theorem d_L_friend_10 : decode c_L_friend 10 = .ok (.ifCond .eq 7, 3) := by decide +kernel
theorem d_L_friend_13 : decode c_L_friend 13 = .ok (.lconst 1, 1) := by decide +kernel
theorem d_L_friend_14 : decode c_L_friend 14 = .ok (.goto 4, 3) := by decide +kernel
theorem d_L_friend_17 : decode c_L_friend 17 = .ok (.lconst 0, 1) := by decide +kernel
theorem d_L_friend_18 : decode c_L_friend 18 = .ok (.lastore, 1) := by decide +kernel
theorem d_L_friend_19 : decode c_L_friend 19 = .ok (.goto 11, 3) := by decide +kernel
theorem d_L_friend_22 : decode c_L_friend 22 = .ok (.astore 5, 2) := by decide +kernel
theorem d_L_friend_24 : decode c_L_friend 24 = .ok (.iconst 1, 1) := by decide +kernel
theorem d_L_friend_25 : decode c_L_friend 25 = .ok (.ireturn, 1) := by decide +kernel
theorem d_L_friend_26 : decode c_L_friend 26 = .ok (.astore 5, 2) := by decide +kernel
theorem d_L_friend_28 : decode c_L_friend 28 = .ok (.iconst 2, 1) := by decide +kernel
theorem d_L_friend_29 : decode c_L_friend 29 = .ok (.ireturn, 1) := by decide +kernel
theorem d_L_friend_30 : decode c_L_friend 30 = .ok (.iconst 0, 1) := by decide +kernel
theorem d_L_friend_31 : decode c_L_friend 31 = .ok (.ireturn, 1) := by decide +kernel
theorem d_L_begin_0 : decode c_L_begin 0 = .ok (.aload_n 0, 1) := by decide +kernel
theorem d_L_begin_1 : decode c_L_begin 1 = .ok (.iload_n 1, 1) := by decide +kernel
theorem d_L_begin_2 : decode c_L_begin 2 = .ok (.iload_n 2, 1) := by decide +kernel
theorem d_L_begin_3 : decode c_L_begin 3 = .ok (.invokevirtual 21, 3) := by decide +kernel
theorem d_L_begin_6 : decode c_L_begin 6 = .ok (.goto 6, 3) := by decide +kernel
theorem d_L_begin_9 : decode c_L_begin 9 = .ok (.astore_n 3, 1) := by decide +kernel
theorem d_L_begin_10 : decode c_L_begin 10 = .ok (.iconst 1, 1) := by decide +kernel
theorem d_L_begin_11 : decode c_L_begin 11 = .ok (.ireturn, 1) := by decide +kernel
theorem d_L_begin_12 : decode c_L_begin 12 = .ok (.iconst 0, 1) := by decide +kernel
theorem d_L_begin_13 : decode c_L_begin 13 = .ok (.ireturn, 1) := by decide +kernel
theorem d_L_entry_0 : decode c_L_entry 0 = .ok (.aload 4, 2) := by decide +kernel
theorem d_L_entry_2 : decode c_L_entry 2 = .ok (.iconst 0, 1) := by decide +kernel
theorem d_L_entry_3 : decode c_L_entry 3 = .ok (.aload_n 0, 1) := by decide +kernel
theorem d_L_entry_4 : decode c_L_entry 4 = .ok (.iload_n 1, 1) := by decide +kernel
theorem d_L_entry_5 : decode c_L_entry 5 = .ok (.iload_n 2, 1) := by decide +kernel
theorem d_L_entry_6 : decode c_L_entry 6 = .ok (.iload_n 3, 1) := by decide +kernel
theorem d_L_entry_7 : decode c_L_entry 7 = .ok (.invokevirtual 25, 3) := by decide +kernel
theorem d_L_entry_10 : decode c_L_entry 10 = .ok (.i2l, 1) := by decide +kernel
theorem d_L_entry_11 : decode c_L_entry 11 = .ok (.lastore, 1) := by decide +kernel
theorem d_L_entry_12 : decode c_L_entry 12 = .ok (.goto 11, 3) := by decide +kernel
theorem d_L_entry_15 : decode c_L_entry 15 = .ok (.astore 5, 2) := by decide +kernel
theorem d_L_entry_17 : decode c_L_entry 17 = .ok (.iconst 1, 1) := by decide +kernel
theorem d_L_entry_18 : decode c_L_entry 18 = .ok (.ireturn, 1) := by decide +kernel
theorem d_L_entry_19 : decode c_L_entry 19 = .ok (.astore 5, 2) := by decide +kernel
theorem d_L_entry_21 : decode c_L_entry 21 = .ok (.iconst 2, 1) := by decide +kernel
theorem d_L_entry_22 : decode c_L_entry 22 = .ok (.ireturn, 1) := by decide +kernel
theorem d_L_entry_23 : decode c_L_entry 23 = .ok (.iconst 0, 1) := by decide +kernel
theorem d_L_entry_24 : decode c_L_entry 24 = .ok (.ireturn, 1) := by decide +kernel
theorem d_L_come_0 : decode c_L_come 0 = .ok (.aload_n 1, 1) := by decide +kernel
theorem d_L_come_1 : decode c_L_come 1 = .ok (.iconst 0, 1) := by decide +kernel
theorem d_L_come_2 : decode c_L_come 2 = .ok (.aload_n 0, 1) := by decide +kernel
theorem d_L_come_3 : decode c_L_come 3 = .ok (.invokevirtual 29, 3) := by decide +kernel
theorem d_L_come_6 : decode c_L_come 6 = .ok (.i2l, 1) := by decide +kernel
theorem d_L_come_7 : decode c_L_come 7 = .ok (.lastore, 1) := by decide +kernel
theorem d_L_come_8 : decode c_L_come 8 = .ok (.goto 6, 3) := by decide +kernel
theorem d_L_come_11 : decode c_L_come 11 = .ok (.astore_n 2, 1) := by decide +kernel
theorem d_L_come_12 : decode c_L_come 12 = .ok (.iconst 1, 1) := by decide +kernel
theorem d_L_come_13 : decode c_L_come 13 = .ok (.ireturn, 1) := by decide +kernel
theorem d_L_come_14 : decode c_L_come 14 = .ok (.iconst 0, 1) := by decide +kernel
theorem d_L_come_15 : decode c_L_come 15 = .ok (.ireturn, 1) := by decide +kernel
theorem d_L_pass_0 : decode c_L_pass 0 = .ok (.aload_n 2, 1) := by decide +kernel
theorem d_L_pass_1 : decode c_L_pass 1 = .ok (.iconst 0, 1) := by decide +kernel
theorem d_L_pass_2 : decode c_L_pass 2 = .ok (.aload_n 0, 1) := by decide +kernel
theorem d_L_pass_3 : decode c_L_pass 3 = .ok (.iload_n 1, 1) := by decide +kernel
theorem d_L_pass_4 : decode c_L_pass 4 = .ok (.invokevirtual 33, 3) := by decide +kernel
theorem d_L_pass_7 : decode c_L_pass 7 = .ok (.i2l, 1) := by decide +kernel
theorem d_L_pass_8 : decode c_L_pass 8 = .ok (.lastore, 1) := by decide +kernel
theorem d_L_pass_9 : decode c_L_pass 9 = .ok (.goto 9, 3) := by decide +kernel
theorem d_L_pass_12 : decode c_L_pass 12 = .ok (.astore_n 3, 1) := by decide +kernel
theorem d_L_pass_13 : decode c_L_pass 13 = .ok (.iconst 1, 1) := by decide +kernel
theorem d_L_pass_14 : decode c_L_pass 14 = .ok (.ireturn, 1) := by decide +kernel
theorem d_L_pass_15 : decode c_L_pass 15 = .ok (.astore_n 3, 1) := by decide +kernel
theorem d_L_pass_16 : decode c_L_pass 16 = .ok (.iconst 2, 1) := by decide +kernel
theorem d_L_pass_17 : decode c_L_pass 17 = .ok (.ireturn, 1) := by decide +kernel
theorem d_L_pass_18 : decode c_L_pass 18 = .ok (.iconst 0, 1) := by decide +kernel
theorem d_L_pass_19 : decode c_L_pass 19 = .ok (.ireturn, 1) := by decide +kernel
theorem d_L_number_0 : decode c_L_number 0 = .ok (.aload_n 2, 1) := by decide +kernel
theorem d_L_number_1 : decode c_L_number 1 = .ok (.iconst 0, 1) := by decide +kernel
theorem d_L_number_2 : decode c_L_number 2 = .ok (.aload_n 0, 1) := by decide +kernel
theorem d_L_number_3 : decode c_L_number 3 = .ok (.iload_n 1, 1) := by decide +kernel
theorem d_L_number_4 : decode c_L_number 4 = .ok (.invokevirtual 37, 3) := by decide +kernel
theorem d_L_number_7 : decode c_L_number 7 = .ok (.i2l, 1) := by decide +kernel
theorem d_L_number_8 : decode c_L_number 8 = .ok (.lastore, 1) := by decide +kernel
theorem d_L_number_9 : decode c_L_number 9 = .ok (.goto 6, 3) := by decide +kernel
theorem d_L_number_12 : decode c_L_number 12 = .ok (.astore_n 3, 1) := by decide +kernel
theorem d_L_number_13 : decode c_L_number 13 = .ok (.iconst 1, 1) := by decide +kernel
theorem d_L_number_14 : decode c_L_number 14 = .ok (.ireturn, 1) := by decide +kernel
theorem d_L_number_15 : decode c_L_number 15 = .ok (.iconst 0, 1) := by decide +kernel
theorem d_L_number_16 : decode c_L_number 16 = .ok (.ireturn, 1) := by decide +kernel
theorem d_L_told_0 : decode c_L_told 0 = .ok (.aload 4, 2) := by decide +kernel
theorem d_L_told_2 : decode c_L_told 2 = .ok (.iconst 0, 1) := by decide +kernel
theorem d_L_told_3 : decode c_L_told 3 = .ok (.aload_n 0, 1) := by decide +kernel
theorem d_L_told_4 : decode c_L_told 4 = .ok (.iload_n 1, 1) := by decide +kernel
theorem d_L_told_5 : decode c_L_told 5 = .ok (.iload_n 2, 1) := by decide +kernel
theorem d_L_told_6 : decode c_L_told 6 = .ok (.iload_n 3, 1) := by decide +kernel
theorem d_L_told_7 : decode c_L_told 7 = .ok (.invokevirtual 40, 3) := by decide +kernel
theorem d_L_told_10 : decode c_L_told 10 = .ok (.i2l, 1) := by decide +kernel
theorem d_L_told_11 : decode c_L_told 11 = .ok (.lastore, 1) := by decide +kernel
theorem d_L_told_12 : decode c_L_told 12 = .ok (.goto 11, 3) := by decide +kernel
theorem d_L_told_15 : decode c_L_told 15 = .ok (.astore 5, 2) := by decide +kernel
theorem d_L_told_17 : decode c_L_told 17 = .ok (.iconst 1, 1) := by decide +kernel
theorem d_L_told_18 : decode c_L_told 18 = .ok (.ireturn, 1) := by decide +kernel
theorem d_L_told_19 : decode c_L_told 19 = .ok (.astore 5, 2) := by decide +kernel
theorem d_L_told_21 : decode c_L_told 21 = .ok (.iconst 2, 1) := by decide +kernel
theorem d_L_told_22 : decode c_L_told 22 = .ok (.ireturn, 1) := by decide +kernel
theorem d_L_told_23 : decode c_L_told 23 = .ok (.iconst 0, 1) := by decide +kernel
theorem d_L_told_24 : decode c_L_told 24 = .ok (.ireturn, 1) := by decide +kernel
theorem d_L_entries_0 : decode c_L_entries 0 = .ok (.aload_n 2, 1) := by decide +kernel
theorem d_L_entries_1 : decode c_L_entries 1 = .ok (.iconst 0, 1) := by decide +kernel
theorem d_L_entries_2 : decode c_L_entries 2 = .ok (.aload_n 0, 1) := by decide +kernel
theorem d_L_entries_3 : decode c_L_entries 3 = .ok (.iload_n 1, 1) := by decide +kernel
theorem d_L_entries_4 : decode c_L_entries 4 = .ok (.invokevirtual 45, 3) := by decide +kernel
theorem d_L_entries_7 : decode c_L_entries 7 = .ok (.i2l, 1) := by decide +kernel
theorem d_L_entries_8 : decode c_L_entries 8 = .ok (.lastore, 1) := by decide +kernel
theorem d_L_entries_9 : decode c_L_entries 9 = .ok (.goto 6, 3) := by decide +kernel
theorem d_L_entries_12 : decode c_L_entries 12 = .ok (.astore_n 3, 1) := by decide +kernel
theorem d_L_entries_13 : decode c_L_entries 13 = .ok (.iconst 1, 1) := by decide +kernel
theorem d_L_entries_14 : decode c_L_entries 14 = .ok (.ireturn, 1) := by decide +kernel
theorem d_L_entries_15 : decode c_L_entries 15 = .ok (.iconst 0, 1) := by decide +kernel
theorem d_L_entries_16 : decode c_L_entries 16 = .ok (.ireturn, 1) := by decide +kernel
theorem d_L_age_0 : decode c_L_age 0 = .ok (.aload_n 2, 1) := by decide +kernel
theorem d_L_age_1 : decode c_L_age 1 = .ok (.iconst 0, 1) := by decide +kernel
theorem d_L_age_2 : decode c_L_age 2 = .ok (.aload_n 0, 1) := by decide +kernel
theorem d_L_age_3 : decode c_L_age 3 = .ok (.iload_n 1, 1) := by decide +kernel
theorem d_L_age_4 : decode c_L_age 4 = .ok (.invokevirtual 48, 3) := by decide +kernel
theorem d_L_age_7 : decode c_L_age 7 = .ok (.i2l, 1) := by decide +kernel
theorem d_L_age_8 : decode c_L_age 8 = .ok (.lastore, 1) := by decide +kernel
theorem d_L_age_9 : decode c_L_age 9 = .ok (.goto 6, 3) := by decide +kernel
theorem d_L_age_12 : decode c_L_age 12 = .ok (.astore_n 3, 1) := by decide +kernel
theorem d_L_age_13 : decode c_L_age 13 = .ok (.iconst 1, 1) := by decide +kernel
theorem d_L_age_14 : decode c_L_age 14 = .ok (.ireturn, 1) := by decide +kernel
theorem d_L_age_15 : decode c_L_age 15 = .ok (.iconst 0, 1) := by decide +kernel
theorem d_L_age_16 : decode c_L_age 16 = .ok (.ireturn, 1) := by decide +kernel
theorem d_L_distance_0 : decode c_L_distance 0 = .ok (.aload_n 2, 1) := by decide +kernel
theorem d_L_distance_1 : decode c_L_distance 1 = .ok (.iconst 0, 1) := by decide +kernel
theorem d_L_distance_2 : decode c_L_distance 2 = .ok (.aload_n 0, 1) := by decide +kernel
theorem d_L_distance_3 : decode c_L_distance 3 = .ok (.iload_n 1, 1) := by decide +kernel
theorem d_L_distance_4 : decode c_L_distance 4 = .ok (.invokevirtual 51, 3) := by decide +kernel
theorem d_L_distance_7 : decode c_L_distance 7 = .ok (.i2l, 1) := by decide +kernel
theorem d_L_distance_8 : decode c_L_distance 8 = .ok (.lastore, 1) := by decide +kernel
theorem d_L_distance_9 : decode c_L_distance 9 = .ok (.goto 6, 3) := by decide +kernel
theorem d_L_distance_12 : decode c_L_distance 12 = .ok (.astore_n 3, 1) := by decide +kernel
theorem d_L_distance_13 : decode c_L_distance 13 = .ok (.iconst 1, 1) := by decide +kernel
theorem d_L_distance_14 : decode c_L_distance 14 = .ok (.ireturn, 1) := by decide +kernel
theorem d_L_distance_15 : decode c_L_distance 15 = .ok (.iconst 0, 1) := by decide +kernel
theorem d_L_distance_16 : decode c_L_distance 16 = .ok (.ireturn, 1) := by decide +kernel
theorem d_L_cost_0 : decode c_L_cost 0 = .ok (.aload_n 2, 1) := by decide +kernel
theorem d_L_cost_1 : decode c_L_cost 1 = .ok (.iconst 0, 1) := by decide +kernel
theorem d_L_cost_2 : decode c_L_cost 2 = .ok (.aload_n 0, 1) := by decide +kernel
theorem d_L_cost_3 : decode c_L_cost 3 = .ok (.iload_n 1, 1) := by decide +kernel
theorem d_L_cost_4 : decode c_L_cost 4 = .ok (.invokevirtual 54, 3) := by decide +kernel
theorem d_L_cost_7 : decode c_L_cost 7 = .ok (.i2l, 1) := by decide +kernel
theorem d_L_cost_8 : decode c_L_cost 8 = .ok (.lastore, 1) := by decide +kernel
theorem d_L_cost_9 : decode c_L_cost 9 = .ok (.goto 6, 3) := by decide +kernel
theorem d_L_cost_12 : decode c_L_cost 12 = .ok (.astore_n 3, 1) := by decide +kernel
theorem d_L_cost_13 : decode c_L_cost 13 = .ok (.iconst 1, 1) := by decide +kernel
theorem d_L_cost_14 : decode c_L_cost 14 = .ok (.ireturn, 1) := by decide +kernel
theorem d_L_cost_15 : decode c_L_cost 15 = .ok (.iconst 0, 1) := by decide +kernel
theorem d_L_cost_16 : decode c_L_cost 16 = .ok (.ireturn, 1) := by decide +kernel
theorem d_L_firsts_0 : decode c_L_firsts 0 = .ok (.aload_n 2, 1) := by decide +kernel
theorem d_L_firsts_1 : decode c_L_firsts 1 = .ok (.iconst 0, 1) := by decide +kernel
theorem d_L_firsts_2 : decode c_L_firsts 2 = .ok (.aload_n 0, 1) := by decide +kernel
theorem d_L_firsts_3 : decode c_L_firsts 3 = .ok (.iload_n 1, 1) := by decide +kernel
theorem d_L_firsts_4 : decode c_L_firsts 4 = .ok (.invokevirtual 57, 3) := by decide +kernel
theorem d_L_firsts_7 : decode c_L_firsts 7 = .ok (.i2l, 1) := by decide +kernel
theorem d_L_firsts_8 : decode c_L_firsts 8 = .ok (.lastore, 1) := by decide +kernel
theorem d_L_firsts_9 : decode c_L_firsts 9 = .ok (.goto 6, 3) := by decide +kernel
theorem d_L_firsts_12 : decode c_L_firsts 12 = .ok (.astore_n 3, 1) := by decide +kernel
theorem d_L_firsts_13 : decode c_L_firsts 13 = .ok (.iconst 1, 1) := by decide +kernel
theorem d_L_firsts_14 : decode c_L_firsts 14 = .ok (.ireturn, 1) := by decide +kernel
theorem d_L_firsts_15 : decode c_L_firsts 15 = .ok (.iconst 0, 1) := by decide +kernel
theorem d_L_firsts_16 : decode c_L_firsts 16 = .ok (.ireturn, 1) := by decide +kernel
theorem d_L_first_0 : decode c_L_first 0 = .ok (.aload_n 3, 1) := by decide +kernel
theorem d_L_first_1 : decode c_L_first 1 = .ok (.iconst 0, 1) := by decide +kernel
theorem d_L_first_2 : decode c_L_first 2 = .ok (.aload_n 0, 1) := by decide +kernel
theorem d_L_first_3 : decode c_L_first 3 = .ok (.iload_n 1, 1) := by decide +kernel
theorem d_L_first_4 : decode c_L_first 4 = .ok (.iload_n 2, 1) := by decide +kernel
theorem d_L_first_5 : decode c_L_first 5 = .ok (.invokevirtual 60, 3) := by decide +kernel
theorem d_L_first_8 : decode c_L_first 8 = .ok (.i2l, 1) := by decide +kernel
theorem d_L_first_9 : decode c_L_first 9 = .ok (.lastore, 1) := by decide +kernel
theorem d_L_first_10 : decode c_L_first 10 = .ok (.goto 11, 3) := by decide +kernel
theorem d_L_first_13 : decode c_L_first 13 = .ok (.astore 4, 2) := by decide +kernel
theorem d_L_first_15 : decode c_L_first 15 = .ok (.iconst 1, 1) := by decide +kernel
theorem d_L_first_16 : decode c_L_first 16 = .ok (.ireturn, 1) := by decide +kernel
theorem d_L_first_17 : decode c_L_first 17 = .ok (.astore 4, 2) := by decide +kernel
theorem d_L_first_19 : decode c_L_first 19 = .ok (.iconst 2, 1) := by decide +kernel
theorem d_L_first_20 : decode c_L_first 20 = .ok (.ireturn, 1) := by decide +kernel
theorem d_L_first_21 : decode c_L_first 21 = .ok (.iconst 0, 1) := by decide +kernel
theorem d_L_first_22 : decode c_L_first 22 = .ok (.ireturn, 1) := by decide +kernel
theorem d_L_law_0 : decode c_L_law 0 = .ok (.new 8, 3) := by decide +kernel
theorem d_L_law_3 : decode c_L_law 3 = .ok (.dup, 1) := by decide +kernel
theorem d_L_law_4 : decode c_L_law 4 = .ok (.aload_n 0, 1) := by decide +kernel
theorem d_L_law_5 : decode c_L_law 5 = .ok (.iconst 0, 1) := by decide +kernel
theorem d_L_law_6 : decode c_L_law 6 = .ok (.invokestatic 63, 3) := by decide +kernel
theorem d_L_law_9 : decode c_L_law 9 = .ok (.invokespecial 69, 3) := by decide +kernel
theorem d_L_law_12 : decode c_L_law 12 = .ok (.astore_n 1, 1) := by decide +kernel
theorem d_L_law_13 : decode c_L_law 13 = .ok (.new 72, 3) := by decide +kernel
theorem d_L_law_16 : decode c_L_law 16 = .ok (.dup, 1) := by decide +kernel
theorem d_L_law_17 : decode c_L_law 17 = .ok (.aload_n 0, 1) := by decide +kernel
theorem d_L_law_18 : decode c_L_law 18 = .ok (.iconst 0, 1) := by decide +kernel
theorem d_L_law_19 : decode c_L_law 19 = .ok (.invokestatic 63, 3) := by decide +kernel
theorem d_L_law_22 : decode c_L_law 22 = .ok (.invokespecial 74, 3) := by decide +kernel
theorem d_L_law_25 : decode c_L_law 25 = .ok (.astore_n 2, 1) := by decide +kernel
theorem d_L_law_26 : decode c_L_law 26 = .ok (.iconst 1, 1) := by decide +kernel
theorem d_L_law_27 : decode c_L_law 27 = .ok (.newarray .long, 2) := by decide +kernel
theorem d_L_law_29 : decode c_L_law 29 = .ok (.astore_n 3, 1) := by decide +kernel
theorem d_L_law_30 : decode c_L_law 30 = .ok (.iconst 1, 1) := by decide +kernel
theorem d_L_law_31 : decode c_L_law 31 = .ok (.istore 4, 2) := by decide +kernel
theorem d_L_law_33 : decode c_L_law 33 = .ok (.iload 4, 2) := by decide +kernel
theorem d_L_law_35 : decode c_L_law 35 = .ok (.aload_n 0, 1) := by decide +kernel
theorem d_L_law_36 : decode c_L_law 36 = .ok (.arraylength, 1) := by decide +kernel
theorem d_L_law_37 : decode c_L_law 37 = .ok (.iconst 4, 1) := by decide +kernel
theorem d_L_law_38 : decode c_L_law 38 = .ok (.isub, 1) := by decide +kernel
theorem d_L_law_39 : decode c_L_law 39 = .ok (.if_icmp .gt 1021, 3) := by decide +kernel
theorem d_L_law_42 : decode c_L_law 42 = .ok (.aload_n 0, 1) := by decide +kernel
theorem d_L_law_43 : decode c_L_law 43 = .ok (.iload 4, 2) := by decide +kernel
theorem d_L_law_45 : decode c_L_law 45 = .ok (.iaload, 1) := by decide +kernel
theorem d_L_law_46 : decode c_L_law 46 = .ok (.bipush 31, 2) := by decide +kernel
theorem d_L_law_48 : decode c_L_law 48 = .ok (.iand, 1) := by decide +kernel
theorem d_L_law_49 : decode c_L_law 49 = .ok (.tableswitch 1005 0 16 #[83, 151, 254, 302, 382, 426, 482, 495, 551, 631, 687, 743, 799, 855, 911, 979, 992], 83) := by decide +kernel
theorem d_L_law_132 : decode c_L_law 132 = .ok (.aload_n 1, 1) := by decide +kernel
theorem d_L_law_133 : decode c_L_law 133 = .ok (.aload_n 0, 1) := by decide +kernel
theorem d_L_law_134 : decode c_L_law 134 = .ok (.iload 4, 2) := by decide +kernel
theorem d_L_law_136 : decode c_L_law 136 = .ok (.iconst 1, 1) := by decide +kernel
theorem d_L_law_137 : decode c_L_law 137 = .ok (.iadd, 1) := by decide +kernel
theorem d_L_law_138 : decode c_L_law 138 = .ok (.iaload, 1) := by decide +kernel
theorem d_L_law_139 : decode c_L_law 139 = .ok (.aload_n 0, 1) := by decide +kernel
theorem d_L_law_140 : decode c_L_law 140 = .ok (.iload 4, 2) := by decide +kernel
theorem d_L_law_142 : decode c_L_law 142 = .ok (.iconst 2, 1) := by decide +kernel
theorem d_L_law_143 : decode c_L_law 143 = .ok (.iadd, 1) := by decide +kernel
theorem d_L_law_144 : decode c_L_law 144 = .ok (.iaload, 1) := by decide +kernel
theorem d_L_law_145 : decode c_L_law 145 = .ok (.aload_n 3, 1) := by decide +kernel
theorem d_L_law_146 : decode c_L_law 146 = .ok (.invokestatic 75, 3) := by decide +kernel
theorem d_L_law_149 : decode c_L_law 149 = .ok (.istore 5, 2) := by decide +kernel
theorem d_L_law_151 : decode c_L_law 151 = .ok (.aload_n 2, 1) := by decide +kernel
theorem d_L_law_152 : decode c_L_law 152 = .ok (.aload_n 0, 1) := by decide +kernel
theorem d_L_law_153 : decode c_L_law 153 = .ok (.iload 4, 2) := by decide +kernel
theorem d_L_law_155 : decode c_L_law 155 = .ok (.iconst 1, 1) := by decide +kernel
theorem d_L_law_156 : decode c_L_law 156 = .ok (.iadd, 1) := by decide +kernel
theorem d_L_law_157 : decode c_L_law 157 = .ok (.iaload, 1) := by decide +kernel
theorem d_L_law_158 : decode c_L_law 158 = .ok (.aload_n 0, 1) := by decide +kernel
theorem d_L_law_159 : decode c_L_law 159 = .ok (.iload 4, 2) := by decide +kernel
theorem d_L_law_161 : decode c_L_law 161 = .ok (.iconst 2, 1) := by decide +kernel
theorem d_L_law_162 : decode c_L_law 162 = .ok (.iadd, 1) := by decide +kernel
theorem d_L_law_163 : decode c_L_law 163 = .ok (.iaload, 1) := by decide +kernel
theorem d_L_law_164 : decode c_L_law 164 = .ok (.invokevirtual 78, 3) := by decide +kernel
theorem d_L_law_167 : decode c_L_law 167 = .ok (.istore 6, 2) := by decide +kernel
theorem d_L_law_169 : decode c_L_law 169 = .ok (.aload_n 2, 1) := by decide +kernel
theorem d_L_law_170 : decode c_L_law 170 = .ok (.invokevirtual 79, 3) := by decide +kernel
theorem d_L_law_173 : decode c_L_law 173 = .ok (.iload 5, 2) := by decide +kernel
theorem d_L_law_175 : decode c_L_law 175 = .ok (.if_icmp .eq 5, 3) := by decide +kernel
theorem d_L_law_178 : decode c_L_law 178 = .ok (.iconst 0, 1) := by decide +kernel
theorem d_L_law_179 : decode c_L_law 179 = .ok (.ireturn, 1) := by decide +kernel
theorem d_L_law_180 : decode c_L_law 180 = .ok (.iload 5, 2) := by decide +kernel
theorem d_L_law_182 : decode c_L_law 182 = .ok (.ifCond .ne 15, 3) := by decide +kernel
theorem d_L_law_185 : decode c_L_law 185 = .ok (.aload_n 3, 1) := by decide +kernel
theorem d_L_law_186 : decode c_L_law 186 = .ok (.iconst 0, 1) := by decide +kernel
theorem d_L_law_187 : decode c_L_law 187 = .ok (.laload, 1) := by decide +kernel
theorem d_L_law_188 : decode c_L_law 188 = .ok (.iload 6, 2) := by decide +kernel
theorem d_L_law_190 : decode c_L_law 190 = .ok (.i2l, 1) := by decide +kernel
theorem d_L_law_191 : decode c_L_law 191 = .ok (.lcmp, 1) := by decide +kernel
theorem d_L_law_192 : decode c_L_law 192 = .ok (.ifCond .eq 5, 3) := by decide +kernel
theorem d_L_law_195 : decode c_L_law 195 = .ok (.iconst 0, 1) := by decide +kernel
theorem d_L_law_196 : decode c_L_law 196 = .ok (.ireturn, 1) := by decide +kernel
theorem d_L_law_197 : decode c_L_law 197 = .ok (.goto 857, 3) := by decide +kernel
theorem d_L_law_200 : decode c_L_law 200 = .ok (.aload_n 1, 1) := by decide +kernel
theorem d_L_law_201 : decode c_L_law 201 = .ok (.aload_n 0, 1) := by decide +kernel
theorem d_L_law_202 : decode c_L_law 202 = .ok (.iload 4, 2) := by decide +kernel
theorem d_L_law_204 : decode c_L_law 204 = .ok (.iconst 1, 1) := by decide +kernel
theorem d_L_law_205 : decode c_L_law 205 = .ok (.iadd, 1) := by decide +kernel
theorem d_L_law_206 : decode c_L_law 206 = .ok (.iaload, 1) := by decide +kernel
theorem d_L_law_207 : decode c_L_law 207 = .ok (.aload_n 0, 1) := by decide +kernel
theorem d_L_law_208 : decode c_L_law 208 = .ok (.iload 4, 2) := by decide +kernel
theorem d_L_law_210 : decode c_L_law 210 = .ok (.iconst 2, 1) := by decide +kernel
theorem d_L_law_211 : decode c_L_law 211 = .ok (.iadd, 1) := by decide +kernel
theorem d_L_law_212 : decode c_L_law 212 = .ok (.iaload, 1) := by decide +kernel
theorem d_L_law_213 : decode c_L_law 213 = .ok (.aload_n 0, 1) := by decide +kernel
theorem d_L_law_214 : decode c_L_law 214 = .ok (.iload 4, 2) := by decide +kernel
theorem d_L_law_216 : decode c_L_law 216 = .ok (.iconst 3, 1) := by decide +kernel
theorem d_L_law_217 : decode c_L_law 217 = .ok (.iadd, 1) := by decide +kernel
theorem d_L_law_218 : decode c_L_law 218 = .ok (.iaload, 1) := by decide +kernel
theorem d_L_law_219 : decode c_L_law 219 = .ok (.ifCond .eq 7, 3) := by decide +kernel
theorem d_L_law_222 : decode c_L_law 222 = .ok (.iconst 1, 1) := by decide +kernel
theorem d_L_law_223 : decode c_L_law 223 = .ok (.goto 4, 3) := by decide +kernel
theorem d_L_law_226 : decode c_L_law 226 = .ok (.iconst 0, 1) := by decide +kernel
theorem d_L_law_227 : decode c_L_law 227 = .ok (.aload_n 3, 1) := by decide +kernel
theorem d_L_law_228 : decode c_L_law 228 = .ok (.invokestatic 82, 3) := by decide +kernel
theorem d_L_law_231 : decode c_L_law 231 = .ok (.istore 5, 2) := by decide +kernel
theorem d_L_law_233 : decode c_L_law 233 = .ok (.aload_n 2, 1) := by decide +kernel
theorem d_L_law_234 : decode c_L_law 234 = .ok (.aload_n 0, 1) := by decide +kernel
theorem d_L_law_235 : decode c_L_law 235 = .ok (.iload 4, 2) := by decide +kernel
theorem d_L_law_237 : decode c_L_law 237 = .ok (.iconst 1, 1) := by decide +kernel
theorem d_L_law_238 : decode c_L_law 238 = .ok (.iadd, 1) := by decide +kernel
theorem d_L_law_239 : decode c_L_law 239 = .ok (.iaload, 1) := by decide +kernel
theorem d_L_law_240 : decode c_L_law 240 = .ok (.aload_n 0, 1) := by decide +kernel
theorem d_L_law_241 : decode c_L_law 241 = .ok (.iload 4, 2) := by decide +kernel
theorem d_L_law_243 : decode c_L_law 243 = .ok (.iconst 2, 1) := by decide +kernel
theorem d_L_law_244 : decode c_L_law 244 = .ok (.iadd, 1) := by decide +kernel
theorem d_L_law_245 : decode c_L_law 245 = .ok (.iaload, 1) := by decide +kernel
theorem d_L_law_246 : decode c_L_law 246 = .ok (.aload_n 0, 1) := by decide +kernel
theorem d_L_law_247 : decode c_L_law 247 = .ok (.iload 4, 2) := by decide +kernel
theorem d_L_law_249 : decode c_L_law 249 = .ok (.iconst 3, 1) := by decide +kernel
theorem d_L_law_250 : decode c_L_law 250 = .ok (.iadd, 1) := by decide +kernel
theorem d_L_law_251 : decode c_L_law 251 = .ok (.iaload, 1) := by decide +kernel
theorem d_L_law_252 : decode c_L_law 252 = .ok (.ifCond .eq 7, 3) := by decide +kernel
theorem d_L_law_255 : decode c_L_law 255 = .ok (.iconst 1, 1) := by decide +kernel
theorem d_L_law_256 : decode c_L_law 256 = .ok (.goto 4, 3) := by decide +kernel
theorem d_L_law_259 : decode c_L_law 259 = .ok (.iconst 0, 1) := by decide +kernel
theorem d_L_law_260 : decode c_L_law 260 = .ok (.invokevirtual 85, 3) := by decide +kernel
theorem d_L_law_263 : decode c_L_law 263 = .ok (.istore 6, 2) := by decide +kernel
theorem d_L_law_265 : decode c_L_law 265 = .ok (.aload_n 2, 1) := by decide +kernel
theorem d_L_law_266 : decode c_L_law 266 = .ok (.invokevirtual 79, 3) := by decide +kernel
theorem d_L_law_269 : decode c_L_law 269 = .ok (.iload 5, 2) := by decide +kernel
theorem d_L_law_271 : decode c_L_law 271 = .ok (.if_icmp .eq 5, 3) := by decide +kernel
theorem d_L_law_274 : decode c_L_law 274 = .ok (.iconst 0, 1) := by decide +kernel
theorem d_L_law_275 : decode c_L_law 275 = .ok (.ireturn, 1) := by decide +kernel
theorem d_L_law_276 : decode c_L_law 276 = .ok (.iload 5, 2) := by decide +kernel
theorem d_L_law_278 : decode c_L_law 278 = .ok (.ifCond .ne 22, 3) := by decide +kernel
theorem d_L_law_281 : decode c_L_law 281 = .ok (.aload_n 3, 1) := by decide +kernel
theorem d_L_law_282 : decode c_L_law 282 = .ok (.iconst 0, 1) := by decide +kernel
theorem d_L_law_283 : decode c_L_law 283 = .ok (.laload, 1) := by decide +kernel
theorem d_L_law_284 : decode c_L_law 284 = .ok (.iload 6, 2) := by decide +kernel
theorem d_L_law_286 : decode c_L_law 286 = .ok (.ifCond .eq 7, 3) := by decide +kernel
theorem d_L_law_289 : decode c_L_law 289 = .ok (.lconst 1, 1) := by decide +kernel
theorem d_L_law_290 : decode c_L_law 290 = .ok (.goto 4, 3) := by decide +kernel
theorem d_L_law_293 : decode c_L_law 293 = .ok (.lconst 0, 1) := by decide +kernel
theorem d_L_law_294 : decode c_L_law 294 = .ok (.lcmp, 1) := by decide +kernel
theorem d_L_law_295 : decode c_L_law 295 = .ok (.ifCond .eq 5, 3) := by decide +kernel
theorem d_L_law_298 : decode c_L_law 298 = .ok (.iconst 0, 1) := by decide +kernel
theorem d_L_law_299 : decode c_L_law 299 = .ok (.ireturn, 1) := by decide +kernel
theorem d_L_law_300 : decode c_L_law 300 = .ok (.goto 754, 3) := by decide +kernel
theorem d_L_law_303 : decode c_L_law 303 = .ok (.aload_n 1, 1) := by decide +kernel
theorem d_L_law_304 : decode c_L_law 304 = .ok (.aload_n 0, 1) := by decide +kernel
theorem d_L_law_305 : decode c_L_law 305 = .ok (.iload 4, 2) := by decide +kernel
theorem d_L_law_307 : decode c_L_law 307 = .ok (.iconst 1, 1) := by decide +kernel
theorem d_L_law_308 : decode c_L_law 308 = .ok (.iadd, 1) := by decide +kernel
theorem d_L_law_309 : decode c_L_law 309 = .ok (.iaload, 1) := by decide +kernel
theorem d_L_law_310 : decode c_L_law 310 = .ok (.aload_n 0, 1) := by decide +kernel
theorem d_L_law_311 : decode c_L_law 311 = .ok (.iload 4, 2) := by decide +kernel
theorem d_L_law_313 : decode c_L_law 313 = .ok (.iconst 2, 1) := by decide +kernel
theorem d_L_law_314 : decode c_L_law 314 = .ok (.iadd, 1) := by decide +kernel
theorem d_L_law_315 : decode c_L_law 315 = .ok (.iaload, 1) := by decide +kernel
theorem d_L_law_316 : decode c_L_law 316 = .ok (.invokestatic 86, 3) := by decide +kernel
theorem d_L_law_319 : decode c_L_law 319 = .ok (.istore 5, 2) := by decide +kernel
theorem d_L_law_321 : decode c_L_law 321 = .ok (.aload_n 2, 1) := by decide +kernel
theorem d_L_law_322 : decode c_L_law 322 = .ok (.aload_n 0, 1) := by decide +kernel
theorem d_L_law_323 : decode c_L_law 323 = .ok (.iload 4, 2) := by decide +kernel
theorem d_L_law_325 : decode c_L_law 325 = .ok (.iconst 1, 1) := by decide +kernel
theorem d_L_law_326 : decode c_L_law 326 = .ok (.iadd, 1) := by decide +kernel
theorem d_L_law_327 : decode c_L_law 327 = .ok (.iaload, 1) := by decide +kernel
theorem d_L_law_328 : decode c_L_law 328 = .ok (.aload_n 0, 1) := by decide +kernel
theorem d_L_law_329 : decode c_L_law 329 = .ok (.iload 4, 2) := by decide +kernel
theorem d_L_law_331 : decode c_L_law 331 = .ok (.iconst 2, 1) := by decide +kernel
theorem d_L_law_332 : decode c_L_law 332 = .ok (.iadd, 1) := by decide +kernel
theorem d_L_law_333 : decode c_L_law 333 = .ok (.iaload, 1) := by decide +kernel
theorem d_L_law_334 : decode c_L_law 334 = .ok (.invokevirtual 89, 3) := by decide +kernel
theorem d_L_law_337 : decode c_L_law 337 = .ok (.aload_n 2, 1) := by decide +kernel
theorem d_L_law_338 : decode c_L_law 338 = .ok (.invokevirtual 79, 3) := by decide +kernel
theorem d_L_law_341 : decode c_L_law 341 = .ok (.iload 5, 2) := by decide +kernel
theorem d_L_law_343 : decode c_L_law 343 = .ok (.if_icmp .eq 5, 3) := by decide +kernel
theorem d_L_law_346 : decode c_L_law 346 = .ok (.iconst 0, 1) := by decide +kernel
theorem d_L_law_347 : decode c_L_law 347 = .ok (.ireturn, 1) := by decide +kernel
theorem d_L_law_348 : decode c_L_law 348 = .ok (.goto 706, 3) := by decide +kernel
theorem d_L_law_351 : decode c_L_law 351 = .ok (.aload_n 1, 1) := by decide +kernel
theorem d_L_law_352 : decode c_L_law 352 = .ok (.aload_n 0, 1) := by decide +kernel
theorem d_L_law_353 : decode c_L_law 353 = .ok (.iload 4, 2) := by decide +kernel
theorem d_L_law_355 : decode c_L_law 355 = .ok (.iconst 1, 1) := by decide +kernel
theorem d_L_law_356 : decode c_L_law 356 = .ok (.iadd, 1) := by decide +kernel
theorem d_L_law_357 : decode c_L_law 357 = .ok (.iaload, 1) := by decide +kernel
theorem d_L_law_358 : decode c_L_law 358 = .ok (.aload_n 0, 1) := by decide +kernel
theorem d_L_law_359 : decode c_L_law 359 = .ok (.iload 4, 2) := by decide +kernel
theorem d_L_law_361 : decode c_L_law 361 = .ok (.iconst 2, 1) := by decide +kernel
theorem d_L_law_362 : decode c_L_law 362 = .ok (.iadd, 1) := by decide +kernel
theorem d_L_law_363 : decode c_L_law 363 = .ok (.iaload, 1) := by decide +kernel
theorem d_L_law_364 : decode c_L_law 364 = .ok (.aload_n 0, 1) := by decide +kernel
theorem d_L_law_365 : decode c_L_law 365 = .ok (.iload 4, 2) := by decide +kernel
theorem d_L_law_367 : decode c_L_law 367 = .ok (.iconst 3, 1) := by decide +kernel
theorem d_L_law_368 : decode c_L_law 368 = .ok (.iadd, 1) := by decide +kernel
theorem d_L_law_369 : decode c_L_law 369 = .ok (.iaload, 1) := by decide +kernel
theorem d_L_law_370 : decode c_L_law 370 = .ok (.aload_n 3, 1) := by decide +kernel
theorem d_L_law_371 : decode c_L_law 371 = .ok (.invokestatic 90, 3) := by decide +kernel
theorem d_L_law_374 : decode c_L_law 374 = .ok (.istore 5, 2) := by decide +kernel
theorem d_L_law_376 : decode c_L_law 376 = .ok (.aload_n 2, 1) := by decide +kernel
theorem d_L_law_377 : decode c_L_law 377 = .ok (.aload_n 0, 1) := by decide +kernel
theorem d_L_law_378 : decode c_L_law 378 = .ok (.iload 4, 2) := by decide +kernel
theorem d_L_law_380 : decode c_L_law 380 = .ok (.iconst 1, 1) := by decide +kernel
theorem d_L_law_381 : decode c_L_law 381 = .ok (.iadd, 1) := by decide +kernel
theorem d_L_law_382 : decode c_L_law 382 = .ok (.iaload, 1) := by decide +kernel
theorem d_L_law_383 : decode c_L_law 383 = .ok (.aload_n 0, 1) := by decide +kernel
theorem d_L_law_384 : decode c_L_law 384 = .ok (.iload 4, 2) := by decide +kernel
theorem d_L_law_386 : decode c_L_law 386 = .ok (.iconst 2, 1) := by decide +kernel
theorem d_L_law_387 : decode c_L_law 387 = .ok (.iadd, 1) := by decide +kernel
theorem d_L_law_388 : decode c_L_law 388 = .ok (.iaload, 1) := by decide +kernel
theorem d_L_law_389 : decode c_L_law 389 = .ok (.aload_n 0, 1) := by decide +kernel
theorem d_L_law_390 : decode c_L_law 390 = .ok (.iload 4, 2) := by decide +kernel
theorem d_L_law_392 : decode c_L_law 392 = .ok (.iconst 3, 1) := by decide +kernel
theorem d_L_law_393 : decode c_L_law 393 = .ok (.iadd, 1) := by decide +kernel
theorem d_L_law_394 : decode c_L_law 394 = .ok (.iaload, 1) := by decide +kernel
theorem d_L_law_395 : decode c_L_law 395 = .ok (.invokevirtual 93, 3) := by decide +kernel
theorem d_L_law_398 : decode c_L_law 398 = .ok (.istore 6, 2) := by decide +kernel
theorem d_L_law_400 : decode c_L_law 400 = .ok (.aload_n 2, 1) := by decide +kernel
theorem d_L_law_401 : decode c_L_law 401 = .ok (.invokevirtual 79, 3) := by decide +kernel
theorem d_L_law_404 : decode c_L_law 404 = .ok (.iload 5, 2) := by decide +kernel
theorem d_L_law_406 : decode c_L_law 406 = .ok (.if_icmp .eq 5, 3) := by decide +kernel
theorem d_L_law_409 : decode c_L_law 409 = .ok (.iconst 0, 1) := by decide +kernel
theorem d_L_law_410 : decode c_L_law 410 = .ok (.ireturn, 1) := by decide +kernel
theorem d_L_law_411 : decode c_L_law 411 = .ok (.iload 5, 2) := by decide +kernel
theorem d_L_law_413 : decode c_L_law 413 = .ok (.ifCond .ne 15, 3) := by decide +kernel
theorem d_L_law_416 : decode c_L_law 416 = .ok (.aload_n 3, 1) := by decide +kernel
theorem d_L_law_417 : decode c_L_law 417 = .ok (.iconst 0, 1) := by decide +kernel
theorem d_L_law_418 : decode c_L_law 418 = .ok (.laload, 1) := by decide +kernel
theorem d_L_law_419 : decode c_L_law 419 = .ok (.iload 6, 2) := by decide +kernel
theorem d_L_law_421 : decode c_L_law 421 = .ok (.i2l, 1) := by decide +kernel
theorem d_L_law_422 : decode c_L_law 422 = .ok (.lcmp, 1) := by decide +kernel
theorem d_L_law_423 : decode c_L_law 423 = .ok (.ifCond .eq 5, 3) := by decide +kernel
theorem d_L_law_426 : decode c_L_law 426 = .ok (.iconst 0, 1) := by decide +kernel
theorem d_L_law_427 : decode c_L_law 427 = .ok (.ireturn, 1) := by decide +kernel
theorem d_L_law_428 : decode c_L_law 428 = .ok (.goto 626, 3) := by decide +kernel
theorem d_L_law_431 : decode c_L_law 431 = .ok (.aload_n 1, 1) := by decide +kernel
theorem d_L_law_432 : decode c_L_law 432 = .ok (.aload_n 3, 1) := by decide +kernel
theorem d_L_law_433 : decode c_L_law 433 = .ok (.invokestatic 94, 3) := by decide +kernel
theorem d_L_law_436 : decode c_L_law 436 = .ok (.istore 5, 2) := by decide +kernel
theorem d_L_law_438 : decode c_L_law 438 = .ok (.aload_n 2, 1) := by decide +kernel
theorem d_L_law_439 : decode c_L_law 439 = .ok (.invokevirtual 97, 3) := by decide +kernel
theorem d_L_law_442 : decode c_L_law 442 = .ok (.istore 6, 2) := by decide +kernel
theorem d_L_law_444 : decode c_L_law 444 = .ok (.aload_n 2, 1) := by decide +kernel
theorem d_L_law_445 : decode c_L_law 445 = .ok (.invokevirtual 79, 3) := by decide +kernel
theorem d_L_law_448 : decode c_L_law 448 = .ok (.iload 5, 2) := by decide +kernel
theorem d_L_law_450 : decode c_L_law 450 = .ok (.if_icmp .eq 5, 3) := by decide +kernel
theorem d_L_law_453 : decode c_L_law 453 = .ok (.iconst 0, 1) := by decide +kernel
theorem d_L_law_454 : decode c_L_law 454 = .ok (.ireturn, 1) := by decide +kernel
theorem d_L_law_455 : decode c_L_law 455 = .ok (.iload 5, 2) := by decide +kernel
theorem d_L_law_457 : decode c_L_law 457 = .ok (.ifCond .ne 15, 3) := by decide +kernel
theorem d_L_law_460 : decode c_L_law 460 = .ok (.aload_n 3, 1) := by decide +kernel
theorem d_L_law_461 : decode c_L_law 461 = .ok (.iconst 0, 1) := by decide +kernel
theorem d_L_law_462 : decode c_L_law 462 = .ok (.laload, 1) := by decide +kernel
theorem d_L_law_463 : decode c_L_law 463 = .ok (.iload 6, 2) := by decide +kernel
theorem d_L_law_465 : decode c_L_law 465 = .ok (.i2l, 1) := by decide +kernel
theorem d_L_law_466 : decode c_L_law 466 = .ok (.lcmp, 1) := by decide +kernel
theorem d_L_law_467 : decode c_L_law 467 = .ok (.ifCond .eq 5, 3) := by decide +kernel
theorem d_L_law_470 : decode c_L_law 470 = .ok (.iconst 0, 1) := by decide +kernel
theorem d_L_law_471 : decode c_L_law 471 = .ok (.ireturn, 1) := by decide +kernel
theorem d_L_law_472 : decode c_L_law 472 = .ok (.goto 582, 3) := by decide +kernel
theorem d_L_law_475 : decode c_L_law 475 = .ok (.aload_n 1, 1) := by decide +kernel
theorem d_L_law_476 : decode c_L_law 476 = .ok (.aload_n 0, 1) := by decide +kernel
theorem d_L_law_477 : decode c_L_law 477 = .ok (.iload 4, 2) := by decide +kernel
theorem d_L_law_479 : decode c_L_law 479 = .ok (.iconst 1, 1) := by decide +kernel
theorem d_L_law_480 : decode c_L_law 480 = .ok (.iadd, 1) := by decide +kernel
theorem d_L_law_481 : decode c_L_law 481 = .ok (.iaload, 1) := by decide +kernel
theorem d_L_law_482 : decode c_L_law 482 = .ok (.aload_n 3, 1) := by decide +kernel
theorem d_L_law_483 : decode c_L_law 483 = .ok (.invokestatic 98, 3) := by decide +kernel
theorem d_L_law_486 : decode c_L_law 486 = .ok (.istore 5, 2) := by decide +kernel
theorem d_L_law_488 : decode c_L_law 488 = .ok (.aload_n 2, 1) := by decide +kernel
theorem d_L_law_489 : decode c_L_law 489 = .ok (.aload_n 0, 1) := by decide +kernel
theorem d_L_law_490 : decode c_L_law 490 = .ok (.iload 4, 2) := by decide +kernel
theorem d_L_law_492 : decode c_L_law 492 = .ok (.iconst 1, 1) := by decide +kernel
theorem d_L_law_493 : decode c_L_law 493 = .ok (.iadd, 1) := by decide +kernel
theorem d_L_law_494 : decode c_L_law 494 = .ok (.iaload, 1) := by decide +kernel
theorem d_L_law_495 : decode c_L_law 495 = .ok (.invokevirtual 101, 3) := by decide +kernel
theorem d_L_law_498 : decode c_L_law 498 = .ok (.istore 6, 2) := by decide +kernel
theorem d_L_law_500 : decode c_L_law 500 = .ok (.aload_n 2, 1) := by decide +kernel
theorem d_L_law_501 : decode c_L_law 501 = .ok (.invokevirtual 79, 3) := by decide +kernel
theorem d_L_law_504 : decode c_L_law 504 = .ok (.iload 5, 2) := by decide +kernel
theorem d_L_law_506 : decode c_L_law 506 = .ok (.if_icmp .eq 5, 3) := by decide +kernel
theorem d_L_law_509 : decode c_L_law 509 = .ok (.iconst 0, 1) := by decide +kernel
theorem d_L_law_510 : decode c_L_law 510 = .ok (.ireturn, 1) := by decide +kernel
theorem d_L_law_511 : decode c_L_law 511 = .ok (.iload 5, 2) := by decide +kernel
theorem d_L_law_513 : decode c_L_law 513 = .ok (.ifCond .ne 15, 3) := by decide +kernel
theorem d_L_law_516 : decode c_L_law 516 = .ok (.aload_n 3, 1) := by decide +kernel
theorem d_L_law_517 : decode c_L_law 517 = .ok (.iconst 0, 1) := by decide +kernel
theorem d_L_law_518 : decode c_L_law 518 = .ok (.laload, 1) := by decide +kernel
theorem d_L_law_519 : decode c_L_law 519 = .ok (.iload 6, 2) := by decide +kernel
theorem d_L_law_521 : decode c_L_law 521 = .ok (.i2l, 1) := by decide +kernel
theorem d_L_law_522 : decode c_L_law 522 = .ok (.lcmp, 1) := by decide +kernel
theorem d_L_law_523 : decode c_L_law 523 = .ok (.ifCond .eq 5, 3) := by decide +kernel
theorem d_L_law_526 : decode c_L_law 526 = .ok (.iconst 0, 1) := by decide +kernel
theorem d_L_law_527 : decode c_L_law 527 = .ok (.ireturn, 1) := by decide +kernel
theorem d_L_law_528 : decode c_L_law 528 = .ok (.goto 526, 3) := by decide +kernel
theorem d_L_law_531 : decode c_L_law 531 = .ok (.aload_n 1, 1) := by decide +kernel
theorem d_L_law_532 : decode c_L_law 532 = .ok (.invokevirtual 102, 3) := by decide +kernel
theorem d_L_law_535 : decode c_L_law 535 = .ok (.aload_n 2, 1) := by decide +kernel
theorem d_L_law_536 : decode c_L_law 536 = .ok (.invokevirtual 105, 3) := by decide +kernel
theorem d_L_law_539 : decode c_L_law 539 = .ok (.if_icmp .eq 515, 3) := by decide +kernel
theorem d_L_law_542 : decode c_L_law 542 = .ok (.iconst 0, 1) := by decide +kernel
theorem d_L_law_543 : decode c_L_law 543 = .ok (.ireturn, 1) := by decide +kernel
theorem d_L_law_544 : decode c_L_law 544 = .ok (.aload_n 1, 1) := by decide +kernel
theorem d_L_law_545 : decode c_L_law 545 = .ok (.aload_n 0, 1) := by decide +kernel
theorem d_L_law_546 : decode c_L_law 546 = .ok (.iload 4, 2) := by decide +kernel
theorem d_L_law_548 : decode c_L_law 548 = .ok (.iconst 1, 1) := by decide +kernel
theorem d_L_law_549 : decode c_L_law 549 = .ok (.iadd, 1) := by decide +kernel
theorem d_L_law_550 : decode c_L_law 550 = .ok (.iaload, 1) := by decide +kernel
theorem d_L_law_551 : decode c_L_law 551 = .ok (.aload_n 3, 1) := by decide +kernel
theorem d_L_law_552 : decode c_L_law 552 = .ok (.invokestatic 106, 3) := by decide +kernel
theorem d_L_law_555 : decode c_L_law 555 = .ok (.istore 5, 2) := by decide +kernel
theorem d_L_law_557 : decode c_L_law 557 = .ok (.aload_n 2, 1) := by decide +kernel
theorem d_L_law_558 : decode c_L_law 558 = .ok (.aload_n 0, 1) := by decide +kernel
theorem d_L_law_559 : decode c_L_law 559 = .ok (.iload 4, 2) := by decide +kernel
theorem d_L_law_561 : decode c_L_law 561 = .ok (.iconst 1, 1) := by decide +kernel
theorem d_L_law_562 : decode c_L_law 562 = .ok (.iadd, 1) := by decide +kernel
theorem d_L_law_563 : decode c_L_law 563 = .ok (.iaload, 1) := by decide +kernel
theorem d_L_law_564 : decode c_L_law 564 = .ok (.invokevirtual 108, 3) := by decide +kernel
theorem d_L_law_567 : decode c_L_law 567 = .ok (.istore 6, 2) := by decide +kernel
theorem d_L_law_569 : decode c_L_law 569 = .ok (.aload_n 2, 1) := by decide +kernel
theorem d_L_law_570 : decode c_L_law 570 = .ok (.invokevirtual 79, 3) := by decide +kernel
theorem d_L_law_573 : decode c_L_law 573 = .ok (.iload 5, 2) := by decide +kernel
theorem d_L_law_575 : decode c_L_law 575 = .ok (.if_icmp .eq 5, 3) := by decide +kernel
theorem d_L_law_578 : decode c_L_law 578 = .ok (.iconst 0, 1) := by decide +kernel
theorem d_L_law_579 : decode c_L_law 579 = .ok (.ireturn, 1) := by decide +kernel
theorem d_L_law_580 : decode c_L_law 580 = .ok (.iload 5, 2) := by decide +kernel
theorem d_L_law_582 : decode c_L_law 582 = .ok (.ifCond .ne 15, 3) := by decide +kernel
theorem d_L_law_585 : decode c_L_law 585 = .ok (.aload_n 3, 1) := by decide +kernel
theorem d_L_law_586 : decode c_L_law 586 = .ok (.iconst 0, 1) := by decide +kernel
theorem d_L_law_587 : decode c_L_law 587 = .ok (.laload, 1) := by decide +kernel
theorem d_L_law_588 : decode c_L_law 588 = .ok (.iload 6, 2) := by decide +kernel
theorem d_L_law_590 : decode c_L_law 590 = .ok (.i2l, 1) := by decide +kernel
theorem d_L_law_591 : decode c_L_law 591 = .ok (.lcmp, 1) := by decide +kernel
theorem d_L_law_592 : decode c_L_law 592 = .ok (.ifCond .eq 5, 3) := by decide +kernel
theorem d_L_law_595 : decode c_L_law 595 = .ok (.iconst 0, 1) := by decide +kernel
theorem d_L_law_596 : decode c_L_law 596 = .ok (.ireturn, 1) := by decide +kernel
theorem d_L_law_597 : decode c_L_law 597 = .ok (.goto 457, 3) := by decide +kernel
theorem d_L_law_600 : decode c_L_law 600 = .ok (.aload_n 1, 1) := by decide +kernel
theorem d_L_law_601 : decode c_L_law 601 = .ok (.aload_n 0, 1) := by decide +kernel
theorem d_L_law_602 : decode c_L_law 602 = .ok (.iload 4, 2) := by decide +kernel
theorem d_L_law_604 : decode c_L_law 604 = .ok (.iconst 1, 1) := by decide +kernel
theorem d_L_law_605 : decode c_L_law 605 = .ok (.iadd, 1) := by decide +kernel
theorem d_L_law_606 : decode c_L_law 606 = .ok (.iaload, 1) := by decide +kernel
theorem d_L_law_607 : decode c_L_law 607 = .ok (.aload_n 0, 1) := by decide +kernel
theorem d_L_law_608 : decode c_L_law 608 = .ok (.iload 4, 2) := by decide +kernel
theorem d_L_law_610 : decode c_L_law 610 = .ok (.iconst 2, 1) := by decide +kernel
theorem d_L_law_611 : decode c_L_law 611 = .ok (.iadd, 1) := by decide +kernel
theorem d_L_law_612 : decode c_L_law 612 = .ok (.iaload, 1) := by decide +kernel
theorem d_L_law_613 : decode c_L_law 613 = .ok (.aload_n 0, 1) := by decide +kernel
theorem d_L_law_614 : decode c_L_law 614 = .ok (.iload 4, 2) := by decide +kernel
theorem d_L_law_616 : decode c_L_law 616 = .ok (.iconst 3, 1) := by decide +kernel
theorem d_L_law_617 : decode c_L_law 617 = .ok (.iadd, 1) := by decide +kernel
theorem d_L_law_618 : decode c_L_law 618 = .ok (.iaload, 1) := by decide +kernel
theorem d_L_law_619 : decode c_L_law 619 = .ok (.aload_n 3, 1) := by decide +kernel
theorem d_L_law_620 : decode c_L_law 620 = .ok (.invokestatic 109, 3) := by decide +kernel
theorem d_L_law_623 : decode c_L_law 623 = .ok (.istore 5, 2) := by decide +kernel
theorem d_L_law_625 : decode c_L_law 625 = .ok (.aload_n 2, 1) := by decide +kernel
theorem d_L_law_626 : decode c_L_law 626 = .ok (.aload_n 0, 1) := by decide +kernel
theorem d_L_law_627 : decode c_L_law 627 = .ok (.iload 4, 2) := by decide +kernel
theorem d_L_law_629 : decode c_L_law 629 = .ok (.iconst 1, 1) := by decide +kernel
theorem d_L_law_630 : decode c_L_law 630 = .ok (.iadd, 1) := by decide +kernel
theorem d_L_law_631 : decode c_L_law 631 = .ok (.iaload, 1) := by decide +kernel
theorem d_L_law_632 : decode c_L_law 632 = .ok (.aload_n 0, 1) := by decide +kernel
theorem d_L_law_633 : decode c_L_law 633 = .ok (.iload 4, 2) := by decide +kernel
theorem d_L_law_635 : decode c_L_law 635 = .ok (.iconst 2, 1) := by decide +kernel
theorem d_L_law_636 : decode c_L_law 636 = .ok (.iadd, 1) := by decide +kernel
theorem d_L_law_637 : decode c_L_law 637 = .ok (.iaload, 1) := by decide +kernel
theorem d_L_law_638 : decode c_L_law 638 = .ok (.aload_n 0, 1) := by decide +kernel
theorem d_L_law_639 : decode c_L_law 639 = .ok (.iload 4, 2) := by decide +kernel
theorem d_L_law_641 : decode c_L_law 641 = .ok (.iconst 3, 1) := by decide +kernel
theorem d_L_law_642 : decode c_L_law 642 = .ok (.iadd, 1) := by decide +kernel
theorem d_L_law_643 : decode c_L_law 643 = .ok (.iaload, 1) := by decide +kernel
theorem d_L_law_644 : decode c_L_law 644 = .ok (.invokevirtual 111, 3) := by decide +kernel
theorem d_L_law_647 : decode c_L_law 647 = .ok (.istore 6, 2) := by decide +kernel
theorem d_L_law_649 : decode c_L_law 649 = .ok (.aload_n 2, 1) := by decide +kernel
theorem d_L_law_650 : decode c_L_law 650 = .ok (.invokevirtual 79, 3) := by decide +kernel
theorem d_L_law_653 : decode c_L_law 653 = .ok (.iload 5, 2) := by decide +kernel
theorem d_L_law_655 : decode c_L_law 655 = .ok (.if_icmp .eq 5, 3) := by decide +kernel
theorem d_L_law_658 : decode c_L_law 658 = .ok (.iconst 0, 1) := by decide +kernel
theorem d_L_law_659 : decode c_L_law 659 = .ok (.ireturn, 1) := by decide +kernel
theorem d_L_law_660 : decode c_L_law 660 = .ok (.iload 5, 2) := by decide +kernel
theorem d_L_law_662 : decode c_L_law 662 = .ok (.ifCond .ne 15, 3) := by decide +kernel
theorem d_L_law_665 : decode c_L_law 665 = .ok (.aload_n 3, 1) := by decide +kernel
theorem d_L_law_666 : decode c_L_law 666 = .ok (.iconst 0, 1) := by decide +kernel
theorem d_L_law_667 : decode c_L_law 667 = .ok (.laload, 1) := by decide +kernel
theorem d_L_law_668 : decode c_L_law 668 = .ok (.iload 6, 2) := by decide +kernel
theorem d_L_law_670 : decode c_L_law 670 = .ok (.i2l, 1) := by decide +kernel
theorem d_L_law_671 : decode c_L_law 671 = .ok (.lcmp, 1) := by decide +kernel
theorem d_L_law_672 : decode c_L_law 672 = .ok (.ifCond .eq 5, 3) := by decide +kernel
theorem d_L_law_675 : decode c_L_law 675 = .ok (.iconst 0, 1) := by decide +kernel
theorem d_L_law_676 : decode c_L_law 676 = .ok (.ireturn, 1) := by decide +kernel
theorem d_L_law_677 : decode c_L_law 677 = .ok (.goto 377, 3) := by decide +kernel
theorem d_L_law_680 : decode c_L_law 680 = .ok (.aload_n 1, 1) := by decide +kernel
theorem d_L_law_681 : decode c_L_law 681 = .ok (.aload_n 0, 1) := by decide +kernel
theorem d_L_law_682 : decode c_L_law 682 = .ok (.iload 4, 2) := by decide +kernel
theorem d_L_law_684 : decode c_L_law 684 = .ok (.iconst 1, 1) := by decide +kernel
theorem d_L_law_685 : decode c_L_law 685 = .ok (.iadd, 1) := by decide +kernel
theorem d_L_law_686 : decode c_L_law 686 = .ok (.iaload, 1) := by decide +kernel
theorem d_L_law_687 : decode c_L_law 687 = .ok (.aload_n 3, 1) := by decide +kernel
theorem d_L_law_688 : decode c_L_law 688 = .ok (.invokestatic 112, 3) := by decide +kernel
theorem d_L_law_691 : decode c_L_law 691 = .ok (.istore 5, 2) := by decide +kernel
theorem d_L_law_693 : decode c_L_law 693 = .ok (.aload_n 2, 1) := by decide +kernel
theorem d_L_law_694 : decode c_L_law 694 = .ok (.aload_n 0, 1) := by decide +kernel
theorem d_L_law_695 : decode c_L_law 695 = .ok (.iload 4, 2) := by decide +kernel
theorem d_L_law_697 : decode c_L_law 697 = .ok (.iconst 1, 1) := by decide +kernel
theorem d_L_law_698 : decode c_L_law 698 = .ok (.iadd, 1) := by decide +kernel
theorem d_L_law_699 : decode c_L_law 699 = .ok (.iaload, 1) := by decide +kernel
theorem d_L_law_700 : decode c_L_law 700 = .ok (.invokevirtual 114, 3) := by decide +kernel
theorem d_L_law_703 : decode c_L_law 703 = .ok (.istore 6, 2) := by decide +kernel
theorem d_L_law_705 : decode c_L_law 705 = .ok (.aload_n 2, 1) := by decide +kernel
theorem d_L_law_706 : decode c_L_law 706 = .ok (.invokevirtual 79, 3) := by decide +kernel
theorem d_L_law_709 : decode c_L_law 709 = .ok (.iload 5, 2) := by decide +kernel
theorem d_L_law_711 : decode c_L_law 711 = .ok (.if_icmp .eq 5, 3) := by decide +kernel
theorem d_L_law_714 : decode c_L_law 714 = .ok (.iconst 0, 1) := by decide +kernel
theorem d_L_law_715 : decode c_L_law 715 = .ok (.ireturn, 1) := by decide +kernel
theorem d_L_law_716 : decode c_L_law 716 = .ok (.iload 5, 2) := by decide +kernel
theorem d_L_law_718 : decode c_L_law 718 = .ok (.ifCond .ne 15, 3) := by decide +kernel
theorem d_L_law_721 : decode c_L_law 721 = .ok (.aload_n 3, 1) := by decide +kernel
theorem d_L_law_722 : decode c_L_law 722 = .ok (.iconst 0, 1) := by decide +kernel
theorem d_L_law_723 : decode c_L_law 723 = .ok (.laload, 1) := by decide +kernel
theorem d_L_law_724 : decode c_L_law 724 = .ok (.iload 6, 2) := by decide +kernel
theorem d_L_law_726 : decode c_L_law 726 = .ok (.i2l, 1) := by decide +kernel
theorem d_L_law_727 : decode c_L_law 727 = .ok (.lcmp, 1) := by decide +kernel
theorem d_L_law_728 : decode c_L_law 728 = .ok (.ifCond .eq 5, 3) := by decide +kernel
theorem d_L_law_731 : decode c_L_law 731 = .ok (.iconst 0, 1) := by decide +kernel
theorem d_L_law_732 : decode c_L_law 732 = .ok (.ireturn, 1) := by decide +kernel
theorem d_L_law_733 : decode c_L_law 733 = .ok (.goto 321, 3) := by decide +kernel
theorem d_L_law_736 : decode c_L_law 736 = .ok (.aload_n 1, 1) := by decide +kernel
theorem d_L_law_737 : decode c_L_law 737 = .ok (.aload_n 0, 1) := by decide +kernel
theorem d_L_law_738 : decode c_L_law 738 = .ok (.iload 4, 2) := by decide +kernel
theorem d_L_law_740 : decode c_L_law 740 = .ok (.iconst 1, 1) := by decide +kernel
theorem d_L_law_741 : decode c_L_law 741 = .ok (.iadd, 1) := by decide +kernel
theorem d_L_law_742 : decode c_L_law 742 = .ok (.iaload, 1) := by decide +kernel
theorem d_L_law_743 : decode c_L_law 743 = .ok (.aload_n 3, 1) := by decide +kernel
theorem d_L_law_744 : decode c_L_law 744 = .ok (.invokestatic 115, 3) := by decide +kernel
theorem d_L_law_747 : decode c_L_law 747 = .ok (.istore 5, 2) := by decide +kernel
theorem d_L_law_749 : decode c_L_law 749 = .ok (.aload_n 2, 1) := by decide +kernel
theorem d_L_law_750 : decode c_L_law 750 = .ok (.aload_n 0, 1) := by decide +kernel
theorem d_L_law_751 : decode c_L_law 751 = .ok (.iload 4, 2) := by decide +kernel
theorem d_L_law_753 : decode c_L_law 753 = .ok (.iconst 1, 1) := by decide +kernel
theorem d_L_law_754 : decode c_L_law 754 = .ok (.iadd, 1) := by decide +kernel
theorem d_L_law_755 : decode c_L_law 755 = .ok (.iaload, 1) := by decide +kernel
theorem d_L_law_756 : decode c_L_law 756 = .ok (.invokevirtual 117, 3) := by decide +kernel
theorem d_L_law_759 : decode c_L_law 759 = .ok (.istore 6, 2) := by decide +kernel
theorem d_L_law_761 : decode c_L_law 761 = .ok (.aload_n 2, 1) := by decide +kernel
theorem d_L_law_762 : decode c_L_law 762 = .ok (.invokevirtual 79, 3) := by decide +kernel
theorem d_L_law_765 : decode c_L_law 765 = .ok (.iload 5, 2) := by decide +kernel
theorem d_L_law_767 : decode c_L_law 767 = .ok (.if_icmp .eq 5, 3) := by decide +kernel
theorem d_L_law_770 : decode c_L_law 770 = .ok (.iconst 0, 1) := by decide +kernel
theorem d_L_law_771 : decode c_L_law 771 = .ok (.ireturn, 1) := by decide +kernel
theorem d_L_law_772 : decode c_L_law 772 = .ok (.iload 5, 2) := by decide +kernel
theorem d_L_law_774 : decode c_L_law 774 = .ok (.ifCond .ne 15, 3) := by decide +kernel
theorem d_L_law_777 : decode c_L_law 777 = .ok (.aload_n 3, 1) := by decide +kernel
theorem d_L_law_778 : decode c_L_law 778 = .ok (.iconst 0, 1) := by decide +kernel
theorem d_L_law_779 : decode c_L_law 779 = .ok (.laload, 1) := by decide +kernel
theorem d_L_law_780 : decode c_L_law 780 = .ok (.iload 6, 2) := by decide +kernel
theorem d_L_law_782 : decode c_L_law 782 = .ok (.i2l, 1) := by decide +kernel
theorem d_L_law_783 : decode c_L_law 783 = .ok (.lcmp, 1) := by decide +kernel
theorem d_L_law_784 : decode c_L_law 784 = .ok (.ifCond .eq 5, 3) := by decide +kernel
theorem d_L_law_787 : decode c_L_law 787 = .ok (.iconst 0, 1) := by decide +kernel
theorem d_L_law_788 : decode c_L_law 788 = .ok (.ireturn, 1) := by decide +kernel
theorem d_L_law_789 : decode c_L_law 789 = .ok (.goto 265, 3) := by decide +kernel
theorem d_L_law_792 : decode c_L_law 792 = .ok (.aload_n 1, 1) := by decide +kernel
theorem d_L_law_793 : decode c_L_law 793 = .ok (.aload_n 0, 1) := by decide +kernel
theorem d_L_law_794 : decode c_L_law 794 = .ok (.iload 4, 2) := by decide +kernel
theorem d_L_law_796 : decode c_L_law 796 = .ok (.iconst 1, 1) := by decide +kernel
theorem d_L_law_797 : decode c_L_law 797 = .ok (.iadd, 1) := by decide +kernel
theorem d_L_law_798 : decode c_L_law 798 = .ok (.iaload, 1) := by decide +kernel
theorem d_L_law_799 : decode c_L_law 799 = .ok (.aload_n 3, 1) := by decide +kernel
theorem d_L_law_800 : decode c_L_law 800 = .ok (.invokestatic 118, 3) := by decide +kernel
theorem d_L_law_803 : decode c_L_law 803 = .ok (.istore 5, 2) := by decide +kernel
theorem d_L_law_805 : decode c_L_law 805 = .ok (.aload_n 2, 1) := by decide +kernel
theorem d_L_law_806 : decode c_L_law 806 = .ok (.aload_n 0, 1) := by decide +kernel
theorem d_L_law_807 : decode c_L_law 807 = .ok (.iload 4, 2) := by decide +kernel
theorem d_L_law_809 : decode c_L_law 809 = .ok (.iconst 1, 1) := by decide +kernel
theorem d_L_law_810 : decode c_L_law 810 = .ok (.iadd, 1) := by decide +kernel
theorem d_L_law_811 : decode c_L_law 811 = .ok (.iaload, 1) := by decide +kernel
theorem d_L_law_812 : decode c_L_law 812 = .ok (.invokevirtual 120, 3) := by decide +kernel
theorem d_L_law_815 : decode c_L_law 815 = .ok (.istore 6, 2) := by decide +kernel
theorem d_L_law_817 : decode c_L_law 817 = .ok (.aload_n 2, 1) := by decide +kernel
theorem d_L_law_818 : decode c_L_law 818 = .ok (.invokevirtual 79, 3) := by decide +kernel
theorem d_L_law_821 : decode c_L_law 821 = .ok (.iload 5, 2) := by decide +kernel
theorem d_L_law_823 : decode c_L_law 823 = .ok (.if_icmp .eq 5, 3) := by decide +kernel
theorem d_L_law_826 : decode c_L_law 826 = .ok (.iconst 0, 1) := by decide +kernel
theorem d_L_law_827 : decode c_L_law 827 = .ok (.ireturn, 1) := by decide +kernel
theorem d_L_law_828 : decode c_L_law 828 = .ok (.iload 5, 2) := by decide +kernel
theorem d_L_law_830 : decode c_L_law 830 = .ok (.ifCond .ne 15, 3) := by decide +kernel
theorem d_L_law_833 : decode c_L_law 833 = .ok (.aload_n 3, 1) := by decide +kernel
theorem d_L_law_834 : decode c_L_law 834 = .ok (.iconst 0, 1) := by decide +kernel
theorem d_L_law_835 : decode c_L_law 835 = .ok (.laload, 1) := by decide +kernel
theorem d_L_law_836 : decode c_L_law 836 = .ok (.iload 6, 2) := by decide +kernel
theorem d_L_law_838 : decode c_L_law 838 = .ok (.i2l, 1) := by decide +kernel
theorem d_L_law_839 : decode c_L_law 839 = .ok (.lcmp, 1) := by decide +kernel
theorem d_L_law_840 : decode c_L_law 840 = .ok (.ifCond .eq 5, 3) := by decide +kernel
theorem d_L_law_843 : decode c_L_law 843 = .ok (.iconst 0, 1) := by decide +kernel
theorem d_L_law_844 : decode c_L_law 844 = .ok (.ireturn, 1) := by decide +kernel
theorem d_L_law_845 : decode c_L_law 845 = .ok (.goto 209, 3) := by decide +kernel
theorem d_L_law_848 : decode c_L_law 848 = .ok (.aload_n 1, 1) := by decide +kernel
theorem d_L_law_849 : decode c_L_law 849 = .ok (.aload_n 0, 1) := by decide +kernel
theorem d_L_law_850 : decode c_L_law 850 = .ok (.iload 4, 2) := by decide +kernel
theorem d_L_law_852 : decode c_L_law 852 = .ok (.iconst 1, 1) := by decide +kernel
theorem d_L_law_853 : decode c_L_law 853 = .ok (.iadd, 1) := by decide +kernel
theorem d_L_law_854 : decode c_L_law 854 = .ok (.iaload, 1) := by decide +kernel
theorem d_L_law_855 : decode c_L_law 855 = .ok (.aload_n 3, 1) := by decide +kernel
theorem d_L_law_856 : decode c_L_law 856 = .ok (.invokestatic 121, 3) := by decide +kernel
theorem d_L_law_859 : decode c_L_law 859 = .ok (.istore 5, 2) := by decide +kernel
theorem d_L_law_861 : decode c_L_law 861 = .ok (.aload_n 2, 1) := by decide +kernel
theorem d_L_law_862 : decode c_L_law 862 = .ok (.aload_n 0, 1) := by decide +kernel
theorem d_L_law_863 : decode c_L_law 863 = .ok (.iload 4, 2) := by decide +kernel
theorem d_L_law_865 : decode c_L_law 865 = .ok (.iconst 1, 1) := by decide +kernel
theorem d_L_law_866 : decode c_L_law 866 = .ok (.iadd, 1) := by decide +kernel
theorem d_L_law_867 : decode c_L_law 867 = .ok (.iaload, 1) := by decide +kernel
theorem d_L_law_868 : decode c_L_law 868 = .ok (.invokevirtual 123, 3) := by decide +kernel
theorem d_L_law_871 : decode c_L_law 871 = .ok (.istore 6, 2) := by decide +kernel
theorem d_L_law_873 : decode c_L_law 873 = .ok (.aload_n 2, 1) := by decide +kernel
theorem d_L_law_874 : decode c_L_law 874 = .ok (.invokevirtual 79, 3) := by decide +kernel
theorem d_L_law_877 : decode c_L_law 877 = .ok (.iload 5, 2) := by decide +kernel
theorem d_L_law_879 : decode c_L_law 879 = .ok (.if_icmp .eq 5, 3) := by decide +kernel
theorem d_L_law_882 : decode c_L_law 882 = .ok (.iconst 0, 1) := by decide +kernel
theorem d_L_law_883 : decode c_L_law 883 = .ok (.ireturn, 1) := by decide +kernel
theorem d_L_law_884 : decode c_L_law 884 = .ok (.iload 5, 2) := by decide +kernel
theorem d_L_law_886 : decode c_L_law 886 = .ok (.ifCond .ne 15, 3) := by decide +kernel
theorem d_L_law_889 : decode c_L_law 889 = .ok (.aload_n 3, 1) := by decide +kernel
theorem d_L_law_890 : decode c_L_law 890 = .ok (.iconst 0, 1) := by decide +kernel
theorem d_L_law_891 : decode c_L_law 891 = .ok (.laload, 1) := by decide +kernel
theorem d_L_law_892 : decode c_L_law 892 = .ok (.iload 6, 2) := by decide +kernel
theorem d_L_law_894 : decode c_L_law 894 = .ok (.i2l, 1) := by decide +kernel
theorem d_L_law_895 : decode c_L_law 895 = .ok (.lcmp, 1) := by decide +kernel
theorem d_L_law_896 : decode c_L_law 896 = .ok (.ifCond .eq 5, 3) := by decide +kernel
theorem d_L_law_899 : decode c_L_law 899 = .ok (.iconst 0, 1) := by decide +kernel
theorem d_L_law_900 : decode c_L_law 900 = .ok (.ireturn, 1) := by decide +kernel
theorem d_L_law_901 : decode c_L_law 901 = .ok (.goto 153, 3) := by decide +kernel
theorem d_L_law_904 : decode c_L_law 904 = .ok (.aload_n 1, 1) := by decide +kernel
theorem d_L_law_905 : decode c_L_law 905 = .ok (.aload_n 0, 1) := by decide +kernel
theorem d_L_law_906 : decode c_L_law 906 = .ok (.iload 4, 2) := by decide +kernel
theorem d_L_law_908 : decode c_L_law 908 = .ok (.iconst 1, 1) := by decide +kernel
theorem d_L_law_909 : decode c_L_law 909 = .ok (.iadd, 1) := by decide +kernel
theorem d_L_law_910 : decode c_L_law 910 = .ok (.iaload, 1) := by decide +kernel
theorem d_L_law_911 : decode c_L_law 911 = .ok (.aload_n 3, 1) := by decide +kernel
theorem d_L_law_912 : decode c_L_law 912 = .ok (.invokestatic 124, 3) := by decide +kernel
theorem d_L_law_915 : decode c_L_law 915 = .ok (.istore 5, 2) := by decide +kernel
theorem d_L_law_917 : decode c_L_law 917 = .ok (.aload_n 2, 1) := by decide +kernel
theorem d_L_law_918 : decode c_L_law 918 = .ok (.aload_n 0, 1) := by decide +kernel
theorem d_L_law_919 : decode c_L_law 919 = .ok (.iload 4, 2) := by decide +kernel
theorem d_L_law_921 : decode c_L_law 921 = .ok (.iconst 1, 1) := by decide +kernel
theorem d_L_law_922 : decode c_L_law 922 = .ok (.iadd, 1) := by decide +kernel
theorem d_L_law_923 : decode c_L_law 923 = .ok (.iaload, 1) := by decide +kernel
theorem d_L_law_924 : decode c_L_law 924 = .ok (.invokevirtual 126, 3) := by decide +kernel
theorem d_L_law_927 : decode c_L_law 927 = .ok (.istore 6, 2) := by decide +kernel
theorem d_L_law_929 : decode c_L_law 929 = .ok (.aload_n 2, 1) := by decide +kernel
theorem d_L_law_930 : decode c_L_law 930 = .ok (.invokevirtual 79, 3) := by decide +kernel
theorem d_L_law_933 : decode c_L_law 933 = .ok (.iload 5, 2) := by decide +kernel
theorem d_L_law_935 : decode c_L_law 935 = .ok (.if_icmp .eq 5, 3) := by decide +kernel
theorem d_L_law_938 : decode c_L_law 938 = .ok (.iconst 0, 1) := by decide +kernel
theorem d_L_law_939 : decode c_L_law 939 = .ok (.ireturn, 1) := by decide +kernel
theorem d_L_law_940 : decode c_L_law 940 = .ok (.iload 5, 2) := by decide +kernel
theorem d_L_law_942 : decode c_L_law 942 = .ok (.ifCond .ne 15, 3) := by decide +kernel
theorem d_L_law_945 : decode c_L_law 945 = .ok (.aload_n 3, 1) := by decide +kernel
theorem d_L_law_946 : decode c_L_law 946 = .ok (.iconst 0, 1) := by decide +kernel
theorem d_L_law_947 : decode c_L_law 947 = .ok (.laload, 1) := by decide +kernel
theorem d_L_law_948 : decode c_L_law 948 = .ok (.iload 6, 2) := by decide +kernel
theorem d_L_law_950 : decode c_L_law 950 = .ok (.i2l, 1) := by decide +kernel
theorem d_L_law_951 : decode c_L_law 951 = .ok (.lcmp, 1) := by decide +kernel
theorem d_L_law_952 : decode c_L_law 952 = .ok (.ifCond .eq 5, 3) := by decide +kernel
theorem d_L_law_955 : decode c_L_law 955 = .ok (.iconst 0, 1) := by decide +kernel
theorem d_L_law_956 : decode c_L_law 956 = .ok (.ireturn, 1) := by decide +kernel
theorem d_L_law_957 : decode c_L_law 957 = .ok (.goto 97, 3) := by decide +kernel
theorem d_L_law_960 : decode c_L_law 960 = .ok (.aload_n 1, 1) := by decide +kernel
theorem d_L_law_961 : decode c_L_law 961 = .ok (.aload_n 0, 1) := by decide +kernel
theorem d_L_law_962 : decode c_L_law 962 = .ok (.iload 4, 2) := by decide +kernel
theorem d_L_law_964 : decode c_L_law 964 = .ok (.iconst 1, 1) := by decide +kernel
theorem d_L_law_965 : decode c_L_law 965 = .ok (.iadd, 1) := by decide +kernel
theorem d_L_law_966 : decode c_L_law 966 = .ok (.iaload, 1) := by decide +kernel
theorem d_L_law_967 : decode c_L_law 967 = .ok (.aload_n 0, 1) := by decide +kernel
theorem d_L_law_968 : decode c_L_law 968 = .ok (.iload 4, 2) := by decide +kernel
theorem d_L_law_970 : decode c_L_law 970 = .ok (.iconst 2, 1) := by decide +kernel
theorem d_L_law_971 : decode c_L_law 971 = .ok (.iadd, 1) := by decide +kernel
theorem d_L_law_972 : decode c_L_law 972 = .ok (.iaload, 1) := by decide +kernel
theorem d_L_law_973 : decode c_L_law 973 = .ok (.aload_n 3, 1) := by decide +kernel
theorem d_L_law_974 : decode c_L_law 974 = .ok (.invokestatic 127, 3) := by decide +kernel
theorem d_L_law_977 : decode c_L_law 977 = .ok (.istore 5, 2) := by decide +kernel
theorem d_L_law_979 : decode c_L_law 979 = .ok (.aload_n 2, 1) := by decide +kernel
theorem d_L_law_980 : decode c_L_law 980 = .ok (.aload_n 0, 1) := by decide +kernel
theorem d_L_law_981 : decode c_L_law 981 = .ok (.iload 4, 2) := by decide +kernel
theorem d_L_law_983 : decode c_L_law 983 = .ok (.iconst 1, 1) := by decide +kernel
theorem d_L_law_984 : decode c_L_law 984 = .ok (.iadd, 1) := by decide +kernel
theorem d_L_law_985 : decode c_L_law 985 = .ok (.iaload, 1) := by decide +kernel
theorem d_L_law_986 : decode c_L_law 986 = .ok (.aload_n 0, 1) := by decide +kernel
theorem d_L_law_987 : decode c_L_law 987 = .ok (.iload 4, 2) := by decide +kernel
theorem d_L_law_989 : decode c_L_law 989 = .ok (.iconst 2, 1) := by decide +kernel
theorem d_L_law_990 : decode c_L_law 990 = .ok (.iadd, 1) := by decide +kernel
theorem d_L_law_991 : decode c_L_law 991 = .ok (.iaload, 1) := by decide +kernel
theorem d_L_law_992 : decode c_L_law 992 = .ok (.invokevirtual 129, 3) := by decide +kernel
theorem d_L_law_995 : decode c_L_law 995 = .ok (.istore 6, 2) := by decide +kernel
theorem d_L_law_997 : decode c_L_law 997 = .ok (.aload_n 2, 1) := by decide +kernel
theorem d_L_law_998 : decode c_L_law 998 = .ok (.invokevirtual 79, 3) := by decide +kernel
theorem d_L_law_1001 : decode c_L_law 1001 = .ok (.iload 5, 2) := by decide +kernel
theorem d_L_law_1003 : decode c_L_law 1003 = .ok (.if_icmp .eq 5, 3) := by decide +kernel
theorem d_L_law_1006 : decode c_L_law 1006 = .ok (.iconst 0, 1) := by decide +kernel
theorem d_L_law_1007 : decode c_L_law 1007 = .ok (.ireturn, 1) := by decide +kernel
theorem d_L_law_1008 : decode c_L_law 1008 = .ok (.iload 5, 2) := by decide +kernel
theorem d_L_law_1010 : decode c_L_law 1010 = .ok (.ifCond .ne 15, 3) := by decide +kernel
theorem d_L_law_1013 : decode c_L_law 1013 = .ok (.aload_n 3, 1) := by decide +kernel
theorem d_L_law_1014 : decode c_L_law 1014 = .ok (.iconst 0, 1) := by decide +kernel
theorem d_L_law_1015 : decode c_L_law 1015 = .ok (.laload, 1) := by decide +kernel
theorem d_L_law_1016 : decode c_L_law 1016 = .ok (.iload 6, 2) := by decide +kernel
theorem d_L_law_1018 : decode c_L_law 1018 = .ok (.i2l, 1) := by decide +kernel
theorem d_L_law_1019 : decode c_L_law 1019 = .ok (.lcmp, 1) := by decide +kernel
theorem d_L_law_1020 : decode c_L_law 1020 = .ok (.ifCond .eq 5, 3) := by decide +kernel
theorem d_L_law_1023 : decode c_L_law 1023 = .ok (.iconst 0, 1) := by decide +kernel
theorem d_L_law_1024 : decode c_L_law 1024 = .ok (.ireturn, 1) := by decide +kernel
theorem d_L_law_1025 : decode c_L_law 1025 = .ok (.goto 29, 3) := by decide +kernel
theorem d_L_law_1028 : decode c_L_law 1028 = .ok (.aload_n 1, 1) := by decide +kernel
theorem d_L_law_1029 : decode c_L_law 1029 = .ok (.invokevirtual 130, 3) := by decide +kernel
theorem d_L_law_1032 : decode c_L_law 1032 = .ok (.aload_n 2, 1) := by decide +kernel
theorem d_L_law_1033 : decode c_L_law 1033 = .ok (.invokevirtual 133, 3) := by decide +kernel
theorem d_L_law_1036 : decode c_L_law 1036 = .ok (.if_icmp .eq 18, 3) := by decide +kernel
theorem d_L_law_1039 : decode c_L_law 1039 = .ok (.iconst 0, 1) := by decide +kernel
theorem d_L_law_1040 : decode c_L_law 1040 = .ok (.ireturn, 1) := by decide +kernel
theorem d_L_law_1041 : decode c_L_law 1041 = .ok (.aload_n 1, 1) := by decide +kernel
theorem d_L_law_1042 : decode c_L_law 1042 = .ok (.invokevirtual 134, 3) := by decide +kernel
theorem d_L_law_1045 : decode c_L_law 1045 = .ok (.aload_n 2, 1) := by decide +kernel
theorem d_L_law_1046 : decode c_L_law 1046 = .ok (.invokevirtual 137, 3) := by decide +kernel
theorem d_L_law_1049 : decode c_L_law 1049 = .ok (.if_icmp .eq 5, 3) := by decide +kernel
theorem d_L_law_1052 : decode c_L_law 1052 = .ok (.iconst 0, 1) := by decide +kernel
theorem d_L_law_1053 : decode c_L_law 1053 = .ok (.ireturn, 1) := by decide +kernel
theorem d_L_law_1054 : decode c_L_law 1054 = .ok (.iinc 4 4, 3) := by decide +kernel
theorem d_L_law_1057 : decode c_L_law 1057 = .ok (.goto (-1024), 3) := by decide +kernel
theorem d_L_law_1060 : decode c_L_law 1060 = .ok (.iconst 1, 1) := by decide +kernel
theorem d_L_law_1061 : decode c_L_law 1061 = .ok (.ireturn, 1) := by decide +kernel
end
section
/-- the good words of the tables: every method's words are its code and these -/
def gW : List Cond := lw_tbl.filter goodWord
theorem gW_in {w : Cond} (i : Nat) (h : lw_tbl[i]? = some w) (g : goodWord w = true) : w ∈ gW := List.mem_filter.mpr ⟨List.mem_of_getElem? h, g⟩
theorem gW_good {w : Cond} (h : w ∈ gW) : goodWord w = true := (List.mem_filter.mp h).2
theorem in_L : Cond.initialized R_L ∈ gW := gW_in 26 (by decide +kernel) (by decide +kernel)
theorem in_B : Cond.initialized R_B ∈ gW := gW_in 27 (by decide +kernel) (by decide +kernel)
theorem in_K : Cond.initialized R_K ∈ gW := gW_in 28 (by decide +kernel) (by decide +kernel)
theorem in_A : Cond.initialized R_A ∈ gW := gW_in 29 (by decide +kernel) (by decide +kernel)
theorem in_F : Cond.initialized R_F ∈ gW := gW_in 30 (by decide +kernel) (by decide +kernel)
theorem in_Y : Cond.initialized R_Y ∈ gW := gW_in 31 (by decide +kernel) (by decide +kernel)
theorem in_M : Cond.initialized R_M ∈ gW := gW_in 32 (by decide +kernel) (by decide +kernel)
theorem in_Throwable : Cond.initialized "java/lang/Throwable" ∈ gW := gW_in 33 (by decide +kernel) (by decide +kernel)
theorem in_Exception : Cond.initialized "java/lang/Exception" ∈ gW := gW_in 34 (by decide +kernel) (by decide +kernel)
theorem in_RuntimeException : Cond.initialized "java/lang/RuntimeException" ∈ gW := gW_in 35 (by decide +kernel) (by decide +kernel)
theorem in_IllegalArgumentException : Cond.initialized "java/lang/IllegalArgumentException" ∈ gW := gW_in 36 (by decide +kernel) (by decide +kernel)
theorem in_IllegalStateException : Cond.initialized "java/lang/IllegalStateException" ∈ gW := gW_in 37 (by decide +kernel) (by decide +kernel)
theorem in_System : Cond.initialized "java/lang/System" ∈ gW := gW_in 38 (by decide +kernel) (by decide +kernel)
theorem in_IndexOutOfBoundsException : Cond.initialized "java/lang/IndexOutOfBoundsException" ∈ gW := gW_in 39 (by decide +kernel) (by decide +kernel)
theorem in_J : Cond.initialized R_J ∈ gW := gW_in 40 (by decide +kernel) (by decide +kernel)
theorem cl_L_8 : Cond.classLink R_L 8 R_B ∈ gW := gW_in 41 (by decide +kernel) (by decide +kernel)
theorem it_B : Cond.instantiable R_B 9 ∈ gW := gW_in 42 (by decide +kernel) (by decide +kernel)
theorem ml_L_69 : Cond.methodLink R_L 69 y_B_init ∈ gW := gW_in 43 (by decide +kernel) (by decide +kernel)
theorem im_B_init : Cond.instanceMethod y_B_init ∈ gW := gW_in 44 (by decide +kernel) (by decide +kernel)
theorem co_B_init : Cond.code y_B_init c_B_init 2 none ∈ gW := gW_in 45 (by decide +kernel) (by decide +kernel)
theorem ml_B_3 : Cond.methodLink R_B 3 objectInit ∈ gW := gW_in 46 (by decide +kernel) (by decide +kernel)
theorem im_objectInit : Cond.instanceMethod objectInit ∈ gW := gW_in 47 (by decide +kernel) (by decide +kernel)
theorem co_objectInit : Cond.code objectInit ⟨#[0xb1]⟩ 1 none ∈ gW := gW_in 48 (by decide +kernel) (by decide +kernel)
theorem ml_B_9 : Cond.methodLink R_B 9 y_B_isRouter ∈ gW := gW_in 49 (by decide +kernel) (by decide +kernel)
theorem st_B_isRouter : Cond.static y_B_isRouter ∈ gW := gW_in 50 (by decide +kernel) (by decide +kernel)
theorem co_B_isRouter : Cond.code y_B_isRouter c_B_isRouter 1 (some .boolean) ∈ gW := gW_in 51 (by decide +kernel) (by decide +kernel)
theorem cl_B_17 : Cond.classLink R_B 17 R_K ∈ gW := gW_in 52 (by decide +kernel) (by decide +kernel)
theorem it_K : Cond.instantiable R_K 4 ∈ gW := gW_in 53 (by decide +kernel) (by decide +kernel)
theorem im_K_init : Cond.instanceMethod y_K_init ∈ gW := gW_in 55 (by decide +kernel) (by decide +kernel)
theorem co_K_init : Cond.code y_K_init c_K_init 1 none ∈ gW := gW_in 56 (by decide +kernel) (by decide +kernel)
theorem ml_K_3 : Cond.methodLink R_K 3 objectInit ∈ gW := gW_in 57 (by decide +kernel) (by decide +kernel)
theorem fl_K_9 : Cond.fieldLink R_K 9 "StateBench$Links" "portCosts" "[I" ∈ gW := gW_in 58 (by decide +kernel) (by decide +kernel)
theorem fl_K_15 : Cond.fieldLink R_K 15 "StateBench$Links" "friendSteps" "[I" ∈ gW := gW_in 59 (by decide +kernel) (by decide +kernel)
theorem fl_K_22 : Cond.fieldLink R_K 22 "StateBench$Links" "portCount" "I" ∈ gW := gW_in 60 (by decide +kernel) (by decide +kernel)
theorem fl_K_30 : Cond.fieldLink R_K 30 "StateBench$Links" "friendCount" "I" ∈ gW := gW_in 61 (by decide +kernel) (by decide +kernel)
theorem ac_int : Cond.arrayClass .int ∈ gW := gW_in 71 (by decide +kernel) (by decide +kernel)
theorem cl_B_24 : Cond.classLink R_B 24 R_A ∈ gW := gW_in 72 (by decide +kernel) (by decide +kernel)
theorem it_A : Cond.instantiable R_A 6 ∈ gW := gW_in 73 (by decide +kernel) (by decide +kernel)
theorem ml_B_26 : Cond.methodLink R_B 26 y_A_init ∈ gW := gW_in 74 (by decide +kernel) (by decide +kernel)
theorem im_A_init : Cond.instanceMethod y_A_init ∈ gW := gW_in 75 (by decide +kernel) (by decide +kernel)
theorem co_A_init : Cond.code y_A_init c_A_init 1 none ∈ gW := gW_in 76 (by decide +kernel) (by decide +kernel)
theorem ml_A_3 : Cond.methodLink R_A 3 objectInit ∈ gW := gW_in 77 (by decide +kernel) (by decide +kernel)
theorem ml_A_30 : Cond.methodLink R_A 30 y_F_fill ∈ gW := gW_in 78 (by decide +kernel) (by decide +kernel)
theorem st_F_fill : Cond.static y_F_fill ∈ gW := gW_in 79 (by decide +kernel) (by decide +kernel)
theorem co_F_fill : Cond.code y_F_fill c_F_fill 4 none ∈ gW := gW_in 80 (by decide +kernel) (by decide +kernel)
theorem fl_A_9 : Cond.fieldLink R_A 9 "StateBench$Adverts" "numbers" "[I" ∈ gW := gW_in 81 (by decide +kernel) (by decide +kernel)
theorem fl_A_15 : Cond.fieldLink R_A 15 "StateBench$Adverts" "takenAt" "[I" ∈ gW := gW_in 83 (by decide +kernel) (by decide +kernel)
theorem fl_A_18 : Cond.fieldLink R_A 18 "StateBench$Adverts" "sizes" "[I" ∈ gW := gW_in 85 (by decide +kernel) (by decide +kernel)
theorem fl_A_21 : Cond.fieldLink R_A 21 "StateBench$Adverts" "routers" "[I" ∈ gW := gW_in 88 (by decide +kernel) (by decide +kernel)
theorem fl_A_24 : Cond.fieldLink R_A 24 "StateBench$Adverts" "nets" "[I" ∈ gW := gW_in 91 (by decide +kernel) (by decide +kernel)
theorem fl_A_27 : Cond.fieldLink R_A 27 "StateBench$Adverts" "costs" "[I" ∈ gW := gW_in 94 (by decide +kernel) (by decide +kernel)
theorem cl_B_31 : Cond.classLink R_B 31 R_Y ∈ gW := gW_in 110 (by decide +kernel) (by decide +kernel)
theorem it_Y : Cond.instantiable R_Y 6 ∈ gW := gW_in 111 (by decide +kernel) (by decide +kernel)
theorem ml_B_33 : Cond.methodLink R_B 33 y_Y_init ∈ gW := gW_in 112 (by decide +kernel) (by decide +kernel)
theorem im_Y_init : Cond.instanceMethod y_Y_init ∈ gW := gW_in 113 (by decide +kernel) (by decide +kernel)
theorem co_Y_init : Cond.code y_Y_init c_Y_init 3 none ∈ gW := gW_in 114 (by decide +kernel) (by decide +kernel)
theorem ml_Y_3 : Cond.methodLink R_Y 3 objectInit ∈ gW := gW_in 115 (by decide +kernel) (by decide +kernel)
theorem fl_Y_22 : Cond.fieldLink R_Y 22 "StateBench$Ways" "adverts" "LStateBench$Adverts;" ∈ gW := gW_in 116 (by decide +kernel) (by decide +kernel)
theorem fl_Y_26 : Cond.fieldLink R_Y 26 "StateBench$Ways" "self" "I" ∈ gW := gW_in 117 (by decide +kernel) (by decide +kernel)
theorem fl_Y_9 : Cond.fieldLink R_Y 9 "StateBench$Ways" "sums" "[I" ∈ gW := gW_in 118 (by decide +kernel) (by decide +kernel)
theorem fl_Y_15 : Cond.fieldLink R_Y 15 "StateBench$Ways" "starts" "[I" ∈ gW := gW_in 120 (by decide +kernel) (by decide +kernel)
theorem fl_Y_18 : Cond.fieldLink R_Y 18 "StateBench$Ways" "settled" "[Z" ∈ gW := gW_in 121 (by decide +kernel) (by decide +kernel)
theorem fl_Y_30 : Cond.fieldLink R_Y 30 "StateBench$Ways" "fresh" "Z" ∈ gW := gW_in 122 (by decide +kernel) (by decide +kernel)
theorem ac_boolean : Cond.arrayClass .boolean ∈ gW := gW_in 136 (by decide +kernel) (by decide +kernel)
theorem fl_B_13 : Cond.fieldLink R_B 13 "StateBench" "self" "I" ∈ gW := gW_in 137 (by decide +kernel) (by decide +kernel)
theorem fl_B_20 : Cond.fieldLink R_B 20 "StateBench" "links" "LStateBench$Links;" ∈ gW := gW_in 138 (by decide +kernel) (by decide +kernel)
theorem fl_B_27 : Cond.fieldLink R_B 27 "StateBench" "adverts" "LStateBench$Adverts;" ∈ gW := gW_in 139 (by decide +kernel) (by decide +kernel)
theorem fl_B_36 : Cond.fieldLink R_B 36 "StateBench" "ways" "LStateBench$Ways;" ∈ gW := gW_in 140 (by decide +kernel) (by decide +kernel)
theorem fl_B_40 : Cond.fieldLink R_B 40 "StateBench" "draftOrigin" "I" ∈ gW := gW_in 141 (by decide +kernel) (by decide +kernel)
theorem fl_B_100 : Cond.fieldLink R_B 100 "StateBench" "draftNumber" "I" ∈ gW := gW_in 142 (by decide +kernel) (by decide +kernel)
theorem fl_B_138 : Cond.fieldLink R_B 138 "StateBench" "now" "I" ∈ gW := gW_in 143 (by decide +kernel) (by decide +kernel)
theorem fl_B_43 : Cond.fieldLink R_B 43 "StateBench" "lastMade" "I" ∈ gW := gW_in 144 (by decide +kernel) (by decide +kernel)
theorem fl_B_151 : Cond.fieldLink R_B 151 "StateBench" "greatestOwn" "I" ∈ gW := gW_in 145 (by decide +kernel) (by decide +kernel)
theorem ml_L_102 : Cond.methodLink R_L 102 y_B_make ∈ gW := gW_in 165 (by decide +kernel) (by decide +kernel)
theorem im_B_make : Cond.instanceMethod y_B_make ∈ gW := gW_in 166 (by decide +kernel) (by decide +kernel)
theorem se_B_make : Cond.selects R_B y_B_make y_B_make ∈ gW := gW_in 167 (by decide +kernel) (by decide +kernel)
theorem co_B_make : Cond.code y_B_make c_B_make 1 (some .int) ∈ gW := gW_in 168 (by decide +kernel) (by decide +kernel)
theorem ml_B_148 : Cond.methodLink R_B 148 y_B_mustMake ∈ gW := gW_in 169 (by decide +kernel) (by decide +kernel)
theorem im_B_mustMake : Cond.instanceMethod y_B_mustMake ∈ gW := gW_in 171 (by decide +kernel) (by decide +kernel)
theorem co_B_mustMake : Cond.code y_B_mustMake c_B_mustMake 1 (some .boolean) ∈ gW := gW_in 172 (by decide +kernel) (by decide +kernel)
theorem ml_B_186 : Cond.methodLink R_B 186 y_A_isThere ∈ gW := gW_in 173 (by decide +kernel) (by decide +kernel)
theorem im_A_isThere : Cond.instanceMethod y_A_isThere ∈ gW := gW_in 174 (by decide +kernel) (by decide +kernel)
theorem se_A_isThere : Cond.selects R_A y_A_isThere y_A_isThere ∈ gW := gW_in 175 (by decide +kernel) (by decide +kernel)
theorem co_A_isThere : Cond.code y_A_isThere c_A_isThere 2 (some .boolean) ∈ gW := gW_in 176 (by decide +kernel) (by decide +kernel)
theorem ml_B_189 : Cond.methodLink R_B 189 y_B_ageOf ∈ gW := gW_in 177 (by decide +kernel) (by decide +kernel)
theorem im_B_ageOf : Cond.instanceMethod y_B_ageOf ∈ gW := gW_in 179 (by decide +kernel) (by decide +kernel)
theorem co_B_ageOf : Cond.code y_B_ageOf c_B_ageOf 2 (some .int) ∈ gW := gW_in 180 (by decide +kernel) (by decide +kernel)
theorem ml_B_154 : Cond.methodLink R_B 154 y_K_tellInto ∈ gW := gW_in 181 (by decide +kernel) (by decide +kernel)
theorem im_K_tellInto : Cond.instanceMethod y_K_tellInto ∈ gW := gW_in 182 (by decide +kernel) (by decide +kernel)
theorem se_K_tellInto : Cond.selects R_K y_K_tellInto y_K_tellInto ∈ gW := gW_in 183 (by decide +kernel) (by decide +kernel)
theorem co_K_tellInto : Cond.code y_K_tellInto c_K_tellInto 5 none ∈ gW := gW_in 184 (by decide +kernel) (by decide +kernel)
theorem ml_K_41 : Cond.methodLink R_K 41 y_A_clear ∈ gW := gW_in 185 (by decide +kernel) (by decide +kernel)
theorem im_A_clear : Cond.instanceMethod y_A_clear ∈ gW := gW_in 186 (by decide +kernel) (by decide +kernel)
theorem se_A_clear : Cond.selects R_A y_A_clear y_A_clear ∈ gW := gW_in 187 (by decide +kernel) (by decide +kernel)
theorem co_A_clear : Cond.code y_A_clear c_A_clear 2 none ∈ gW := gW_in 188 (by decide +kernel) (by decide +kernel)
theorem ml_K_18 : Cond.methodLink R_K 18 y_K_hasPort ∈ gW := gW_in 189 (by decide +kernel) (by decide +kernel)
theorem im_K_hasPort : Cond.instanceMethod y_K_hasPort ∈ gW := gW_in 190 (by decide +kernel) (by decide +kernel)
theorem se_K_hasPort : Cond.selects R_K y_K_hasPort y_K_hasPort ∈ gW := gW_in 191 (by decide +kernel) (by decide +kernel)
theorem co_K_hasPort : Cond.code y_K_hasPort c_K_hasPort 2 (some .boolean) ∈ gW := gW_in 192 (by decide +kernel) (by decide +kernel)
theorem ml_K_46 : Cond.methodLink R_K 46 y_A_append ∈ gW := gW_in 193 (by decide +kernel) (by decide +kernel)
theorem im_A_append : Cond.instanceMethod y_A_append ∈ gW := gW_in 194 (by decide +kernel) (by decide +kernel)
theorem se_A_append : Cond.selects R_A y_A_append y_A_append ∈ gW := gW_in 195 (by decide +kernel) (by decide +kernel)
theorem co_A_append : Cond.code y_A_append c_A_append 6 none ∈ gW := gW_in 196 (by decide +kernel) (by decide +kernel)
theorem ml_A_36 : Cond.methodLink R_A 36 y_A_hasRoom ∈ gW := gW_in 197 (by decide +kernel) (by decide +kernel)
theorem im_A_hasRoom : Cond.instanceMethod y_A_hasRoom ∈ gW := gW_in 198 (by decide +kernel) (by decide +kernel)
theorem se_A_hasRoom : Cond.selects R_A y_A_hasRoom y_A_hasRoom ∈ gW := gW_in 199 (by decide +kernel) (by decide +kernel)
theorem co_A_hasRoom : Cond.code y_A_hasRoom c_A_hasRoom 2 (some .boolean) ∈ gW := gW_in 200 (by decide +kernel) (by decide +kernel)
theorem ml_A_40 : Cond.methodLink R_A 40 y_A_indexOf ∈ gW := gW_in 201 (by decide +kernel) (by decide +kernel)
theorem st_A_indexOf : Cond.static y_A_indexOf ∈ gW := gW_in 202 (by decide +kernel) (by decide +kernel)
theorem co_A_indexOf : Cond.code y_A_indexOf c_A_indexOf 2 (some .int) ∈ gW := gW_in 203 (by decide +kernel) (by decide +kernel)
theorem ml_B_227 : Cond.methodLink R_B 227 y_A_haveSameEntries ∈ gW := gW_in 204 (by decide +kernel) (by decide +kernel)
theorem im_A_haveSameEntries : Cond.instanceMethod y_A_haveSameEntries ∈ gW := gW_in 205 (by decide +kernel) (by decide +kernel)
theorem se_A_haveSameEntries : Cond.selects R_A y_A_haveSameEntries y_A_haveSameEntries ∈ gW := gW_in 206 (by decide +kernel) (by decide +kernel)
theorem co_A_haveSameEntries : Cond.code y_A_haveSameEntries c_A_haveSameEntries 4 (some .boolean) ∈ gW := gW_in 207 (by decide +kernel) (by decide +kernel)
theorem ml_A_54 : Cond.methodLink R_A 54 y_A_isSameEntry ∈ gW := gW_in 208 (by decide +kernel) (by decide +kernel)
theorem im_A_isSameEntry : Cond.instanceMethod y_A_isSameEntry ∈ gW := gW_in 210 (by decide +kernel) (by decide +kernel)
theorem co_A_isSameEntry : Cond.code y_A_isSameEntry c_A_isSameEntry 3 (some .boolean) ∈ gW := gW_in 211 (by decide +kernel) (by decide +kernel)
theorem ml_B_157 : Cond.methodLink R_B 157 y_B_takeIn ∈ gW := gW_in 212 (by decide +kernel) (by decide +kernel)
theorem im_B_takeIn : Cond.instanceMethod y_B_takeIn ∈ gW := gW_in 214 (by decide +kernel) (by decide +kernel)
theorem co_B_takeIn : Cond.code y_B_takeIn c_B_takeIn 4 none ∈ gW := gW_in 215 (by decide +kernel) (by decide +kernel)
theorem ml_B_217 : Cond.methodLink R_B 217 y_A_copyEntries ∈ gW := gW_in 216 (by decide +kernel) (by decide +kernel)
theorem im_A_copyEntries : Cond.instanceMethod y_A_copyEntries ∈ gW := gW_in 217 (by decide +kernel) (by decide +kernel)
theorem se_A_copyEntries : Cond.selects R_A y_A_copyEntries y_A_copyEntries ∈ gW := gW_in 218 (by decide +kernel) (by decide +kernel)
theorem co_A_copyEntries : Cond.code y_A_copyEntries c_A_copyEntries 4 none ∈ gW := gW_in 219 (by decide +kernel) (by decide +kernel)
theorem ml_A_48 : Cond.methodLink R_A 48 arraycopyName ∈ gW := gW_in 220 (by decide +kernel) (by decide +kernel)
theorem st_arraycopyName : Cond.static arraycopyName ∈ gW := gW_in 221 (by decide +kernel) (by decide +kernel)
theorem na_arraycopyName : Cond.native arraycopyName ∈ gW := gW_in 222 (by decide +kernel) (by decide +kernel)
theorem ml_B_224 : Cond.methodLink R_B 224 y_Y_forget ∈ gW := gW_in 223 (by decide +kernel) (by decide +kernel)
theorem im_Y_forget : Cond.instanceMethod y_Y_forget ∈ gW := gW_in 224 (by decide +kernel) (by decide +kernel)
theorem se_Y_forget : Cond.selects R_Y y_Y_forget y_Y_forget ∈ gW := gW_in 225 (by decide +kernel) (by decide +kernel)
theorem co_Y_forget : Cond.code y_Y_forget c_Y_forget 1 none ∈ gW := gW_in 226 (by decide +kernel) (by decide +kernel)
theorem ml_L_130 : Cond.methodLink R_L 130 y_B_known ∈ gW := gW_in 227 (by decide +kernel) (by decide +kernel)
theorem im_B_known : Cond.instanceMethod y_B_known ∈ gW := gW_in 228 (by decide +kernel) (by decide +kernel)
theorem se_B_known : Cond.selects R_B y_B_known y_B_known ∈ gW := gW_in 229 (by decide +kernel) (by decide +kernel)
theorem co_B_known : Cond.code y_B_known c_B_known 3 (some .int) ∈ gW := gW_in 230 (by decide +kernel) (by decide +kernel)
theorem ml_L_134 : Cond.methodLink R_L 134 y_B_time ∈ gW := gW_in 231 (by decide +kernel) (by decide +kernel)
theorem im_B_time : Cond.instanceMethod y_B_time ∈ gW := gW_in 232 (by decide +kernel) (by decide +kernel)
theorem se_B_time : Cond.selects R_B y_B_time y_B_time ∈ gW := gW_in 233 (by decide +kernel) (by decide +kernel)
theorem co_B_time : Cond.code y_B_time c_B_time 1 (some .int) ∈ gW := gW_in 234 (by decide +kernel) (by decide +kernel)
theorem ml_L_63 : Cond.methodLink R_L 63 y_L_cell ∈ gW := gW_in 235 (by decide +kernel) (by decide +kernel)
theorem st_L_cell : Cond.static y_L_cell ∈ gW := gW_in 236 (by decide +kernel) (by decide +kernel)
theorem co_L_cell : Cond.code y_L_cell c_L_cell 2 (some .int) ∈ gW := gW_in 237 (by decide +kernel) (by decide +kernel)
theorem ml_L_75 : Cond.methodLink R_L 75 y_L_port ∈ gW := gW_in 238 (by decide +kernel) (by decide +kernel)
theorem st_L_port : Cond.static y_L_port ∈ gW := gW_in 239 (by decide +kernel) (by decide +kernel)
theorem co_L_port : Cond.codeWith y_L_port c_L_port 5 (some .int) [(0, 10, 13, 13), (0, 10, 17, 15)] ∈ gW := gW_in 240 (by decide +kernel) (by decide +kernel)
theorem cl_L_13 : Cond.classLink R_L 13 "java/lang/IllegalArgumentException" ∈ gW := gW_in 241 (by decide +kernel) (by decide +kernel)
theorem cl_L_15 : Cond.classLink R_L 15 "java/lang/IllegalStateException" ∈ gW := gW_in 242 (by decide +kernel) (by decide +kernel)
theorem ml_L_7 : Cond.methodLink R_L 7 y_B_port ∈ gW := gW_in 243 (by decide +kernel) (by decide +kernel)
theorem im_B_port : Cond.instanceMethod y_B_port ∈ gW := gW_in 244 (by decide +kernel) (by decide +kernel)
theorem se_B_port : Cond.selects R_B y_B_port y_B_port ∈ gW := gW_in 245 (by decide +kernel) (by decide +kernel)
theorem co_B_port : Cond.code y_B_port c_B_port 3 (some .int) ∈ gW := gW_in 246 (by decide +kernel) (by decide +kernel)
theorem ml_B_46 : Cond.methodLink R_B 46 y_B_isNet ∈ gW := gW_in 247 (by decide +kernel) (by decide +kernel)
theorem st_B_isNet : Cond.static y_B_isNet ∈ gW := gW_in 248 (by decide +kernel) (by decide +kernel)
theorem co_B_isNet : Cond.code y_B_isNet c_B_isNet 1 (some .boolean) ∈ gW := gW_in 249 (by decide +kernel) (by decide +kernel)
theorem ml_B_49 : Cond.methodLink R_B 49 y_B_isCost ∈ gW := gW_in 250 (by decide +kernel) (by decide +kernel)
theorem st_B_isCost : Cond.static y_B_isCost ∈ gW := gW_in 251 (by decide +kernel) (by decide +kernel)
theorem co_B_isCost : Cond.code y_B_isCost c_B_isCost 1 (some .boolean) ∈ gW := gW_in 252 (by decide +kernel) (by decide +kernel)
theorem cl_B_52 : Cond.classLink R_B 52 "java/lang/IllegalArgumentException" ∈ gW := gW_in 253 (by decide +kernel) (by decide +kernel)
theorem ml_B_59 : Cond.methodLink R_B 59 y_K_hasRoomForPort ∈ gW := gW_in 321 (by decide +kernel) (by decide +kernel)
theorem im_K_hasRoomForPort : Cond.instanceMethod y_K_hasRoomForPort ∈ gW := gW_in 322 (by decide +kernel) (by decide +kernel)
theorem se_K_hasRoomForPort : Cond.selects R_K y_K_hasRoomForPort y_K_hasRoomForPort ∈ gW := gW_in 323 (by decide +kernel) (by decide +kernel)
theorem co_K_hasRoomForPort : Cond.code y_K_hasRoomForPort c_K_hasRoomForPort 2 (some .boolean) ∈ gW := gW_in 324 (by decide +kernel) (by decide +kernel)
theorem cl_B_62 : Cond.classLink R_B 62 "java/lang/IllegalStateException" ∈ gW := gW_in 325 (by decide +kernel) (by decide +kernel)
theorem ml_B_67 : Cond.methodLink R_B 67 y_K_setPort ∈ gW := gW_in 341 (by decide +kernel) (by decide +kernel)
theorem im_K_setPort : Cond.instanceMethod y_K_setPort ∈ gW := gW_in 342 (by decide +kernel) (by decide +kernel)
theorem se_K_setPort : Cond.selects R_K y_K_setPort y_K_setPort ∈ gW := gW_in 343 (by decide +kernel) (by decide +kernel)
theorem co_K_setPort : Cond.code y_K_setPort c_K_setPort 4 (some .int) ∈ gW := gW_in 344 (by decide +kernel) (by decide +kernel)
theorem ml_K_26 : Cond.methodLink R_K 26 y_K_removeFriendsOn ∈ gW := gW_in 345 (by decide +kernel) (by decide +kernel)
theorem im_K_removeFriendsOn : Cond.instanceMethod y_K_removeFriendsOn ∈ gW := gW_in 347 (by decide +kernel) (by decide +kernel)
theorem co_K_removeFriendsOn : Cond.code y_K_removeFriendsOn c_K_removeFriendsOn 2 none ∈ gW := gW_in 348 (by decide +kernel) (by decide +kernel)
theorem st_B_stepOf : Cond.static y_B_stepOf ∈ gW := gW_in 350 (by decide +kernel) (by decide +kernel)
theorem co_B_stepOf : Cond.code y_B_stepOf c_B_stepOf 2 (some .int) ∈ gW := gW_in 351 (by decide +kernel) (by decide +kernel)
theorem ml_K_33 : Cond.methodLink R_K 33 y_K_removeFriendsFrom ∈ gW := gW_in 352 (by decide +kernel) (by decide +kernel)
theorem im_K_removeFriendsFrom : Cond.instanceMethod y_K_removeFriendsFrom ∈ gW := gW_in 354 (by decide +kernel) (by decide +kernel)
theorem co_K_removeFriendsFrom : Cond.code y_K_removeFriendsFrom c_K_removeFriendsFrom 6 none ∈ gW := gW_in 355 (by decide +kernel) (by decide +kernel)
theorem ml_L_82 : Cond.methodLink R_L 82 y_L_friend ∈ gW := gW_in 356 (by decide +kernel) (by decide +kernel)
theorem st_L_friend : Cond.static y_L_friend ∈ gW := gW_in 357 (by decide +kernel) (by decide +kernel)
theorem co_L_friend : Cond.codeWith y_L_friend c_L_friend 6 (some .int) [(0, 19, 22, 13), (0, 19, 26, 15)] ∈ gW := gW_in 358 (by decide +kernel) (by decide +kernel)
theorem ml_L_17 : Cond.methodLink R_L 17 y_B_friend ∈ gW := gW_in 359 (by decide +kernel) (by decide +kernel)
theorem im_B_friend : Cond.instanceMethod y_B_friend ∈ gW := gW_in 360 (by decide +kernel) (by decide +kernel)
theorem se_B_friend : Cond.selects R_B y_B_friend y_B_friend ∈ gW := gW_in 361 (by decide +kernel) (by decide +kernel)
theorem co_B_friend : Cond.code y_B_friend c_B_friend 5 (some .boolean) ∈ gW := gW_in 362 (by decide +kernel) (by decide +kernel)
theorem ml_B_73 : Cond.methodLink R_B 73 y_K_hasPort ∈ gW := gW_in 364 (by decide +kernel) (by decide +kernel)
theorem ml_B_78 : Cond.methodLink R_B 78 y_B_stepOf ∈ gW := gW_in 366 (by decide +kernel) (by decide +kernel)
theorem ml_B_81 : Cond.methodLink R_B 81 y_K_hasFriend ∈ gW := gW_in 367 (by decide +kernel) (by decide +kernel)
theorem im_K_hasFriend : Cond.instanceMethod y_K_hasFriend ∈ gW := gW_in 368 (by decide +kernel) (by decide +kernel)
theorem se_K_hasFriend : Cond.selects R_K y_K_hasFriend y_K_hasFriend ∈ gW := gW_in 369 (by decide +kernel) (by decide +kernel)
theorem co_K_hasFriend : Cond.code y_K_hasFriend c_K_hasFriend 3 (some .boolean) ∈ gW := gW_in 370 (by decide +kernel) (by decide +kernel)
theorem ml_B_84 : Cond.methodLink R_B 84 y_K_removeFriend ∈ gW := gW_in 371 (by decide +kernel) (by decide +kernel)
theorem im_K_removeFriend : Cond.instanceMethod y_K_removeFriend ∈ gW := gW_in 372 (by decide +kernel) (by decide +kernel)
theorem se_K_removeFriend : Cond.selects R_K y_K_removeFriend y_K_removeFriend ∈ gW := gW_in 373 (by decide +kernel) (by decide +kernel)
theorem co_K_removeFriend : Cond.code y_K_removeFriend c_K_removeFriend 2 none ∈ gW := gW_in 374 (by decide +kernel) (by decide +kernel)
theorem ml_B_88 : Cond.methodLink R_B 88 y_K_hasRoomForFriend ∈ gW := gW_in 375 (by decide +kernel) (by decide +kernel)
theorem im_K_hasRoomForFriend : Cond.instanceMethod y_K_hasRoomForFriend ∈ gW := gW_in 376 (by decide +kernel) (by decide +kernel)
theorem se_K_hasRoomForFriend : Cond.selects R_K y_K_hasRoomForFriend y_K_hasRoomForFriend ∈ gW := gW_in 377 (by decide +kernel) (by decide +kernel)
theorem co_K_hasRoomForFriend : Cond.code y_K_hasRoomForFriend c_K_hasRoomForFriend 1 (some .boolean) ∈ gW := gW_in 378 (by decide +kernel) (by decide +kernel)
theorem ml_B_94 : Cond.methodLink R_B 94 y_K_addFriend ∈ gW := gW_in 380 (by decide +kernel) (by decide +kernel)
theorem im_K_addFriend : Cond.instanceMethod y_K_addFriend ∈ gW := gW_in 381 (by decide +kernel) (by decide +kernel)
theorem se_K_addFriend : Cond.selects R_K y_K_addFriend y_K_addFriend ∈ gW := gW_in 382 (by decide +kernel) (by decide +kernel)
theorem co_K_addFriend : Cond.code y_K_addFriend c_K_addFriend 3 none ∈ gW := gW_in 383 (by decide +kernel) (by decide +kernel)
theorem ml_L_86 : Cond.methodLink R_L 86 y_L_begin ∈ gW := gW_in 384 (by decide +kernel) (by decide +kernel)
theorem st_L_begin : Cond.static y_L_begin ∈ gW := gW_in 385 (by decide +kernel) (by decide +kernel)
theorem co_L_begin : Cond.codeWith y_L_begin c_L_begin 4 (some .int) [(0, 6, 9, 13)] ∈ gW := gW_in 386 (by decide +kernel) (by decide +kernel)
theorem ml_L_21 : Cond.methodLink R_L 21 y_B_begin ∈ gW := gW_in 387 (by decide +kernel) (by decide +kernel)
theorem im_B_begin : Cond.instanceMethod y_B_begin ∈ gW := gW_in 388 (by decide +kernel) (by decide +kernel)
theorem se_B_begin : Cond.selects R_B y_B_begin y_B_begin ∈ gW := gW_in 389 (by decide +kernel) (by decide +kernel)
theorem co_B_begin : Cond.code y_B_begin c_B_begin 3 none ∈ gW := gW_in 390 (by decide +kernel) (by decide +kernel)
theorem cn_B_97 : Cond.constant R_B 97 1000000000 ∈ gW := gW_in 391 (by decide +kernel) (by decide +kernel)
theorem ml_B_103 : Cond.methodLink R_B 103 y_A_clear ∈ gW := gW_in 393 (by decide +kernel) (by decide +kernel)
theorem ml_L_90 : Cond.methodLink R_L 90 y_L_entry ∈ gW := gW_in 394 (by decide +kernel) (by decide +kernel)
theorem st_L_entry : Cond.static y_L_entry ∈ gW := gW_in 395 (by decide +kernel) (by decide +kernel)
theorem co_L_entry : Cond.codeWith y_L_entry c_L_entry 6 (some .int) [(0, 12, 15, 13), (0, 12, 19, 15)] ∈ gW := gW_in 396 (by decide +kernel) (by decide +kernel)
theorem ml_L_25 : Cond.methodLink R_L 25 y_B_entry ∈ gW := gW_in 397 (by decide +kernel) (by decide +kernel)
theorem im_B_entry : Cond.instanceMethod y_B_entry ∈ gW := gW_in 398 (by decide +kernel) (by decide +kernel)
theorem se_B_entry : Cond.selects R_B y_B_entry y_B_entry ∈ gW := gW_in 399 (by decide +kernel) (by decide +kernel)
theorem co_B_entry : Cond.code y_B_entry c_B_entry 4 (some .int) ∈ gW := gW_in 400 (by decide +kernel) (by decide +kernel)
theorem ml_B_110 : Cond.methodLink R_B 110 y_A_hasRoom ∈ gW := gW_in 403 (by decide +kernel) (by decide +kernel)
theorem ml_B_113 : Cond.methodLink R_B 113 y_A_has ∈ gW := gW_in 404 (by decide +kernel) (by decide +kernel)
theorem im_A_has : Cond.instanceMethod y_A_has ∈ gW := gW_in 405 (by decide +kernel) (by decide +kernel)
theorem se_A_has : Cond.selects R_A y_A_has y_A_has ∈ gW := gW_in 406 (by decide +kernel) (by decide +kernel)
theorem co_A_has : Cond.code y_A_has c_A_has 4 (some .boolean) ∈ gW := gW_in 407 (by decide +kernel) (by decide +kernel)
theorem ml_A_44 : Cond.methodLink R_A 44 y_A_costOf ∈ gW := gW_in 408 (by decide +kernel) (by decide +kernel)
theorem im_A_costOf : Cond.instanceMethod y_A_costOf ∈ gW := gW_in 409 (by decide +kernel) (by decide +kernel)
theorem se_A_costOf : Cond.selects R_A y_A_costOf y_A_costOf ∈ gW := gW_in 410 (by decide +kernel) (by decide +kernel)
theorem co_A_costOf : Cond.code y_A_costOf c_A_costOf 6 (some .int) ∈ gW := gW_in 411 (by decide +kernel) (by decide +kernel)
theorem ml_B_119 : Cond.methodLink R_B 119 y_A_append ∈ gW := gW_in 413 (by decide +kernel) (by decide +kernel)
theorem ml_L_94 : Cond.methodLink R_L 94 y_L_come ∈ gW := gW_in 414 (by decide +kernel) (by decide +kernel)
theorem st_L_come : Cond.static y_L_come ∈ gW := gW_in 415 (by decide +kernel) (by decide +kernel)
theorem co_L_come : Cond.codeWith y_L_come c_L_come 3 (some .int) [(0, 8, 11, 15)] ∈ gW := gW_in 416 (by decide +kernel) (by decide +kernel)
theorem ml_L_29 : Cond.methodLink R_L 29 y_B_come ∈ gW := gW_in 417 (by decide +kernel) (by decide +kernel)
theorem im_B_come : Cond.instanceMethod y_B_come ∈ gW := gW_in 418 (by decide +kernel) (by decide +kernel)
theorem se_B_come : Cond.selects R_B y_B_come y_B_come ∈ gW := gW_in 419 (by decide +kernel) (by decide +kernel)
theorem co_B_come : Cond.code y_B_come c_B_come 2 (some .int) ∈ gW := gW_in 420 (by decide +kernel) (by decide +kernel)
theorem ml_B_129 : Cond.methodLink R_B 129 y_B_hearOwn ∈ gW := gW_in 422 (by decide +kernel) (by decide +kernel)
theorem im_B_hearOwn : Cond.instanceMethod y_B_hearOwn ∈ gW := gW_in 424 (by decide +kernel) (by decide +kernel)
theorem co_B_hearOwn : Cond.code y_B_hearOwn c_B_hearOwn 2 (some .int) ∈ gW := gW_in 425 (by decide +kernel) (by decide +kernel)
theorem ml_B_133 : Cond.methodLink R_B 133 y_B_hearOther ∈ gW := gW_in 426 (by decide +kernel) (by decide +kernel)
theorem im_B_hearOther : Cond.instanceMethod y_B_hearOther ∈ gW := gW_in 428 (by decide +kernel) (by decide +kernel)
theorem co_B_hearOther : Cond.code y_B_hearOther c_B_hearOther 3 (some .int) ∈ gW := gW_in 429 (by decide +kernel) (by decide +kernel)
theorem ml_L_98 : Cond.methodLink R_L 98 y_L_pass ∈ gW := gW_in 430 (by decide +kernel) (by decide +kernel)
theorem st_L_pass : Cond.static y_L_pass ∈ gW := gW_in 431 (by decide +kernel) (by decide +kernel)
theorem co_L_pass : Cond.codeWith y_L_pass c_L_pass 4 (some .int) [(0, 9, 12, 13), (0, 9, 15, 15)] ∈ gW := gW_in 432 (by decide +kernel) (by decide +kernel)
theorem ml_L_33 : Cond.methodLink R_L 33 y_B_pass ∈ gW := gW_in 433 (by decide +kernel) (by decide +kernel)
theorem im_B_pass : Cond.instanceMethod y_B_pass ∈ gW := gW_in 434 (by decide +kernel) (by decide +kernel)
theorem se_B_pass : Cond.selects R_B y_B_pass y_B_pass ∈ gW := gW_in 435 (by decide +kernel) (by decide +kernel)
theorem co_B_pass : Cond.code y_B_pass c_B_pass 2 (some .int) ∈ gW := gW_in 436 (by decide +kernel) (by decide +kernel)
theorem cn_B_141 : Cond.constant R_B 141 1000000 ∈ gW := gW_in 438 (by decide +kernel) (by decide +kernel)
theorem ml_B_144 : Cond.methodLink R_B 144 y_B_takeOutOld ∈ gW := gW_in 440 (by decide +kernel) (by decide +kernel)
theorem im_B_takeOutOld : Cond.instanceMethod y_B_takeOutOld ∈ gW := gW_in 442 (by decide +kernel) (by decide +kernel)
theorem co_B_takeOutOld : Cond.code y_B_takeOutOld c_B_takeOutOld 3 (some .int) ∈ gW := gW_in 443 (by decide +kernel) (by decide +kernel)
theorem ml_L_106 : Cond.methodLink R_L 106 y_L_number ∈ gW := gW_in 444 (by decide +kernel) (by decide +kernel)
theorem st_L_number : Cond.static y_L_number ∈ gW := gW_in 445 (by decide +kernel) (by decide +kernel)
theorem co_L_number : Cond.codeWith y_L_number c_L_number 4 (some .int) [(0, 9, 12, 13)] ∈ gW := gW_in 446 (by decide +kernel) (by decide +kernel)
theorem ml_L_37 : Cond.methodLink R_L 37 y_B_number ∈ gW := gW_in 447 (by decide +kernel) (by decide +kernel)
theorem im_B_number : Cond.instanceMethod y_B_number ∈ gW := gW_in 448 (by decide +kernel) (by decide +kernel)
theorem se_B_number : Cond.selects R_B y_B_number y_B_number ∈ gW := gW_in 449 (by decide +kernel) (by decide +kernel)
theorem co_B_number : Cond.code y_B_number c_B_number 2 (some .int) ∈ gW := gW_in 450 (by decide +kernel) (by decide +kernel)
theorem ml_B_161 : Cond.methodLink R_B 161 y_B_refuseNoRouter ∈ gW := gW_in 451 (by decide +kernel) (by decide +kernel)
theorem st_B_refuseNoRouter : Cond.static y_B_refuseNoRouter ∈ gW := gW_in 452 (by decide +kernel) (by decide +kernel)
theorem co_B_refuseNoRouter : Cond.code y_B_refuseNoRouter c_B_refuseNoRouter 1 none ∈ gW := gW_in 453 (by decide +kernel) (by decide +kernel)
theorem ml_L_109 : Cond.methodLink R_L 109 y_L_told ∈ gW := gW_in 455 (by decide +kernel) (by decide +kernel)
theorem st_L_told : Cond.static y_L_told ∈ gW := gW_in 456 (by decide +kernel) (by decide +kernel)
theorem co_L_told : Cond.codeWith y_L_told c_L_told 6 (some .int) [(0, 12, 15, 13), (0, 12, 19, 43)] ∈ gW := gW_in 457 (by decide +kernel) (by decide +kernel)
theorem cl_L_43 : Cond.classLink R_L 43 "java/lang/IndexOutOfBoundsException" ∈ gW := gW_in 458 (by decide +kernel) (by decide +kernel)
theorem ml_L_40 : Cond.methodLink R_L 40 y_B_told ∈ gW := gW_in 459 (by decide +kernel) (by decide +kernel)
theorem im_B_told : Cond.instanceMethod y_B_told ∈ gW := gW_in 460 (by decide +kernel) (by decide +kernel)
theorem se_B_told : Cond.selects R_B y_B_told y_B_told ∈ gW := gW_in 461 (by decide +kernel) (by decide +kernel)
theorem co_B_told : Cond.code y_B_told c_B_told 5 (some .int) ∈ gW := gW_in 462 (by decide +kernel) (by decide +kernel)
theorem cl_B_169 : Cond.classLink R_B 169 "java/lang/IndexOutOfBoundsException" ∈ gW := gW_in 464 (by decide +kernel) (by decide +kernel)
theorem ml_B_174 : Cond.methodLink R_B 174 y_A_indexOf ∈ gW := gW_in 480 (by decide +kernel) (by decide +kernel)
theorem ml_L_112 : Cond.methodLink R_L 112 y_L_entries ∈ gW := gW_in 481 (by decide +kernel) (by decide +kernel)
theorem st_L_entries : Cond.static y_L_entries ∈ gW := gW_in 482 (by decide +kernel) (by decide +kernel)
theorem co_L_entries : Cond.codeWith y_L_entries c_L_entries 4 (some .int) [(0, 9, 12, 13)] ∈ gW := gW_in 483 (by decide +kernel) (by decide +kernel)
theorem ml_L_45 : Cond.methodLink R_L 45 y_B_entries ∈ gW := gW_in 484 (by decide +kernel) (by decide +kernel)
theorem im_B_entries : Cond.instanceMethod y_B_entries ∈ gW := gW_in 485 (by decide +kernel) (by decide +kernel)
theorem se_B_entries : Cond.selects R_B y_B_entries y_B_entries ∈ gW := gW_in 486 (by decide +kernel) (by decide +kernel)
theorem co_B_entries : Cond.code y_B_entries c_B_entries 2 (some .int) ∈ gW := gW_in 487 (by decide +kernel) (by decide +kernel)
theorem ml_L_115 : Cond.methodLink R_L 115 y_L_age ∈ gW := gW_in 488 (by decide +kernel) (by decide +kernel)
theorem st_L_age : Cond.static y_L_age ∈ gW := gW_in 489 (by decide +kernel) (by decide +kernel)
theorem co_L_age : Cond.codeWith y_L_age c_L_age 4 (some .int) [(0, 9, 12, 13)] ∈ gW := gW_in 490 (by decide +kernel) (by decide +kernel)
theorem ml_L_48 : Cond.methodLink R_L 48 y_B_age ∈ gW := gW_in 491 (by decide +kernel) (by decide +kernel)
theorem im_B_age : Cond.instanceMethod y_B_age ∈ gW := gW_in 492 (by decide +kernel) (by decide +kernel)
theorem se_B_age : Cond.selects R_B y_B_age y_B_age ∈ gW := gW_in 493 (by decide +kernel) (by decide +kernel)
theorem co_B_age : Cond.code y_B_age c_B_age 2 (some .int) ∈ gW := gW_in 494 (by decide +kernel) (by decide +kernel)
theorem ml_L_118 : Cond.methodLink R_L 118 y_L_distance ∈ gW := gW_in 495 (by decide +kernel) (by decide +kernel)
theorem st_L_distance : Cond.static y_L_distance ∈ gW := gW_in 496 (by decide +kernel) (by decide +kernel)
theorem co_L_distance : Cond.codeWith y_L_distance c_L_distance 4 (some .int) [(0, 9, 12, 13)] ∈ gW := gW_in 497 (by decide +kernel) (by decide +kernel)
theorem ml_L_51 : Cond.methodLink R_L 51 y_B_distance ∈ gW := gW_in 498 (by decide +kernel) (by decide +kernel)
theorem im_B_distance : Cond.instanceMethod y_B_distance ∈ gW := gW_in 499 (by decide +kernel) (by decide +kernel)
theorem se_B_distance : Cond.selects R_B y_B_distance y_B_distance ∈ gW := gW_in 500 (by decide +kernel) (by decide +kernel)
theorem co_B_distance : Cond.code y_B_distance c_B_distance 2 (some .int) ∈ gW := gW_in 501 (by decide +kernel) (by decide +kernel)
theorem ml_B_192 : Cond.methodLink R_B 192 y_Y_refresh ∈ gW := gW_in 502 (by decide +kernel) (by decide +kernel)
theorem im_Y_refresh : Cond.instanceMethod y_Y_refresh ∈ gW := gW_in 503 (by decide +kernel) (by decide +kernel)
theorem se_Y_refresh : Cond.selects R_Y y_Y_refresh y_Y_refresh ∈ gW := gW_in 504 (by decide +kernel) (by decide +kernel)
theorem co_Y_refresh : Cond.code y_Y_refresh c_Y_refresh 3 none ∈ gW := gW_in 505 (by decide +kernel) (by decide +kernel)
theorem ml_Y_34 : Cond.methodLink R_Y 34 y_Y_beginAnew ∈ gW := gW_in 506 (by decide +kernel) (by decide +kernel)
theorem im_Y_beginAnew : Cond.instanceMethod y_Y_beginAnew ∈ gW := gW_in 508 (by decide +kernel) (by decide +kernel)
theorem co_Y_beginAnew : Cond.code y_Y_beginAnew c_Y_beginAnew 2 none ∈ gW := gW_in 509 (by decide +kernel) (by decide +kernel)
theorem ml_Y_37 : Cond.methodLink R_Y 37 y_Y_nearestUnsettled ∈ gW := gW_in 510 (by decide +kernel) (by decide +kernel)
theorem im_Y_nearestUnsettled : Cond.instanceMethod y_Y_nearestUnsettled ∈ gW := gW_in 512 (by decide +kernel) (by decide +kernel)
theorem co_Y_nearestUnsettled : Cond.code y_Y_nearestUnsettled c_Y_nearestUnsettled 3 (some .int) ∈ gW := gW_in 513 (by decide +kernel) (by decide +kernel)
theorem ml_Y_41 : Cond.methodLink R_Y 41 y_Y_goOnFrom ∈ gW := gW_in 514 (by decide +kernel) (by decide +kernel)
theorem im_Y_goOnFrom : Cond.instanceMethod y_Y_goOnFrom ∈ gW := gW_in 516 (by decide +kernel) (by decide +kernel)
theorem co_Y_goOnFrom : Cond.code y_Y_goOnFrom c_Y_goOnFrom 6 none ∈ gW := gW_in 517 (by decide +kernel) (by decide +kernel)
theorem ml_Y_50 : Cond.methodLink R_Y 50 y_A_indexOf ∈ gW := gW_in 518 (by decide +kernel) (by decide +kernel)
theorem ml_Y_60 : Cond.methodLink R_Y 60 y_A_has ∈ gW := gW_in 519 (by decide +kernel) (by decide +kernel)
theorem ml_Y_67 : Cond.methodLink R_Y 67 y_Y_reach ∈ gW := gW_in 520 (by decide +kernel) (by decide +kernel)
theorem im_Y_reach : Cond.instanceMethod y_Y_reach ∈ gW := gW_in 522 (by decide +kernel) (by decide +kernel)
theorem co_Y_reach : Cond.code y_Y_reach c_Y_reach 4 none ∈ gW := gW_in 523 (by decide +kernel) (by decide +kernel)
theorem ml_L_121 : Cond.methodLink R_L 121 y_L_cost ∈ gW := gW_in 524 (by decide +kernel) (by decide +kernel)
theorem st_L_cost : Cond.static y_L_cost ∈ gW := gW_in 525 (by decide +kernel) (by decide +kernel)
theorem co_L_cost : Cond.codeWith y_L_cost c_L_cost 4 (some .int) [(0, 9, 12, 13)] ∈ gW := gW_in 526 (by decide +kernel) (by decide +kernel)
theorem ml_L_54 : Cond.methodLink R_L 54 y_B_cost ∈ gW := gW_in 527 (by decide +kernel) (by decide +kernel)
theorem im_B_cost : Cond.instanceMethod y_B_cost ∈ gW := gW_in 528 (by decide +kernel) (by decide +kernel)
theorem se_B_cost : Cond.selects R_B y_B_cost y_B_cost ∈ gW := gW_in 529 (by decide +kernel) (by decide +kernel)
theorem co_B_cost : Cond.code y_B_cost c_B_cost 2 (some .int) ∈ gW := gW_in 530 (by decide +kernel) (by decide +kernel)
theorem ml_B_198 : Cond.methodLink R_B 198 y_B_refuseNoNet ∈ gW := gW_in 531 (by decide +kernel) (by decide +kernel)
theorem st_B_refuseNoNet : Cond.static y_B_refuseNoNet ∈ gW := gW_in 532 (by decide +kernel) (by decide +kernel)
theorem co_B_refuseNoNet : Cond.code y_B_refuseNoNet c_B_refuseNoNet 1 none ∈ gW := gW_in 533 (by decide +kernel) (by decide +kernel)
theorem ml_B_201 : Cond.methodLink R_B 201 y_Y_leastTo ∈ gW := gW_in 535 (by decide +kernel) (by decide +kernel)
theorem im_Y_leastTo : Cond.instanceMethod y_Y_leastTo ∈ gW := gW_in 536 (by decide +kernel) (by decide +kernel)
theorem se_Y_leastTo : Cond.selects R_Y y_Y_leastTo y_Y_leastTo ∈ gW := gW_in 537 (by decide +kernel) (by decide +kernel)
theorem co_Y_leastTo : Cond.code y_Y_leastTo c_Y_leastTo 5 (some .int) ∈ gW := gW_in 538 (by decide +kernel) (by decide +kernel)
theorem ml_Y_71 : Cond.methodLink R_Y 71 y_Y_sumOver ∈ gW := gW_in 539 (by decide +kernel) (by decide +kernel)
theorem im_Y_sumOver : Cond.instanceMethod y_Y_sumOver ∈ gW := gW_in 541 (by decide +kernel) (by decide +kernel)
theorem co_Y_sumOver : Cond.code y_Y_sumOver c_Y_sumOver 4 (some .int) ∈ gW := gW_in 542 (by decide +kernel) (by decide +kernel)
theorem ml_Y_78 : Cond.methodLink R_Y 78 y_A_costOf ∈ gW := gW_in 543 (by decide +kernel) (by decide +kernel)
theorem ml_L_124 : Cond.methodLink R_L 124 y_L_firsts ∈ gW := gW_in 544 (by decide +kernel) (by decide +kernel)
theorem st_L_firsts : Cond.static y_L_firsts ∈ gW := gW_in 545 (by decide +kernel) (by decide +kernel)
theorem co_L_firsts : Cond.codeWith y_L_firsts c_L_firsts 4 (some .int) [(0, 9, 12, 13)] ∈ gW := gW_in 546 (by decide +kernel) (by decide +kernel)
theorem ml_L_57 : Cond.methodLink R_L 57 y_B_firsts ∈ gW := gW_in 547 (by decide +kernel) (by decide +kernel)
theorem im_B_firsts : Cond.instanceMethod y_B_firsts ∈ gW := gW_in 548 (by decide +kernel) (by decide +kernel)
theorem se_B_firsts : Cond.selects R_B y_B_firsts y_B_firsts ∈ gW := gW_in 549 (by decide +kernel) (by decide +kernel)
theorem co_B_firsts : Cond.code y_B_firsts c_B_firsts 2 (some .int) ∈ gW := gW_in 550 (by decide +kernel) (by decide +kernel)
theorem ml_B_204 : Cond.methodLink R_B 204 y_Y_startsTo ∈ gW := gW_in 551 (by decide +kernel) (by decide +kernel)
theorem im_Y_startsTo : Cond.instanceMethod y_Y_startsTo ∈ gW := gW_in 552 (by decide +kernel) (by decide +kernel)
theorem se_Y_startsTo : Cond.selects R_Y y_Y_startsTo y_Y_startsTo ∈ gW := gW_in 553 (by decide +kernel) (by decide +kernel)
theorem co_Y_startsTo : Cond.code y_Y_startsTo c_Y_startsTo 5 (some .int) ∈ gW := gW_in 554 (by decide +kernel) (by decide +kernel)
theorem ml_Y_74 : Cond.methodLink R_Y 74 y_Y_leastTo ∈ gW := gW_in 555 (by decide +kernel) (by decide +kernel)
theorem ml_B_207 : Cond.methodLink R_B 207 y_J_bitCount ∈ gW := gW_in 556 (by decide +kernel) (by decide +kernel)
theorem st_J_bitCount : Cond.static y_J_bitCount ∈ gW := gW_in 557 (by decide +kernel) (by decide +kernel)
theorem co_J_bitCount : Cond.code y_J_bitCount c_J_bitCount 1 (some .int) ∈ gW := gW_in 558 (by decide +kernel) (by decide +kernel)
theorem cn_J_265 : Cond.constant R_J 265 1431655765 ∈ gW := gW_in 559 (by decide +kernel) (by decide +kernel)
theorem cn_J_266 : Cond.constant R_J 266 858993459 ∈ gW := gW_in 560 (by decide +kernel) (by decide +kernel)
theorem cn_J_267 : Cond.constant R_J 267 252645135 ∈ gW := gW_in 561 (by decide +kernel) (by decide +kernel)
theorem ml_L_127 : Cond.methodLink R_L 127 y_L_first ∈ gW := gW_in 562 (by decide +kernel) (by decide +kernel)
theorem st_L_first : Cond.static y_L_first ∈ gW := gW_in 563 (by decide +kernel) (by decide +kernel)
theorem co_L_first : Cond.codeWith y_L_first c_L_first 5 (some .int) [(0, 10, 13, 13), (0, 10, 17, 43)] ∈ gW := gW_in 564 (by decide +kernel) (by decide +kernel)
theorem ml_L_60 : Cond.methodLink R_L 60 y_B_first ∈ gW := gW_in 565 (by decide +kernel) (by decide +kernel)
theorem im_B_first : Cond.instanceMethod y_B_first ∈ gW := gW_in 566 (by decide +kernel) (by decide +kernel)
theorem se_B_first : Cond.selects R_B y_B_first y_B_first ∈ gW := gW_in 567 (by decide +kernel) (by decide +kernel)
theorem co_B_first : Cond.code y_B_first c_B_first 5 (some .int) ∈ gW := gW_in 568 (by decide +kernel) (by decide +kernel)
theorem ml_B_214 : Cond.methodLink R_B 214 y_B_placeOfBit ∈ gW := gW_in 570 (by decide +kernel) (by decide +kernel)
theorem st_B_placeOfBit : Cond.static y_B_placeOfBit ∈ gW := gW_in 571 (by decide +kernel) (by decide +kernel)
theorem co_B_placeOfBit : Cond.code y_B_placeOfBit c_B_placeOfBit 4 (some .int) ∈ gW := gW_in 572 (by decide +kernel) (by decide +kernel)
theorem ml_B_235 : Cond.methodLink R_B 235 y_J_numberOfTrailingZeros ∈ gW := gW_in 573 (by decide +kernel) (by decide +kernel)
theorem st_J_numberOfTrailingZeros : Cond.static y_J_numberOfTrailingZeros ∈ gW := gW_in 574 (by decide +kernel) (by decide +kernel)
theorem co_J_numberOfTrailingZeros : Cond.code y_J_numberOfTrailingZeros c_J_numberOfTrailingZeros 2 (some .int) ∈ gW := gW_in 575 (by decide +kernel) (by decide +kernel)
theorem cn_J_264 : Cond.constant R_J 264 65536 ∈ gW := gW_in 576 (by decide +kernel) (by decide +kernel)
theorem cl_L_72 : Cond.classLink R_L 72 R_M ∈ gW := gW_in 577 (by decide +kernel) (by decide +kernel)
theorem it_M : Cond.instantiable R_M 16 ∈ gW := gW_in 578 (by decide +kernel) (by decide +kernel)
theorem ml_L_74 : Cond.methodLink R_L 74 y_M_init ∈ gW := gW_in 579 (by decide +kernel) (by decide +kernel)
theorem im_M_init : Cond.instanceMethod y_M_init ∈ gW := gW_in 580 (by decide +kernel) (by decide +kernel)
theorem co_M_init : Cond.code y_M_init c_M_init 2 none ∈ gW := gW_in 581 (by decide +kernel) (by decide +kernel)
theorem ml_M_1 : Cond.methodLink R_M 1 objectInit ∈ gW := gW_in 582 (by decide +kernel) (by decide +kernel)
theorem fl_M_45 : Cond.fieldLink R_M 45 "StateBenchModel" "itself" "I" ∈ gW := gW_in 583 (by decide +kernel) (by decide +kernel)
theorem fl_M_48 : Cond.fieldLink R_M 48 "StateBenchModel" "code" "I" ∈ gW := gW_in 584 (by decide +kernel) (by decide +kernel)
theorem fl_M_81 : Cond.fieldLink R_M 81 "StateBenchModel" "now" "I" ∈ gW := gW_in 585 (by decide +kernel) (by decide +kernel)
theorem fl_M_7 : Cond.fieldLink R_M 7 "StateBenchModel" "ports" "[I" ∈ gW := gW_in 586 (by decide +kernel) (by decide +kernel)
theorem fl_M_13 : Cond.fieldLink R_M 13 "StateBenchModel" "friends" "[Z" ∈ gW := gW_in 587 (by decide +kernel) (by decide +kernel)
theorem fl_M_74 : Cond.fieldLink R_M 74 "StateBenchModel" "greatest" "I" ∈ gW := gW_in 588 (by decide +kernel) (by decide +kernel)
theorem fl_M_17 : Cond.fieldLink R_M 17 "StateBenchModel" "made" "I" ∈ gW := gW_in 589 (by decide +kernel) (by decide +kernel)
theorem fl_M_21 : Cond.fieldLink R_M 21 "StateBenchModel" "number" "[I" ∈ gW := gW_in 590 (by decide +kernel) (by decide +kernel)
theorem fl_M_24 : Cond.fieldLink R_M 24 "StateBenchModel" "since" "[I" ∈ gW := gW_in 591 (by decide +kernel) (by decide +kernel)
theorem fl_M_27 : Cond.fieldLink R_M 27 "StateBenchModel" "count" "[I" ∈ gW := gW_in 592 (by decide +kernel) (by decide +kernel)
theorem fl_M_30 : Cond.fieldLink R_M 30 "StateBenchModel" "router" "[I" ∈ gW := gW_in 593 (by decide +kernel) (by decide +kernel)
theorem fl_M_33 : Cond.fieldLink R_M 33 "StateBenchModel" "net" "[I" ∈ gW := gW_in 594 (by decide +kernel) (by decide +kernel)
theorem fl_M_36 : Cond.fieldLink R_M 36 "StateBenchModel" "cost" "[I" ∈ gW := gW_in 595 (by decide +kernel) (by decide +kernel)
theorem fl_M_67 : Cond.fieldLink R_M 67 "StateBenchModel" "draftOrigin" "I" ∈ gW := gW_in 596 (by decide +kernel) (by decide +kernel)
theorem fl_M_39 : Cond.fieldLink R_M 39 "StateBenchModel" "usable" "[Z" ∈ gW := gW_in 597 (by decide +kernel) (by decide +kernel)
theorem fl_M_42 : Cond.fieldLink R_M 42 "StateBenchModel" "far" "[I" ∈ gW := gW_in 598 (by decide +kernel) (by decide +kernel)
theorem ml_L_79 : Cond.methodLink R_L 79 y_M_thrown ∈ gW := gW_in 632 (by decide +kernel) (by decide +kernel)
theorem im_M_thrown : Cond.instanceMethod y_M_thrown ∈ gW := gW_in 633 (by decide +kernel) (by decide +kernel)
theorem se_M_thrown : Cond.selects R_M y_M_thrown y_M_thrown ∈ gW := gW_in 634 (by decide +kernel) (by decide +kernel)
theorem co_M_thrown : Cond.code y_M_thrown c_M_thrown 1 (some .int) ∈ gW := gW_in 635 (by decide +kernel) (by decide +kernel)
theorem ml_L_78 : Cond.methodLink R_L 78 y_M_port ∈ gW := gW_in 636 (by decide +kernel) (by decide +kernel)
theorem im_M_port : Cond.instanceMethod y_M_port ∈ gW := gW_in 637 (by decide +kernel) (by decide +kernel)
theorem se_M_port : Cond.selects R_M y_M_port y_M_port ∈ gW := gW_in 638 (by decide +kernel) (by decide +kernel)
theorem co_M_port : Cond.code y_M_port c_M_port 5 (some .int) ∈ gW := gW_in 639 (by decide +kernel) (by decide +kernel)
theorem ml_M_51 : Cond.methodLink R_M 51 y_M_in ∈ gW := gW_in 640 (by decide +kernel) (by decide +kernel)
theorem st_M_in : Cond.static y_M_in ∈ gW := gW_in 641 (by decide +kernel) (by decide +kernel)
theorem co_M_in : Cond.code y_M_in c_M_in 3 (some .boolean) ∈ gW := gW_in 642 (by decide +kernel) (by decide +kernel)
theorem ml_M_55 : Cond.methodLink R_M 55 y_M_portCount ∈ gW := gW_in 643 (by decide +kernel) (by decide +kernel)
theorem im_M_portCount : Cond.instanceMethod y_M_portCount ∈ gW := gW_in 645 (by decide +kernel) (by decide +kernel)
theorem co_M_portCount : Cond.code y_M_portCount c_M_portCount 3 (some .int) ∈ gW := gW_in 646 (by decide +kernel) (by decide +kernel)
theorem ml_L_85 : Cond.methodLink R_L 85 y_M_friend ∈ gW := gW_in 647 (by decide +kernel) (by decide +kernel)
theorem im_M_friend : Cond.instanceMethod y_M_friend ∈ gW := gW_in 648 (by decide +kernel) (by decide +kernel)
theorem se_M_friend : Cond.selects R_M y_M_friend y_M_friend ∈ gW := gW_in 649 (by decide +kernel) (by decide +kernel)
theorem co_M_friend : Cond.code y_M_friend c_M_friend 5 (some .boolean) ∈ gW := gW_in 650 (by decide +kernel) (by decide +kernel)
theorem ml_M_59 : Cond.methodLink R_M 59 y_M_friendCount ∈ gW := gW_in 651 (by decide +kernel) (by decide +kernel)
theorem im_M_friendCount : Cond.instanceMethod y_M_friendCount ∈ gW := gW_in 653 (by decide +kernel) (by decide +kernel)
theorem co_M_friendCount : Cond.code y_M_friendCount c_M_friendCount 3 (some .int) ∈ gW := gW_in 654 (by decide +kernel) (by decide +kernel)
theorem ml_L_89 : Cond.methodLink R_L 89 y_M_begin ∈ gW := gW_in 655 (by decide +kernel) (by decide +kernel)
theorem im_M_begin : Cond.instanceMethod y_M_begin ∈ gW := gW_in 656 (by decide +kernel) (by decide +kernel)
theorem se_M_begin : Cond.selects R_M y_M_begin y_M_begin ∈ gW := gW_in 657 (by decide +kernel) (by decide +kernel)
theorem co_M_begin : Cond.code y_M_begin c_M_begin 3 none ∈ gW := gW_in 658 (by decide +kernel) (by decide +kernel)
theorem cn_M_66 : Cond.constant R_M 66 1000000000 ∈ gW := gW_in 659 (by decide +kernel) (by decide +kernel)
theorem ml_L_93 : Cond.methodLink R_L 93 y_M_entry ∈ gW := gW_in 660 (by decide +kernel) (by decide +kernel)
theorem im_M_entry : Cond.instanceMethod y_M_entry ∈ gW := gW_in 661 (by decide +kernel) (by decide +kernel)
theorem se_M_entry : Cond.selects R_M y_M_entry y_M_entry ∈ gW := gW_in 662 (by decide +kernel) (by decide +kernel)
theorem co_M_entry : Cond.code y_M_entry c_M_entry 5 (some .int) ∈ gW := gW_in 663 (by decide +kernel) (by decide +kernel)
theorem ml_M_70 : Cond.methodLink R_M 70 y_M_find ∈ gW := gW_in 664 (by decide +kernel) (by decide +kernel)
theorem im_M_find : Cond.instanceMethod y_M_find ∈ gW := gW_in 666 (by decide +kernel) (by decide +kernel)
theorem co_M_find : Cond.code y_M_find c_M_find 6 (some .int) ∈ gW := gW_in 667 (by decide +kernel) (by decide +kernel)
theorem ml_M_62 : Cond.methodLink R_M 62 y_M_add ∈ gW := gW_in 668 (by decide +kernel) (by decide +kernel)
theorem im_M_add : Cond.instanceMethod y_M_add ∈ gW := gW_in 670 (by decide +kernel) (by decide +kernel)
theorem co_M_add : Cond.code y_M_add c_M_add 6 none ∈ gW := gW_in 671 (by decide +kernel) (by decide +kernel)
theorem ml_L_97 : Cond.methodLink R_L 97 y_M_come ∈ gW := gW_in 672 (by decide +kernel) (by decide +kernel)
theorem im_M_come : Cond.instanceMethod y_M_come ∈ gW := gW_in 673 (by decide +kernel) (by decide +kernel)
theorem se_M_come : Cond.selects R_M y_M_come y_M_come ∈ gW := gW_in 674 (by decide +kernel) (by decide +kernel)
theorem co_M_come : Cond.code y_M_come c_M_come 4 (some .int) ∈ gW := gW_in 675 (by decide +kernel) (by decide +kernel)
theorem ml_M_77 : Cond.methodLink R_M 77 y_M_copy ∈ gW := gW_in 676 (by decide +kernel) (by decide +kernel)
theorem im_M_copy : Cond.instanceMethod y_M_copy ∈ gW := gW_in 678 (by decide +kernel) (by decide +kernel)
theorem co_M_copy : Cond.code y_M_copy c_M_copy 4 none ∈ gW := gW_in 679 (by decide +kernel) (by decide +kernel)
theorem ml_L_101 : Cond.methodLink R_L 101 y_M_pass ∈ gW := gW_in 680 (by decide +kernel) (by decide +kernel)
theorem im_M_pass : Cond.instanceMethod y_M_pass ∈ gW := gW_in 681 (by decide +kernel) (by decide +kernel)
theorem se_M_pass : Cond.selects R_M y_M_pass y_M_pass ∈ gW := gW_in 682 (by decide +kernel) (by decide +kernel)
theorem co_M_pass : Cond.code y_M_pass c_M_pass 5 (some .int) ∈ gW := gW_in 683 (by decide +kernel) (by decide +kernel)
theorem cn_M_84 : Cond.constant R_M 84 1000000 ∈ gW := gW_in 684 (by decide +kernel) (by decide +kernel)
theorem ml_L_105 : Cond.methodLink R_L 105 y_M_make ∈ gW := gW_in 685 (by decide +kernel) (by decide +kernel)
theorem im_M_make : Cond.instanceMethod y_M_make ∈ gW := gW_in 686 (by decide +kernel) (by decide +kernel)
theorem se_M_make : Cond.selects R_M y_M_make y_M_make ∈ gW := gW_in 687 (by decide +kernel) (by decide +kernel)
theorem co_M_make : Cond.code y_M_make c_M_make 2 (some .int) ∈ gW := gW_in 688 (by decide +kernel) (by decide +kernel)
theorem ml_M_85 : Cond.methodLink R_M 85 y_M_tell ∈ gW := gW_in 689 (by decide +kernel) (by decide +kernel)
theorem im_M_tell : Cond.instanceMethod y_M_tell ∈ gW := gW_in 691 (by decide +kernel) (by decide +kernel)
theorem co_M_tell : Cond.code y_M_tell c_M_tell 2 none ∈ gW := gW_in 692 (by decide +kernel) (by decide +kernel)
theorem ml_M_88 : Cond.methodLink R_M 88 y_M_isToldNow ∈ gW := gW_in 693 (by decide +kernel) (by decide +kernel)
theorem im_M_isToldNow : Cond.instanceMethod y_M_isToldNow ∈ gW := gW_in 695 (by decide +kernel) (by decide +kernel)
theorem co_M_isToldNow : Cond.code y_M_isToldNow c_M_isToldNow 5 (some .boolean) ∈ gW := gW_in 696 (by decide +kernel) (by decide +kernel)
theorem ml_L_108 : Cond.methodLink R_L 108 y_M_number ∈ gW := gW_in 697 (by decide +kernel) (by decide +kernel)
theorem im_M_number : Cond.instanceMethod y_M_number ∈ gW := gW_in 698 (by decide +kernel) (by decide +kernel)
theorem se_M_number : Cond.selects R_M y_M_number y_M_number ∈ gW := gW_in 699 (by decide +kernel) (by decide +kernel)
theorem co_M_number : Cond.code y_M_number c_M_number 2 (some .int) ∈ gW := gW_in 700 (by decide +kernel) (by decide +kernel)
theorem ml_L_111 : Cond.methodLink R_L 111 y_M_told ∈ gW := gW_in 701 (by decide +kernel) (by decide +kernel)
theorem im_M_told : Cond.instanceMethod y_M_told ∈ gW := gW_in 702 (by decide +kernel) (by decide +kernel)
theorem se_M_told : Cond.selects R_M y_M_told y_M_told ∈ gW := gW_in 703 (by decide +kernel) (by decide +kernel)
theorem co_M_told : Cond.code y_M_told c_M_told 5 (some .int) ∈ gW := gW_in 704 (by decide +kernel) (by decide +kernel)
theorem ml_L_114 : Cond.methodLink R_L 114 y_M_entries ∈ gW := gW_in 705 (by decide +kernel) (by decide +kernel)
theorem im_M_entries : Cond.instanceMethod y_M_entries ∈ gW := gW_in 706 (by decide +kernel) (by decide +kernel)
theorem se_M_entries : Cond.selects R_M y_M_entries y_M_entries ∈ gW := gW_in 707 (by decide +kernel) (by decide +kernel)
theorem co_M_entries : Cond.code y_M_entries c_M_entries 2 (some .int) ∈ gW := gW_in 708 (by decide +kernel) (by decide +kernel)
theorem ml_L_117 : Cond.methodLink R_L 117 y_M_age ∈ gW := gW_in 709 (by decide +kernel) (by decide +kernel)
theorem im_M_age : Cond.instanceMethod y_M_age ∈ gW := gW_in 710 (by decide +kernel) (by decide +kernel)
theorem se_M_age : Cond.selects R_M y_M_age y_M_age ∈ gW := gW_in 711 (by decide +kernel) (by decide +kernel)
theorem co_M_age : Cond.code y_M_age c_M_age 2 (some .int) ∈ gW := gW_in 712 (by decide +kernel) (by decide +kernel)
theorem ml_L_120 : Cond.methodLink R_L 120 y_M_distance ∈ gW := gW_in 713 (by decide +kernel) (by decide +kernel)
theorem im_M_distance : Cond.instanceMethod y_M_distance ∈ gW := gW_in 714 (by decide +kernel) (by decide +kernel)
theorem se_M_distance : Cond.selects R_M y_M_distance y_M_distance ∈ gW := gW_in 715 (by decide +kernel) (by decide +kernel)
theorem co_M_distance : Cond.code y_M_distance c_M_distance 2 (some .int) ∈ gW := gW_in 716 (by decide +kernel) (by decide +kernel)
theorem ml_M_92 : Cond.methodLink R_M 92 y_M_check ∈ gW := gW_in 717 (by decide +kernel) (by decide +kernel)
theorem im_M_check : Cond.instanceMethod y_M_check ∈ gW := gW_in 719 (by decide +kernel) (by decide +kernel)
theorem co_M_check : Cond.code y_M_check c_M_check 3 none ∈ gW := gW_in 720 (by decide +kernel) (by decide +kernel)
theorem ml_M_95 : Cond.methodLink R_M 95 y_M_spread ∈ gW := gW_in 721 (by decide +kernel) (by decide +kernel)
theorem im_M_spread : Cond.instanceMethod y_M_spread ∈ gW := gW_in 723 (by decide +kernel) (by decide +kernel)
theorem co_M_spread : Cond.code y_M_spread c_M_spread 6 none ∈ gW := gW_in 724 (by decide +kernel) (by decide +kernel)
theorem ml_L_123 : Cond.methodLink R_L 123 y_M_cost ∈ gW := gW_in 725 (by decide +kernel) (by decide +kernel)
theorem im_M_cost : Cond.instanceMethod y_M_cost ∈ gW := gW_in 726 (by decide +kernel) (by decide +kernel)
theorem se_M_cost : Cond.selects R_M y_M_cost y_M_cost ∈ gW := gW_in 727 (by decide +kernel) (by decide +kernel)
theorem co_M_cost : Cond.code y_M_cost c_M_cost 2 (some .int) ∈ gW := gW_in 728 (by decide +kernel) (by decide +kernel)
theorem ml_M_99 : Cond.methodLink R_M 99 y_M_reach ∈ gW := gW_in 729 (by decide +kernel) (by decide +kernel)
theorem im_M_reach : Cond.instanceMethod y_M_reach ∈ gW := gW_in 731 (by decide +kernel) (by decide +kernel)
theorem co_M_reach : Cond.code y_M_reach c_M_reach 6 (some .int) ∈ gW := gW_in 732 (by decide +kernel) (by decide +kernel)
theorem ml_L_126 : Cond.methodLink R_L 126 y_M_firsts ∈ gW := gW_in 733 (by decide +kernel) (by decide +kernel)
theorem im_M_firsts : Cond.instanceMethod y_M_firsts ∈ gW := gW_in 734 (by decide +kernel) (by decide +kernel)
theorem se_M_firsts : Cond.selects R_M y_M_firsts y_M_firsts ∈ gW := gW_in 735 (by decide +kernel) (by decide +kernel)
theorem co_M_firsts : Cond.code y_M_firsts c_M_firsts 2 (some .int) ∈ gW := gW_in 736 (by decide +kernel) (by decide +kernel)
theorem ml_M_103 : Cond.methodLink R_M 103 y_M_step ∈ gW := gW_in 737 (by decide +kernel) (by decide +kernel)
theorem im_M_step : Cond.instanceMethod y_M_step ∈ gW := gW_in 739 (by decide +kernel) (by decide +kernel)
theorem co_M_step : Cond.code y_M_step c_M_step 11 (some .int) ∈ gW := gW_in 740 (by decide +kernel) (by decide +kernel)
theorem ml_L_129 : Cond.methodLink R_L 129 y_M_first ∈ gW := gW_in 741 (by decide +kernel) (by decide +kernel)
theorem im_M_first : Cond.instanceMethod y_M_first ∈ gW := gW_in 742 (by decide +kernel) (by decide +kernel)
theorem se_M_first : Cond.selects R_M y_M_first y_M_first ∈ gW := gW_in 743 (by decide +kernel) (by decide +kernel)
theorem co_M_first : Cond.code y_M_first c_M_first 4 (some .int) ∈ gW := gW_in 744 (by decide +kernel) (by decide +kernel)
theorem ml_L_133 : Cond.methodLink R_L 133 y_M_known ∈ gW := gW_in 745 (by decide +kernel) (by decide +kernel)
theorem im_M_known : Cond.instanceMethod y_M_known ∈ gW := gW_in 746 (by decide +kernel) (by decide +kernel)
theorem se_M_known : Cond.selects R_M y_M_known y_M_known ∈ gW := gW_in 747 (by decide +kernel) (by decide +kernel)
theorem co_M_known : Cond.code y_M_known c_M_known 3 (some .int) ∈ gW := gW_in 748 (by decide +kernel) (by decide +kernel)
theorem ml_L_137 : Cond.methodLink R_L 137 y_M_time ∈ gW := gW_in 749 (by decide +kernel) (by decide +kernel)
theorem im_M_time : Cond.instanceMethod y_M_time ∈ gW := gW_in 750 (by decide +kernel) (by decide +kernel)
theorem se_M_time : Cond.selects R_M y_M_time y_M_time ∈ gW := gW_in 751 (by decide +kernel) (by decide +kernel)
theorem co_M_time : Cond.code y_M_time c_M_time 1 (some .int) ∈ gW := gW_in 752 (by decide +kernel) (by decide +kernel)
theorem ac_long : Cond.arrayClass .long ∈ gW := gW_in 753 (by decide +kernel) (by decide +kernel)
theorem se_B_mustMake : Cond.selects R_B y_B_mustMake y_B_mustMake ∈ gW := gW_in 0 (by decide +kernel) (by decide +kernel)
theorem se_B_ageOf : Cond.selects R_B y_B_ageOf y_B_ageOf ∈ gW := gW_in 1 (by decide +kernel) (by decide +kernel)
theorem se_A_isSameEntry : Cond.selects R_A y_A_isSameEntry y_A_isSameEntry ∈ gW := gW_in 2 (by decide +kernel) (by decide +kernel)
theorem se_B_takeIn : Cond.selects R_B y_B_takeIn y_B_takeIn ∈ gW := gW_in 3 (by decide +kernel) (by decide +kernel)
theorem se_K_removeFriendsOn : Cond.selects R_K y_K_removeFriendsOn y_K_removeFriendsOn ∈ gW := gW_in 5 (by decide +kernel) (by decide +kernel)
theorem se_K_removeFriendsFrom : Cond.selects R_K y_K_removeFriendsFrom y_K_removeFriendsFrom ∈ gW := gW_in 6 (by decide +kernel) (by decide +kernel)
theorem se_B_hearOwn : Cond.selects R_B y_B_hearOwn y_B_hearOwn ∈ gW := gW_in 7 (by decide +kernel) (by decide +kernel)
theorem se_B_hearOther : Cond.selects R_B y_B_hearOther y_B_hearOther ∈ gW := gW_in 8 (by decide +kernel) (by decide +kernel)
theorem se_B_takeOutOld : Cond.selects R_B y_B_takeOutOld y_B_takeOutOld ∈ gW := gW_in 9 (by decide +kernel) (by decide +kernel)
theorem se_Y_beginAnew : Cond.selects R_Y y_Y_beginAnew y_Y_beginAnew ∈ gW := gW_in 10 (by decide +kernel) (by decide +kernel)
theorem se_Y_nearestUnsettled : Cond.selects R_Y y_Y_nearestUnsettled y_Y_nearestUnsettled ∈ gW := gW_in 11 (by decide +kernel) (by decide +kernel)
theorem se_Y_goOnFrom : Cond.selects R_Y y_Y_goOnFrom y_Y_goOnFrom ∈ gW := gW_in 12 (by decide +kernel) (by decide +kernel)
theorem se_Y_reach : Cond.selects R_Y y_Y_reach y_Y_reach ∈ gW := gW_in 13 (by decide +kernel) (by decide +kernel)
theorem se_Y_sumOver : Cond.selects R_Y y_Y_sumOver y_Y_sumOver ∈ gW := gW_in 14 (by decide +kernel) (by decide +kernel)
theorem se_M_portCount : Cond.selects R_M y_M_portCount y_M_portCount ∈ gW := gW_in 15 (by decide +kernel) (by decide +kernel)
theorem se_M_friendCount : Cond.selects R_M y_M_friendCount y_M_friendCount ∈ gW := gW_in 16 (by decide +kernel) (by decide +kernel)
theorem se_M_find : Cond.selects R_M y_M_find y_M_find ∈ gW := gW_in 17 (by decide +kernel) (by decide +kernel)
theorem se_M_add : Cond.selects R_M y_M_add y_M_add ∈ gW := gW_in 18 (by decide +kernel) (by decide +kernel)
theorem se_M_copy : Cond.selects R_M y_M_copy y_M_copy ∈ gW := gW_in 19 (by decide +kernel) (by decide +kernel)
theorem se_M_tell : Cond.selects R_M y_M_tell y_M_tell ∈ gW := gW_in 20 (by decide +kernel) (by decide +kernel)
theorem se_M_isToldNow : Cond.selects R_M y_M_isToldNow y_M_isToldNow ∈ gW := gW_in 21 (by decide +kernel) (by decide +kernel)
theorem se_M_check : Cond.selects R_M y_M_check y_M_check ∈ gW := gW_in 22 (by decide +kernel) (by decide +kernel)
theorem se_M_spread : Cond.selects R_M y_M_spread y_M_spread ∈ gW := gW_in 23 (by decide +kernel) (by decide +kernel)
theorem se_M_reach : Cond.selects R_M y_M_reach y_M_reach ∈ gW := gW_in 24 (by decide +kernel) (by decide +kernel)
theorem se_M_step : Cond.selects R_M y_M_step y_M_step ∈ gW := gW_in 25 (by decide +kernel) (by decide +kernel)
theorem iw_A : ∀ w ∈ ws_A, w ∈ gW := by decide +kernel
theorem iw_K : ∀ w ∈ ws_K, w ∈ gW := by decide +kernel
theorem iw_Y : ∀ w ∈ ws_Y, w ∈ gW := by decide +kernel
theorem iw_B : ∀ w ∈ ws_B, w ∈ gW := by decide +kernel
theorem iw_M : ∀ w ∈ ws_M, w ∈ gW := by decide +kernel
end
section
/-! Whole numbers for ints: every int of the machine is iI of one in range, arrays are aI of a function on whole numbers. -/
def iI (z : Int) : Int32 := Int32.ofInt z
abbrev inR (z : Int) : Prop := -2147483648 ≤ z ∧ z < 2147483648
theorem iI_t {z : Int} (h : inR z) : (iI z).toInt = z := by
  obtain ⟨h1, h2⟩ := h
  exact Int32.toInt_ofInt_of_le (by omega) (by omega)
theorem iI_of (x : Int32) : ∃ z : Int, inR z ∧ x = iI z := by
  refine ⟨x.toInt, ⟨?_, ?_⟩, (Int32.ofInt_toInt x).symm⟩
  · have := x.le_toInt; omega
  · have := x.toInt_lt; omega
theorem iI_add (a b : Int) : iI a + iI b = iI (a + b) := (Int32.ofInt_add a b).symm
theorem iI_sub (a b : Int) : iI a - iI b = iI (a - b) := (Int32.ofInt_sub a b).symm
theorem iI_mul (a b : Int) : iI a * iI b = iI (a * b) := (Int32.ofInt_mul a b).symm
theorem iI_lt {a b : Int} (ha : inR a) (hb : inR b) : iI a < iI b ↔ a < b := by rw [Int32.lt_iff_toInt_lt, iI_t ha, iI_t hb]
theorem iI_le {a b : Int} (ha : inR a) (hb : inR b) : iI a ≤ iI b ↔ a ≤ b := by rw [Int32.le_iff_toInt_le, iI_t ha, iI_t hb]
theorem iI_eq {a b : Int} (ha : inR a) (hb : inR b) : iI a = iI b ↔ a = b := ⟨fun h => by rw [← iI_t ha, h, iI_t hb], fun h => by rw [h]⟩
theorem iI_cl {z : Int} (h : inR z) : (iI z).toNatClampNeg = z.toNat := by
  show (iI z).toInt.toNat = _
  rw [iI_t h]
theorem iI_0 : iI 0 = 0 := rfl
theorem iI_in {z : Int} {n : Nat} (h0 : 0 ≤ z) (h1 : z < (n : Int)) (hn : (n : Int) < 2147483648) : vp_in (iI z) n := by
  have hr : inR z := ⟨by omega, by omega⟩
  rw [vp_in_iff, iI_t hr]
  exact ⟨h0, h1⟩
def aI (f : Int → Int) : Nat → Int32 := fun j => iI (f (j : Int))
def uZ (f : Int → Int) (k v : Int) : Int → Int := fun j => if j = k then v else f j
theorem uZ_s {f : Int → Int} {k v : Int} : uZ f k v k = v := by simp [uZ]
theorem uZ_n {f : Int → Int} {k v j : Int} (h : j ≠ k) : uZ f k v j = f j := by simp [uZ, h]
theorem aI_at {f : Int → Int} {z : Int} (h0 : 0 ≤ z) (h : inR z) : aI f (iI z).toNatClampNeg = iI (f z) := by
  rw [iI_cl h]
  show iI (f ((z.toNat : Nat) : Int)) = _
  rw [Int.toNat_of_nonneg h0]
theorem aI_upd {f : Int → Int} {z v : Int} (h0 : 0 ≤ z) (h : inR z) : upd (aI f) (iI z).toNatClampNeg (iI v) = aI (uZ f z v) := by
  rw [iI_cl h]
  funext j
  by_cases hj : j = z.toNat
  · subst hj
    simp [upd, aI, uZ, Int.toNat_of_nonneg h0]
  · have h2 : ¬ ((j : Int) = z) := fun q => hj (by omega)
    simp [upd, aI, uZ, hj, h2]
/-! The environment: the five classes, the three array classes, the nest words. -/
abbrev cls0 : List vw_C := [(R_A, T_A, 6), (R_K, T_K, 4), (R_Y, T_Y, 6), (R_B, T_B, 9), (R_M, T_M, 16)]
abbrev tz3 : Type := ClassId × ClassId × ClassId
abbrev tys0 (z : tz3) : List (ClassId × FieldType) := [(z.1, .int), (z.2.1, .boolean), (z.2.2, .long)]
def nW : List Cond := [.methodLinkNest R_B 19 y_K_init "StateBench", .fieldLinkNest R_B 164 "StateBench$Adverts" "numbers" "[I" "StateBench", .fieldLinkNest R_B 221 "StateBench$Adverts" "takenAt" "[I" "StateBench", .fieldLinkNest R_B 123 "StateBench$Adverts" "sizes" "[I" "StateBench", .fieldLinkNest R_Y 45 "StateBench$Adverts" "sizes" "[I" "StateBench", .fieldLinkNest R_Y 54 "StateBench$Adverts" "routers" "[I" "StateBench", .fieldLinkNest R_B 177 "StateBench$Adverts" "routers" "[I" "StateBench", .fieldLinkNest R_Y 57 "StateBench$Adverts" "nets" "[I" "StateBench", .fieldLinkNest R_B 180 "StateBench$Adverts" "nets" "[I" "StateBench", .fieldLinkNest R_Y 64 "StateBench$Adverts" "costs" "[I" "StateBench", .fieldLinkNest R_B 183 "StateBench$Adverts" "costs" "[I" "StateBench", .fieldLinkNest R_B 195 "StateBench$Ways" "sums" "[I" "StateBench", .methodLinkNest R_K 37 y_B_stepOf "StateBench"]
theorem nl_B_19 : Cond.methodLinkNest R_B 19 y_K_init "StateBench" ∈ nW := List.mem_of_getElem? (i := 0) rfl
theorem nf_B_164 : Cond.fieldLinkNest R_B 164 "StateBench$Adverts" "numbers" "[I" "StateBench" ∈ nW := List.mem_of_getElem? (i := 1) rfl
theorem nf_B_221 : Cond.fieldLinkNest R_B 221 "StateBench$Adverts" "takenAt" "[I" "StateBench" ∈ nW := List.mem_of_getElem? (i := 2) rfl
theorem nf_B_123 : Cond.fieldLinkNest R_B 123 "StateBench$Adverts" "sizes" "[I" "StateBench" ∈ nW := List.mem_of_getElem? (i := 3) rfl
theorem nf_Y_45 : Cond.fieldLinkNest R_Y 45 "StateBench$Adverts" "sizes" "[I" "StateBench" ∈ nW := List.mem_of_getElem? (i := 4) rfl
theorem nf_Y_54 : Cond.fieldLinkNest R_Y 54 "StateBench$Adverts" "routers" "[I" "StateBench" ∈ nW := List.mem_of_getElem? (i := 5) rfl
theorem nf_B_177 : Cond.fieldLinkNest R_B 177 "StateBench$Adverts" "routers" "[I" "StateBench" ∈ nW := List.mem_of_getElem? (i := 6) rfl
theorem nf_Y_57 : Cond.fieldLinkNest R_Y 57 "StateBench$Adverts" "nets" "[I" "StateBench" ∈ nW := List.mem_of_getElem? (i := 7) rfl
theorem nf_B_180 : Cond.fieldLinkNest R_B 180 "StateBench$Adverts" "nets" "[I" "StateBench" ∈ nW := List.mem_of_getElem? (i := 8) rfl
theorem nf_Y_64 : Cond.fieldLinkNest R_Y 64 "StateBench$Adverts" "costs" "[I" "StateBench" ∈ nW := List.mem_of_getElem? (i := 9) rfl
theorem nf_B_183 : Cond.fieldLinkNest R_B 183 "StateBench$Adverts" "costs" "[I" "StateBench" ∈ nW := List.mem_of_getElem? (i := 10) rfl
theorem nf_B_195 : Cond.fieldLinkNest R_B 195 "StateBench$Ways" "sums" "[I" "StateBench" ∈ nW := List.mem_of_getElem? (i := 11) rfl
theorem nl_K_37 : Cond.methodLinkNest R_K 37 y_B_stepOf "StateBench" ∈ nW := List.mem_of_getElem? (i := 12) rfl
theorem nW_tab : ∀ w ∈ nW, w.onTables = true := by decide +kernel
def isN (w : Cond) : Prop := (∃ a i b n d h, w = .fieldLinkNest a i b n d h) ∨ ∃ a i x h, w = .methodLinkNest a i x h
theorem nW_is : ∀ w ∈ nW, isN w := by
  intro w hw
  simp only [nW, List.mem_cons, List.not_mem_nil, or_false] at hw
  rcases hw with rfl | rfl | rfl | rfl | rfl | rfl | rfl | rfl | rfl | rfl | rfl | rfl | rfl
  · exact Or.inr ⟨_, _, _, _, rfl⟩
  · exact Or.inl ⟨_, _, _, _, _, _, rfl⟩
  · exact Or.inl ⟨_, _, _, _, _, _, rfl⟩
  · exact Or.inl ⟨_, _, _, _, _, _, rfl⟩
  · exact Or.inl ⟨_, _, _, _, _, _, rfl⟩
  · exact Or.inl ⟨_, _, _, _, _, _, rfl⟩
  · exact Or.inl ⟨_, _, _, _, _, _, rfl⟩
  · exact Or.inl ⟨_, _, _, _, _, _, rfl⟩
  · exact Or.inl ⟨_, _, _, _, _, _, rfl⟩
  · exact Or.inl ⟨_, _, _, _, _, _, rfl⟩
  · exact Or.inl ⟨_, _, _, _, _, _, rfl⟩
  · exact Or.inl ⟨_, _, _, _, _, _, rfl⟩
  · exact Or.inr ⟨_, _, _, _, rfl⟩
theorem nW_warm {s U : State} (hW : s.WarmedH U.vm) {w : Cond} (hw : w ∈ nW) (h : va_Nw w s) : va_Nw w U := by
  rcases nW_is w hw with ⟨a, i, b, n, d, q, rfl⟩ | ⟨a, i, x, q, rfl⟩
  · exact va_Nw.warmF hW h
  · exact va_Nw.warmM hW h
theorem nW_tbl : ∀ w ∈ nW, w ∈ lw_tbl := by decide +kernel
def EV (G : va_G) (z : tz3) (U : State) : Prop := va_K G cls0 (tys0 z) U ∧ ∀ w ∈ nW, va_Nw w U
theorem EV.warm {G : va_G} {z : tz3} {s U : State} (hW : s.WarmedH U.vm) (h : EV G z s) : EV G z U := ⟨va_K.moved hW.alike h.1, fun w hw => nW_warm hW hw (h.2 w hw)⟩
theorem EV.call {G : va_G} {z : tz3} {U : State} {g : JFrame} {mk : MethodId} {a : Array Value} (h : EV G z U) : EV G z (U.calling g mk a) := ⟨va_K.moved (u := U) (U := U.calling g mk a) (Vm.Alike.refl U.vm) h.1, fun w hw => va_Nw.same (u := U) (U := U.calling g mk a) (nW_tab w hw) rfl (h.2 w hw)⟩
theorem EV.nest {G : va_G} {z : tz3} {s : State} {args : Array Value} (h : EV G z s) {w : Cond} (hw : w ∈ nW) : w.before args s = true := va_Nw.use (nW_tab w hw) (h.2 w hw)
def Pq (G : va_G) (z : tz3) (sz : Nat) (ws : va_W) : State → Prop := fun U => U.heap.size = sz ∧ EV G z U ∧ va_P G cls0 ws U.heap ∧ va_D (fun _ => True) ws
def Bq (G : va_G) (A : Nat → Prop) : va_W → State → Prop := fun u t => va_P G cls0 u t.heap ∧ va_D A u
theorem Pq_blind (G : va_G) (z : tz3) (sz : Nat) (ws : va_W) (av : List Value) : FrameBlind (va_Pc av (Pq G z sz ws)) := by
  intro a U g mk q
  obtain ⟨q0, q1, q2, q3, q4⟩ := q
  exact ⟨q0, q1, q2.call, q3, q4⟩
theorem Pq_of {G : va_G} {z : tz3} {ws wc : va_W} {s : State} {H : Heap} {A : Nat → Prop} {av : List Value} (hE : EV G z s) (hP : va_P G cls0 wc H) (hD : va_D A wc) : ∀ U : State, U.heap = H → s.WarmedH U.vm → va_Pc av (Pq G z H.size wc) av.toArray U := by
  intro U hU hW
  exact ⟨rfl, by rw [hU], hE.warm hW, by rw [hU]; exact hP, hD.weaken (fun _ _ _ _ => trivial)⟩
def rmD (d : Nat) : Room := { frames := d, cells := 0, slots := 0, locals := 26 * d }
/-- contracts: the answer an int, or none; the world before, and what may come of it -/
def Ki (l : Launch) (y : MethodName) (cc : ByteArray) (n : Nat) (ret : Option FieldType) (rm : Room) (G : va_G) (z : tz3) (av : List Value) (ws : va_W) (post : Int32 → va_W → Prop) : Prop :=
  ∀ sz : Nat, Met l y (.code y cc n ret :: gW) rm (va_Pc av (Pq G z sz ws)) (va_Qi post (Bq G (va_A ws sz)) (va_A ws sz)) rm.cells rm.slots (va_A ws sz)
def Kv (l : Launch) (y : MethodName) (cc : ByteArray) (n : Nat) (rm : Room) (G : va_G) (z : tz3) (av : List Value) (ws : va_W) (post : va_W → Prop) : Prop :=
  ∀ sz : Nat, Met l y (.code y cc n none :: gW) rm (va_Pc av (Pq G z sz ws)) (va_Qv post (Bq G (va_A ws sz)) (va_A ws sz)) rm.cells rm.slots (va_A ws sz)
def Zi (below : List Frame) (args : Array Value) (s : State) (rm : Room) (G : va_G) (A : Nat → Prop) (post : Int32 → va_W → Prop) : State → Prop := MQ below (va_Qi post (Bq G A) A) args s rm.cells rm.slots A
def Zv (below : List Frame) (args : Array Value) (s : State) (rm : Room) (G : va_G) (A : Nat → Prop) (post : va_W → Prop) : State → Prop := MQ below (va_Qv post (Bq G A) A) args s rm.cells rm.slots A
/-- what a body begins with -/
def Bd (p : Program) (s : State) (m : MethodId) (meth : Method) (c : Code) (y : MethodName) (cc : ByteArray) (n : Nat) (ret : Option FieldType) (G : va_G) (z : tz3) (av : List Value) (A : Nat → Prop) : Prop :=
  p.tables.exec = Jvm.exec ∧ c.code = cc ∧ meth.sig.returnType = ret ∧ c.maxLocals = n ∧ s.vm.findClass y.cls = some m.cls ∧ meth.locks = false ∧ (∀ w ∈ gW, w.before av.toArray s = true) ∧ EV G z s ∧ (∀ q : Nat, s.heap.size ≤ q → A q) ∧ meth.name = y.name
theorem gW_of {y : MethodName} {cc : ByteArray} {n : Nat} {ret : Option FieldType} {s : State} {args : Array Value} (h : ∀ w ∈ (Cond.code y cc n ret :: gW), w.before args s = true) : ∀ w ∈ gW, w.before args s = true := fun w hw => h w (List.mem_cons_of_mem _ hw)
theorem Ki.of {l : Launch} {y : MethodName} {cc : ByteArray} {n : Nat} {ret : Option FieldType} {rm : Room} {G : va_G} {z : tz3} {av : List Value} {ws : va_W} {post : Int32 → va_W → Prop} (hy : plainName y.cls = true) (hn : (lg_sl av).length ≤ n)
    (body : ∀ (p : Program) (e : Env) (s : State) (m : MethodId) (below : List Frame) (meth : Method) (c : Code) (A : Nat → Prop), Bd p s m meth c y cc n ret G z av A → va_P G cls0 ws s.heap → va_D A ws → ∀ ls : Array Slot, lv_has ls n (lv_args 0 av) →
      W p l e rm s m av.toArray below meth c s.heap [] 0 0 (Zi below av.toArray s rm G A post) (F0 m 0 ls [])) : Ki l y cc n ret rm G z av ws post := by
  intro sz
  refine Met.ofW (cc := cc) (maxL := n) (ret := ret) hy rfl ?_
  intro p e s m args below meth c s₁ B hml hv
  obtain ⟨rfl, hsz, hE, hP, hD0⟩ := hv
  subst hsz
  have hl := lv_entry av (n := n) hn
  rw [lg_entry_eq]
  exact body p e s m below meth c _ ⟨B.exec, B.bytes, B.returns, hml, findClass_of_methodNamed B.named, B.notSynchronized, gW_of (atoms_spec B.pre), hE, fun q h => Or.inr h, (name_of_methodNamed B.named B.method).1⟩ hP hD0.self _ hl
theorem Kv.of {l : Launch} {y : MethodName} {cc : ByteArray} {n : Nat} {rm : Room} {G : va_G} {z : tz3} {av : List Value} {ws : va_W} {post : va_W → Prop} (hy : plainName y.cls = true) (hn : (lg_sl av).length ≤ n)
    (body : ∀ (p : Program) (e : Env) (s : State) (m : MethodId) (below : List Frame) (meth : Method) (c : Code) (A : Nat → Prop), Bd p s m meth c y cc n none G z av A → va_P G cls0 ws s.heap → va_D A ws → ∀ ls : Array Slot, lv_has ls n (lv_args 0 av) →
      W p l e rm s m av.toArray below meth c s.heap [] 0 0 (Zv below av.toArray s rm G A post) (F0 m 0 ls [])) : Kv l y cc n rm G z av ws post := by
  intro sz
  refine Met.ofW (cc := cc) (maxL := n) (ret := none) hy rfl ?_
  intro p e s m args below meth c s₁ B hml hv
  obtain ⟨rfl, hsz, hE, hP, hD0⟩ := hv
  subst hsz
  have hl := lv_entry av (n := n) hn
  rw [lg_entry_eq]
  exact body p e s m below meth c _ ⟨B.exec, B.bytes, B.returns, hml, findClass_of_methodNamed B.named, B.notSynchronized, gW_of (atoms_spec B.pre), hE, fun q h => Or.inr h, (name_of_methodNamed B.named B.method).1⟩ hP hD0.self _ hl
section RV
variable {p : Program} {l : Launch} {e : Env} {R : Room} {s : State} {m : MethodId} {args : Array Value} {below : List Frame} {meth : Method} {c : Code} {H : Heap} {locs : List Loc} {cells slots : Nat} {Q : State → Prop}
variable {cc : ByteArray} {pc : Nat} {ls : Array Slot} {rest : List Value}
theorem rv_iadd (hexec : p.tables.exec = Jvm.exec) (hb : c.code = cc) {x y : Int} (hdg : decode cc pc = .ok (.iadd, 1))
    (k : W p l e R s m args below meth c H locs cells slots Q (F0 m (pc + 1) ls (.int (iI (x + y)) :: rest))) : W p l e R s m args below meth c H locs cells slots Q (F0 m pc ls (.int (iI y) :: .int (iI x) :: rest)) :=
  lv_iadd hexec hb hdg (by rw [iI_add]; exact k)
theorem rv_isub (hexec : p.tables.exec = Jvm.exec) (hb : c.code = cc) {x y : Int} (hdg : decode cc pc = .ok (.isub, 1))
    (k : W p l e R s m args below meth c H locs cells slots Q (F0 m (pc + 1) ls (.int (iI (x - y)) :: rest))) : W p l e R s m args below meth c H locs cells slots Q (F0 m pc ls (.int (iI y) :: .int (iI x) :: rest)) :=
  lv_isub hexec hb hdg (by rw [iI_sub]; exact k)
theorem rv_imul (hexec : p.tables.exec = Jvm.exec) (hb : c.code = cc) {x y : Int} (hdg : decode cc pc = .ok (.imul, 1))
    (k : W p l e R s m args below meth c H locs cells slots Q (F0 m (pc + 1) ls (.int (iI (x * y)) :: rest))) : W p l e R s m args below meth c H locs cells slots Q (F0 m pc ls (.int (iI y) :: .int (iI x) :: rest)) :=
  lv_imul hexec hb hdg (by rw [iI_mul]; exact k)
theorem iI_r0 : inR 0 := ⟨by decide, by decide⟩
theorem rv_icmp_eq (hexec : p.tables.exec = Jvm.exec) (hb : c.code = cc) {x y : Int} {off : Int} {tgt : Nat} (hdg : decode cc pc = .ok (.if_icmp .eq off, 3)) (ht : (pc : Int) + off = (tgt : Int)) (hx0 : inR x) (hy0 : inR y)
    (kt : x = y → W p l e R s m args below meth c H locs cells slots Q (F0 m tgt ls rest)) (kf : ¬ x = y → W p l e R s m args below meth c H locs cells slots Q (F0 m (pc + 3) ls rest)) : W p l e R s m args below meth c H locs cells slots Q (F0 m pc ls (.int (iI y) :: .int (iI x) :: rest)) :=
  lv_icmp_eq hexec hb hdg ht (fun h => kt ((iI_eq hx0 hy0).mp h)) (fun h => kf (fun q => h ((iI_eq hx0 hy0).mpr q)))
theorem rv_if_eq (hexec : p.tables.exec = Jvm.exec) (hb : c.code = cc) {x : Int} {off : Int} {tgt : Nat} (hdg : decode cc pc = .ok (.ifCond .eq off, 3)) (ht : (pc : Int) + off = (tgt : Int)) (hx0 : inR x)
    (kt : x = 0 → W p l e R s m args below meth c H locs cells slots Q (F0 m tgt ls rest)) (kf : ¬ x = 0 → W p l e R s m args below meth c H locs cells slots Q (F0 m (pc + 3) ls rest)) : W p l e R s m args below meth c H locs cells slots Q (F0 m pc ls (.int (iI x) :: rest)) :=
  lv_if_eq hexec hb hdg ht (fun h => kt ((iI_eq hx0 iI_r0).mp h)) (fun h => kf (fun q => h ((iI_eq hx0 iI_r0).mpr q)))
theorem rv_icmp_ne (hexec : p.tables.exec = Jvm.exec) (hb : c.code = cc) {x y : Int} {off : Int} {tgt : Nat} (hdg : decode cc pc = .ok (.if_icmp .ne off, 3)) (ht : (pc : Int) + off = (tgt : Int)) (hx0 : inR x) (hy0 : inR y)
    (kt : ¬ x = y → W p l e R s m args below meth c H locs cells slots Q (F0 m tgt ls rest)) (kf : x = y → W p l e R s m args below meth c H locs cells slots Q (F0 m (pc + 3) ls rest)) : W p l e R s m args below meth c H locs cells slots Q (F0 m pc ls (.int (iI y) :: .int (iI x) :: rest)) :=
  lv_icmp_ne hexec hb hdg ht (fun h => kt (fun q => h ((iI_eq hx0 hy0).mpr q))) (fun h => kf ((iI_eq hx0 hy0).mp h))
theorem rv_if_ne (hexec : p.tables.exec = Jvm.exec) (hb : c.code = cc) {x : Int} {off : Int} {tgt : Nat} (hdg : decode cc pc = .ok (.ifCond .ne off, 3)) (ht : (pc : Int) + off = (tgt : Int)) (hx0 : inR x)
    (kt : ¬ x = 0 → W p l e R s m args below meth c H locs cells slots Q (F0 m tgt ls rest)) (kf : x = 0 → W p l e R s m args below meth c H locs cells slots Q (F0 m (pc + 3) ls rest)) : W p l e R s m args below meth c H locs cells slots Q (F0 m pc ls (.int (iI x) :: rest)) :=
  lv_if_ne hexec hb hdg ht (fun h => kt (fun q => h ((iI_eq hx0 iI_r0).mpr q))) (fun h => kf ((iI_eq hx0 iI_r0).mp h))
theorem rv_icmp_lt (hexec : p.tables.exec = Jvm.exec) (hb : c.code = cc) {x y : Int} {off : Int} {tgt : Nat} (hdg : decode cc pc = .ok (.if_icmp .lt off, 3)) (ht : (pc : Int) + off = (tgt : Int)) (hx0 : inR x) (hy0 : inR y)
    (kt : x < y → W p l e R s m args below meth c H locs cells slots Q (F0 m tgt ls rest)) (kf : ¬ x < y → W p l e R s m args below meth c H locs cells slots Q (F0 m (pc + 3) ls rest)) : W p l e R s m args below meth c H locs cells slots Q (F0 m pc ls (.int (iI y) :: .int (iI x) :: rest)) :=
  lv_icmp_lt hexec hb hdg ht (fun h => kt ((iI_lt hx0 hy0).mp h)) (fun h => kf (fun q => h ((iI_lt hx0 hy0).mpr q)))
theorem rv_if_lt (hexec : p.tables.exec = Jvm.exec) (hb : c.code = cc) {x : Int} {off : Int} {tgt : Nat} (hdg : decode cc pc = .ok (.ifCond .lt off, 3)) (ht : (pc : Int) + off = (tgt : Int)) (hx0 : inR x)
    (kt : x < 0 → W p l e R s m args below meth c H locs cells slots Q (F0 m tgt ls rest)) (kf : ¬ x < 0 → W p l e R s m args below meth c H locs cells slots Q (F0 m (pc + 3) ls rest)) : W p l e R s m args below meth c H locs cells slots Q (F0 m pc ls (.int (iI x) :: rest)) :=
  lv_if_lt hexec hb hdg ht (fun h => kt ((iI_lt hx0 iI_r0).mp h)) (fun h => kf (fun q => h ((iI_lt hx0 iI_r0).mpr q)))
theorem rv_icmp_ge (hexec : p.tables.exec = Jvm.exec) (hb : c.code = cc) {x y : Int} {off : Int} {tgt : Nat} (hdg : decode cc pc = .ok (.if_icmp .ge off, 3)) (ht : (pc : Int) + off = (tgt : Int)) (hx0 : inR x) (hy0 : inR y)
    (kt : y ≤ x → W p l e R s m args below meth c H locs cells slots Q (F0 m tgt ls rest)) (kf : ¬ y ≤ x → W p l e R s m args below meth c H locs cells slots Q (F0 m (pc + 3) ls rest)) : W p l e R s m args below meth c H locs cells slots Q (F0 m pc ls (.int (iI y) :: .int (iI x) :: rest)) :=
  lv_icmp_ge hexec hb hdg ht (fun h => kt ((iI_le hy0 hx0).mp h)) (fun h => kf (fun q => h ((iI_le hy0 hx0).mpr q)))
theorem rv_if_ge (hexec : p.tables.exec = Jvm.exec) (hb : c.code = cc) {x : Int} {off : Int} {tgt : Nat} (hdg : decode cc pc = .ok (.ifCond .ge off, 3)) (ht : (pc : Int) + off = (tgt : Int)) (hx0 : inR x)
    (kt : 0 ≤ x → W p l e R s m args below meth c H locs cells slots Q (F0 m tgt ls rest)) (kf : ¬ 0 ≤ x → W p l e R s m args below meth c H locs cells slots Q (F0 m (pc + 3) ls rest)) : W p l e R s m args below meth c H locs cells slots Q (F0 m pc ls (.int (iI x) :: rest)) :=
  lv_if_ge hexec hb hdg ht (fun h => kt ((iI_le iI_r0 hx0).mp h)) (fun h => kf (fun q => h ((iI_le iI_r0 hx0).mpr q)))
theorem rv_icmp_gt (hexec : p.tables.exec = Jvm.exec) (hb : c.code = cc) {x y : Int} {off : Int} {tgt : Nat} (hdg : decode cc pc = .ok (.if_icmp .gt off, 3)) (ht : (pc : Int) + off = (tgt : Int)) (hx0 : inR x) (hy0 : inR y)
    (kt : y < x → W p l e R s m args below meth c H locs cells slots Q (F0 m tgt ls rest)) (kf : ¬ y < x → W p l e R s m args below meth c H locs cells slots Q (F0 m (pc + 3) ls rest)) : W p l e R s m args below meth c H locs cells slots Q (F0 m pc ls (.int (iI y) :: .int (iI x) :: rest)) :=
  lv_icmp_gt hexec hb hdg ht (fun h => kt ((iI_lt hy0 hx0).mp h)) (fun h => kf (fun q => h ((iI_lt hy0 hx0).mpr q)))
theorem rv_if_gt (hexec : p.tables.exec = Jvm.exec) (hb : c.code = cc) {x : Int} {off : Int} {tgt : Nat} (hdg : decode cc pc = .ok (.ifCond .gt off, 3)) (ht : (pc : Int) + off = (tgt : Int)) (hx0 : inR x)
    (kt : 0 < x → W p l e R s m args below meth c H locs cells slots Q (F0 m tgt ls rest)) (kf : ¬ 0 < x → W p l e R s m args below meth c H locs cells slots Q (F0 m (pc + 3) ls rest)) : W p l e R s m args below meth c H locs cells slots Q (F0 m pc ls (.int (iI x) :: rest)) :=
  lv_if_gt hexec hb hdg ht (fun h => kt ((iI_lt iI_r0 hx0).mp h)) (fun h => kf (fun q => h ((iI_lt iI_r0 hx0).mpr q)))
theorem rv_icmp_le (hexec : p.tables.exec = Jvm.exec) (hb : c.code = cc) {x y : Int} {off : Int} {tgt : Nat} (hdg : decode cc pc = .ok (.if_icmp .le off, 3)) (ht : (pc : Int) + off = (tgt : Int)) (hx0 : inR x) (hy0 : inR y)
    (kt : x ≤ y → W p l e R s m args below meth c H locs cells slots Q (F0 m tgt ls rest)) (kf : ¬ x ≤ y → W p l e R s m args below meth c H locs cells slots Q (F0 m (pc + 3) ls rest)) : W p l e R s m args below meth c H locs cells slots Q (F0 m pc ls (.int (iI y) :: .int (iI x) :: rest)) :=
  lv_icmp_le hexec hb hdg ht (fun h => kt ((iI_le hx0 hy0).mp h)) (fun h => kf (fun q => h ((iI_le hx0 hy0).mpr q)))
theorem rv_if_le (hexec : p.tables.exec = Jvm.exec) (hb : c.code = cc) {x : Int} {off : Int} {tgt : Nat} (hdg : decode cc pc = .ok (.ifCond .le off, 3)) (ht : (pc : Int) + off = (tgt : Int)) (hx0 : inR x)
    (kt : x ≤ 0 → W p l e R s m args below meth c H locs cells slots Q (F0 m tgt ls rest)) (kf : ¬ x ≤ 0 → W p l e R s m args below meth c H locs cells slots Q (F0 m (pc + 3) ls rest)) : W p l e R s m args below meth c H locs cells slots Q (F0 m pc ls (.int (iI x) :: rest)) :=
  lv_if_le hexec hb hdg ht (fun h => kt ((iI_le hx0 iI_r0).mp h)) (fun h => kf (fun q => h ((iI_le hx0 iI_r0).mpr q)))
theorem rv_iret {rm : Room} {G : va_G} {A : Nat → Prop} {post : Int32 → va_W → Prop} {v : Int32} {u : va_W} {ty : FieldType} (hexec : p.tables.exec = Jvm.exec) (hb : c.code = cc) (hr : meth.sig.returnType = some ty) (hn : narrow ty (.int v) = .int v) (hlocks : meth.locks = false) (hc : cells ≤ rm.cells) (hs : slots ≤ rm.slots) (hP : va_P G cls0 u H) (hD : va_D A u) (hS : va_S A s.heap H locs) (hdg : decode cc pc = .ok (.ireturn, 1)) (hp : post v u) :
    W p l e R s m args below meth c H locs cells slots (Zi below args s rm G A post) (F0 m pc ls [.int v]) :=
  W.widen hc hs (W.zret hexec hb hr hn (fun t ht _ => ⟨⟨v, u, rfl, hp, by rw [ht]; exact hP, hD⟩, hS.F ht⟩) hS.2.2 hdg hlocks)
theorem rv_vret {rm : Room} {G : va_G} {A : Nat → Prop} {post : va_W → Prop} {u : va_W} (hexec : p.tables.exec = Jvm.exec) (hb : c.code = cc) (hr : meth.sig.returnType = none) (hlocks : meth.locks = false) (hc : cells ≤ rm.cells) (hs : slots ≤ rm.slots) (hP : va_P G cls0 u H) (hD : va_D A u) (hS : va_S A s.heap H locs) (hdg : decode cc pc = .ok (.return_, 1)) (hp : post u) :
    W p l e R s m args below meth c H locs cells slots (Zv below args s rm G A post) (F0 m pc ls []) :=
  W.widen hc hs (W.vret hexec hb hr (fun t ht _ => ⟨⟨u, rfl, hp, by rw [ht]; exact hP, hD⟩, hS.F ht⟩) hS.2.2 hdg hlocks)
theorem nar_int (v : Int32) : narrow .int (.int v) = .int v := vp_nar_int v
theorem nar_b0 : narrow .boolean (.int (iI 0)) = .int (iI 0) := by decide +kernel
theorem nar_b1 : narrow .boolean (.int (iI 1)) = .int (iI 1) := by decide +kernel
theorem nar_b {z : Int} (h : z = 0 ∨ z = 1) : narrow .boolean (.int (iI z)) = .int (iI z) := by
  rcases h with rfl | rfl
  · exact nar_b0
  · exact nar_b1
variable {D : va_G} {A : Nat → Prop} {a : Nat} {z : tz3} {ws : va_W} {H0 : Heap}
theorem rv_iald (hexec : p.tables.exec = Jvm.exec) (hb : c.code = cc) (hE : EV D z s) (hP : va_P D cls0 ws H) (q0 : Nat) {n : Nat} {f : Int → Int} (ha : ws[q0]? = some (a, .inl (z.1, n, .inl (aI f)))) {i : Int} (h0 : 0 ≤ i) (h1 : i < (n : Int)) (hn : (n : Int) < 2147483648) (hdg : decode cc pc = .ok (.iaload, 1))
    (kk : W p l e R s m args below meth c H locs cells slots Q (F0 m (pc + 1) ls (.int (iI (f i)) :: rest))) : W p l e R s m args below meth c H locs cells slots Q (F0 m pc ls (.int (iI i) :: .ref a :: rest)) :=
  va_iald hexec hb hE.1 hP q0 0 ha rfl (iI_in h0 h1 hn) hdg (by rw [aI_at h0 ⟨by omega, by omega⟩]; exact kk)
theorem rv_zald (hexec : p.tables.exec = Jvm.exec) (hb : c.code = cc) (hE : EV D z s) (hP : va_P D cls0 ws H) (q0 : Nat) {n : Nat} {f : Int → Int} (ha : ws[q0]? = some (a, .inl (z.2.1, n, .inl (aI f)))) {i : Int} (h0 : 0 ≤ i) (h1 : i < (n : Int)) (hn : (n : Int) < 2147483648) (hdg : decode cc pc = .ok (.baload, 1))
    (kk : W p l e R s m args below meth c H locs cells slots Q (F0 m (pc + 1) ls (.int (iI (f i)) :: rest))) : W p l e R s m args below meth c H locs cells slots Q (F0 m pc ls (.int (iI i) :: .ref a :: rest)) :=
  va_zald hexec hb hE.1 hP q0 1 ha rfl (iI_in h0 h1 hn) hdg (by rw [aI_at h0 ⟨by omega, by omega⟩]; exact kk)
theorem rv_iast (hexec : p.tables.exec = Jvm.exec) (hb : c.code = cc) (hE : EV D z s) (hP : va_P D cls0 ws H) (hD : va_D A ws) (hS : va_S A H0 H locs) (q0 : Nat) {n : Nat} {f : Int → Int} (ha : ws[q0]? = some (a, .inl (z.1, n, .inl (aI f)))) {i x : Int} (h0 : 0 ≤ i) (h1 : i < (n : Int)) (hn : (n : Int) < 2147483648) (hdg : decode cc pc = .ok (.iastore, 1))
    (kk : ∀ (H1 : Heap) (locs1 : List Loc), va_P D cls0 (ws.set q0 (a, .inl (z.1, n, .inl (aI (uZ f i x))))) H1 → va_D A (ws.set q0 (a, .inl (z.1, n, .inl (aI (uZ f i x))))) → va_S A H0 H1 locs1 → W p l e R s m args below meth c H1 locs1 cells slots Q (F0 m (pc + 1) ls rest)) : W p l e R s m args below meth c H locs cells slots Q (F0 m pc ls (.int (iI x) :: .int (iI i) :: .ref a :: rest)) :=
  va_iast hexec hb hE.1 hP hD hS q0 0 ha rfl (iI_in h0 h1 hn) hdg (by rw [aI_upd h0 ⟨by omega, by omega⟩]; exact kk)
theorem rv_zast (hexec : p.tables.exec = Jvm.exec) (hb : c.code = cc) (hE : EV D z s) (hP : va_P D cls0 ws H) (hD : va_D A ws) (hS : va_S A H0 H locs) (q0 : Nat) {n : Nat} {f : Int → Int} (ha : ws[q0]? = some (a, .inl (z.2.1, n, .inl (aI f)))) {i x : Int} (h0 : 0 ≤ i) (h1 : i < (n : Int)) (hn : (n : Int) < 2147483648) (hx : x = 0 ∨ x = 1) (hdg : decode cc pc = .ok (.bastore, 1))
    (kk : ∀ (H1 : Heap) (locs1 : List Loc), va_P D cls0 (ws.set q0 (a, .inl (z.2.1, n, .inl (aI (uZ f i x))))) H1 → va_D A (ws.set q0 (a, .inl (z.2.1, n, .inl (aI (uZ f i x))))) → va_S A H0 H1 locs1 → W p l e R s m args below meth c H1 locs1 cells slots Q (F0 m (pc + 1) ls rest)) : W p l e R s m args below meth c H locs cells slots Q (F0 m pc ls (.int (iI x) :: .int (iI i) :: .ref a :: rest)) :=
  va_zast hexec hb hE.1 hP hD hS q0 1 ha rfl (iI_in h0 h1 hn) hdg (by rw [show vp_nar .boolean (iI x) = iI x by (unfold vp_nar; rw [nar_b hx]), aI_upd h0 ⟨by omega, by omega⟩]; exact kk)
end RV
end
section
theorem gI_c {y : MethodName} {bytes : ByteArray} {maxL : Nat} {ret : Option FieldType} (m5 : Cond.code y bytes maxL ret ∈ gW) : GoodIn gW (Cond.code y bytes maxL ret :: gW) := by
  intro w hw
  rcases List.mem_cons.mp hw with rfl | h
  · exact ⟨m5, good_of_word (gW_good m5)⟩
  · exact ⟨h, good_of_word (gW_good h)⟩
theorem gI_V {own : String} {index : Nat} {y : MethodName} {bytes : ByteArray} {maxL : Nat} {ret : Option FieldType} (m1 : Cond.methodLink own index y ∈ gW) (m2 : Cond.instanceMethod y ∈ gW) (m3 : Cond.selects y.cls y y ∈ gW) (m4 : Cond.initialized y.cls ∈ gW) (m5 : Cond.code y bytes maxL ret ∈ gW) : GoodIn gW (wsV own index y.cls y (Cond.code y bytes maxL ret :: gW)) := by
  intro w hw
  simp only [wsV, List.cons_append, List.nil_append] at hw
  rcases List.mem_cons.mp hw with rfl | hw
  · exact ⟨m1, good_of_word (gW_good m1)⟩
  rcases List.mem_cons.mp hw with rfl | hw
  · exact ⟨m2, good_of_word (gW_good m2)⟩
  rcases List.mem_cons.mp hw with rfl | hw
  · exact ⟨m3, good_of_word (gW_good m3)⟩
  rcases List.mem_cons.mp hw with rfl | hw
  · exact ⟨m4, good_of_word (gW_good m4)⟩
  exact gI_c m5 w hw
theorem gI_S {own : String} {index : Nat} {y : MethodName} {bytes : ByteArray} {maxL : Nat} {ret : Option FieldType} (m1 : Cond.methodLink own index y ∈ gW) (m2 : Cond.static y ∈ gW) (m4 : Cond.initialized y.cls ∈ gW) (m5 : Cond.code y bytes maxL ret ∈ gW) : GoodIn gW (va_wsS own index y (Cond.code y bytes maxL ret :: gW)) := by
  intro w hw
  simp only [va_wsS, List.cons_append, List.nil_append] at hw
  rcases List.mem_cons.mp hw with rfl | hw
  · exact ⟨m1, good_of_word (gW_good m1)⟩
  rcases List.mem_cons.mp hw with rfl | hw
  · exact ⟨m2, good_of_word (gW_good m2)⟩
  rcases List.mem_cons.mp hw with rfl | hw
  · exact ⟨m4, good_of_word (gW_good m4)⟩
  exact gI_c m5 w hw
abbrev okY (y : MethodName) (n : Nat) : Prop := y.cls ≠ "java/lang/invoke/MethodHandle" ∧ y.cls ≠ "java/lang/invoke/VarHandle" ∧ (parseMethodDescriptor y.desc).map (fun d => d.parameters.length) = some n
section QC
variable {p : Program} {l : Launch} {e : Env} {R : Room} {s : State} {m : MethodId} {args : Array Value} {below : List Frame} {meth : Method} {c : Code} {H : Heap} {locs : List Loc} {cells slots : Nat} {Q : State → Prop}
variable {cc : ByteArray} {pc : Nat} {ls : Array Slot} {rest st0 As : List Value} {y : MethodName} {bytes : ByteArray} {maxL nL index : Nat} {ret : Option FieldType} {rm : Room} {G : va_G} {z : tz3} {ws wc wr : va_W} {A : Nat → Prop} {own : String} {b : Nat}
theorem va_P.sub' {D : va_G} {cl : List vw_C} {ws wc : va_W} {H : Heap} (h : va_P D cl ws H) (is : List Nat) (hs : is.map (fun i => ws[i]?) = wc.map some) : va_P D cl wc H := by
  intro k q hk
  have h1 : (is.map (fun i => ws[i]?))[k]? = some (some q) := by rw [hs, List.getElem?_map, hk]; rfl
  rw [List.getElem?_map] at h1
  cases hi : is[k]? with
  | none => rw [hi] at h1; cases h1
  | some i => rw [hi] at h1; exact h i q (Option.some.inj h1)
theorem qV_i {post : Int32 → va_W → Prop} (hx : p.tables.exec = Jvm.exec) (hb : c.code = cc) (hml : c.maxLocals = nL) (hown : s.vm.findClass own = some m.cls) (hg : ∀ w ∈ gW, w.before args s = true) (hE : EV G z s) (hA : ∀ q : Nat, s.heap.size ≤ q → A q) (hS : va_S A s.heap H locs) (hP : va_P G cls0 ws H) (hD : va_D A ws)
    (hM : Ki l y bytes maxL ret rm G z (.ref b :: As) wc post) (isC isR : List Nat) (hC : isC.map (fun i => ws[i]?) = wc.map some) (hR : isR.map (fun i => ws[i]?) = wr.map some) (hnC : va_nd isC = true) (hnR : va_nd isR = true) (hdis : ∀ i ∈ isR, i ∉ isC) {ci q0 N : Nat} {T : u_T} {fs : List Value} (hrec : wc[q0]? = some (b, .inr (ci, fs))) (hcls : cls0[ci]? = some (y.cls, T, N))
    (m1 : Cond.methodLink own index y ∈ gW) (m2 : Cond.instanceMethod y ∈ gW) (m3 : Cond.selects y.cls y y ∈ gW) (m4 : Cond.initialized y.cls ∈ gW) (m5 : Cond.code y bytes maxL ret ∈ gW) (hd : okY y As.length) (hRm : rm.frames + 1 ≤ R.frames ∧ 8 + (maxL + 11) + rm.locals ≤ R.locals)
    (hls : ls.size = nL) (hst : st0 = As.reverse ++ .ref b :: rest) (hrest : (rest.map fun v => v.category).sum ≤ 8) (hdg : decode cc pc = .ok (.invokevirtual index, 3)) (hf : cells + rm.cells ≤ R.cells ∧ slots + rm.slots ≤ R.slots)
    (kk : ∀ (r : Int32) (u : va_W) (H1 : Heap) (locs1 : List Loc), post r u → va_P G cls0 (wr ++ u) H1 → va_D A (wr ++ u) → va_S A s.heap H1 locs1 → W p l e R s m args below meth c H1 locs1 (cells + rm.cells) (slots + rm.slots) Q (F0 m (pc + 3) ls (.int r :: rest))) : W p l e R s m args below meth c H locs cells slots Q (F0 m pc ls st0) := by
  subst hst
  have hPc : va_P G cls0 wc H := hP.sub' isC hC
  have hDc : va_D A wc := hD.sub isC hnC hC
  have hFc := va_free (wc := wc) hD hS hA isC hC
  refine va_calli (va_runV (As := As) (rest := rest) ⟨hx, hb, hml, hown, hg⟩ (hM H.size) (cwV As.length hg (gI_V m1 m2 m3 m4 m5) rfl rfl rfl ⟨rfl, hd⟩ hRm) ⟨Pq_blind G z H.size wc _, va_recv hE.1 hPc hcls hrec, Pq_of (ws := ws) hE hPc hDc⟩ rfl rfl hls rfl (lv_room hrest) hdg hf) hS (fun q _ h => hFc q h) hFc (fun r u t H1 locs1 ht hvm hw hB hz1 hk1 hS1 => ?_)
  obtain ⟨hP1, hD1⟩ := hB
  rw [ht] at hP1
  obtain ⟨hP2, hD2⟩ := va_join (wr := wr) (w1 := u) hP hD isC isR hC hR hnR hdis hk1 hFc hP1 hD1
  exact kk r u H1 locs1 hw hP2 hD2 hS1
theorem qV_v {post : va_W → Prop} (hx : p.tables.exec = Jvm.exec) (hb : c.code = cc) (hml : c.maxLocals = nL) (hown : s.vm.findClass own = some m.cls) (hg : ∀ w ∈ gW, w.before args s = true) (hE : EV G z s) (hA : ∀ q : Nat, s.heap.size ≤ q → A q) (hS : va_S A s.heap H locs) (hP : va_P G cls0 ws H) (hD : va_D A ws)
    (hM : Kv l y bytes maxL rm G z (.ref b :: As) wc post) (isC isR : List Nat) (hC : isC.map (fun i => ws[i]?) = wc.map some) (hR : isR.map (fun i => ws[i]?) = wr.map some) (hnC : va_nd isC = true) (hnR : va_nd isR = true) (hdis : ∀ i ∈ isR, i ∉ isC) {ci q0 N : Nat} {T : u_T} {fs : List Value} (hrec : wc[q0]? = some (b, .inr (ci, fs))) (hcls : cls0[ci]? = some (y.cls, T, N))
    (m1 : Cond.methodLink own index y ∈ gW) (m2 : Cond.instanceMethod y ∈ gW) (m3 : Cond.selects y.cls y y ∈ gW) (m4 : Cond.initialized y.cls ∈ gW) (m5 : Cond.code y bytes maxL none ∈ gW) (hd : okY y As.length) (hRm : rm.frames + 1 ≤ R.frames ∧ 8 + (maxL + 11) + rm.locals ≤ R.locals)
    (hls : ls.size = nL) (hst : st0 = As.reverse ++ .ref b :: rest) (hrest : (rest.map fun v => v.category).sum ≤ 8) (hdg : decode cc pc = .ok (.invokevirtual index, 3)) (hf : cells + rm.cells ≤ R.cells ∧ slots + rm.slots ≤ R.slots)
    (kk : ∀ (u : va_W) (H1 : Heap) (locs1 : List Loc), post u → va_P G cls0 (wr ++ u) H1 → va_D A (wr ++ u) → va_S A s.heap H1 locs1 → W p l e R s m args below meth c H1 locs1 (cells + rm.cells) (slots + rm.slots) Q (F0 m (pc + 3) ls rest)) : W p l e R s m args below meth c H locs cells slots Q (F0 m pc ls st0) := by
  subst hst
  have hPc : va_P G cls0 wc H := hP.sub' isC hC
  have hDc : va_D A wc := hD.sub isC hnC hC
  have hFc := va_free (wc := wc) hD hS hA isC hC
  refine va_callv (va_runV (As := As) (rest := rest) ⟨hx, hb, hml, hown, hg⟩ (hM H.size) (cwV As.length hg (gI_V m1 m2 m3 m4 m5) rfl rfl rfl ⟨rfl, hd⟩ hRm) ⟨Pq_blind G z H.size wc _, va_recv hE.1 hPc hcls hrec, Pq_of (ws := ws) hE hPc hDc⟩ rfl rfl hls rfl (lv_room hrest) hdg hf) hS (fun q _ h => hFc q h) hFc (fun u t H1 locs1 ht hvm hw hB hz1 hk1 hS1 => ?_)
  obtain ⟨hP1, hD1⟩ := hB
  rw [ht] at hP1
  obtain ⟨hP2, hD2⟩ := va_join (wr := wr) (w1 := u) hP hD isC isR hC hR hnR hdis hk1 hFc hP1 hD1
  exact kk u H1 locs1 hw hP2 hD2 hS1
theorem qS_i {post : Int32 → va_W → Prop} (hx : p.tables.exec = Jvm.exec) (hb : c.code = cc) (hml : c.maxLocals = nL) (hown : s.vm.findClass own = some m.cls) (hg : ∀ w ∈ gW, w.before args s = true) (hE : EV G z s) (hA : ∀ q : Nat, s.heap.size ≤ q → A q) (hS : va_S A s.heap H locs) (hP : va_P G cls0 ws H) (hD : va_D A ws)
    (hM : Ki l y bytes maxL ret rm G z As wc post) (isC isR : List Nat) (hC : isC.map (fun i => ws[i]?) = wc.map some) (hR : isR.map (fun i => ws[i]?) = wr.map some) (hnC : va_nd isC = true) (hnR : va_nd isR = true) (hdis : ∀ i ∈ isR, i ∉ isC)
    (m1 : Cond.methodLink own index y ∈ gW) (m2 : Cond.static y ∈ gW) (m4 : Cond.initialized y.cls ∈ gW) (m5 : Cond.code y bytes maxL ret ∈ gW) (hd : okY y As.length) (hRm : rm.frames + 1 ≤ R.frames ∧ 8 + (maxL + 11) + rm.locals ≤ R.locals)
    (hls : ls.size = nL) (hst : st0 = As.reverse ++ rest) (hrest : (rest.map fun v => v.category).sum ≤ 8) (hdg : decode cc pc = .ok (.invokestatic index, 3)) (hf : cells + rm.cells ≤ R.cells ∧ slots + rm.slots ≤ R.slots)
    (kk : ∀ (r : Int32) (u : va_W) (H1 : Heap) (locs1 : List Loc), post r u → va_P G cls0 (wr ++ u) H1 → va_D A (wr ++ u) → va_S A s.heap H1 locs1 → W p l e R s m args below meth c H1 locs1 (cells + rm.cells) (slots + rm.slots) Q (F0 m (pc + 3) ls (.int r :: rest))) : W p l e R s m args below meth c H locs cells slots Q (F0 m pc ls st0) := by
  subst hst
  have hPc : va_P G cls0 wc H := hP.sub' isC hC
  have hDc : va_D A wc := hD.sub isC hnC hC
  have hFc := va_free (wc := wc) hD hS hA isC hC
  refine va_calli (va_runS (As := As) (rest := rest) ⟨hx, hb, hml, hown, hg⟩ (hM H.size) (va_cwS As.length hg (gI_S m1 m2 m4 m5) rfl rfl rfl hd hRm) ⟨Pq_blind G z H.size wc _, Pq_of (ws := ws) hE hPc hDc⟩ rfl rfl hls rfl (lv_room hrest) hdg hf) hS (fun q _ h => hFc q h) hFc (fun r u t H1 locs1 ht hvm hw hB hz1 hk1 hS1 => ?_)
  obtain ⟨hP1, hD1⟩ := hB
  rw [ht] at hP1
  obtain ⟨hP2, hD2⟩ := va_join (wr := wr) (w1 := u) hP hD isC isR hC hR hnR hdis hk1 hFc hP1 hD1
  exact kk r u H1 locs1 hw hP2 hD2 hS1
theorem qS_v {post : va_W → Prop} (hx : p.tables.exec = Jvm.exec) (hb : c.code = cc) (hml : c.maxLocals = nL) (hown : s.vm.findClass own = some m.cls) (hg : ∀ w ∈ gW, w.before args s = true) (hE : EV G z s) (hA : ∀ q : Nat, s.heap.size ≤ q → A q) (hS : va_S A s.heap H locs) (hP : va_P G cls0 ws H) (hD : va_D A ws)
    (hM : Kv l y bytes maxL rm G z As wc post) (isC isR : List Nat) (hC : isC.map (fun i => ws[i]?) = wc.map some) (hR : isR.map (fun i => ws[i]?) = wr.map some) (hnC : va_nd isC = true) (hnR : va_nd isR = true) (hdis : ∀ i ∈ isR, i ∉ isC)
    (m1 : Cond.methodLink own index y ∈ gW) (m2 : Cond.static y ∈ gW) (m4 : Cond.initialized y.cls ∈ gW) (m5 : Cond.code y bytes maxL none ∈ gW) (hd : okY y As.length) (hRm : rm.frames + 1 ≤ R.frames ∧ 8 + (maxL + 11) + rm.locals ≤ R.locals)
    (hls : ls.size = nL) (hst : st0 = As.reverse ++ rest) (hrest : (rest.map fun v => v.category).sum ≤ 8) (hdg : decode cc pc = .ok (.invokestatic index, 3)) (hf : cells + rm.cells ≤ R.cells ∧ slots + rm.slots ≤ R.slots)
    (kk : ∀ (u : va_W) (H1 : Heap) (locs1 : List Loc), post u → va_P G cls0 (wr ++ u) H1 → va_D A (wr ++ u) → va_S A s.heap H1 locs1 → W p l e R s m args below meth c H1 locs1 (cells + rm.cells) (slots + rm.slots) Q (F0 m (pc + 3) ls rest)) : W p l e R s m args below meth c H locs cells slots Q (F0 m pc ls st0) := by
  subst hst
  have hPc : va_P G cls0 wc H := hP.sub' isC hC
  have hDc : va_D A wc := hD.sub isC hnC hC
  have hFc := va_free (wc := wc) hD hS hA isC hC
  refine va_callv (va_runS (As := As) (rest := rest) ⟨hx, hb, hml, hown, hg⟩ (hM H.size) (va_cwS As.length hg (gI_S m1 m2 m4 m5) rfl rfl rfl hd hRm) ⟨Pq_blind G z H.size wc _, Pq_of (ws := ws) hE hPc hDc⟩ rfl rfl hls rfl (lv_room hrest) hdg hf) hS (fun q _ h => hFc q h) hFc (fun u t H1 locs1 ht hvm hw hB hz1 hk1 hS1 => ?_)
  obtain ⟨hP1, hD1⟩ := hB
  rw [ht] at hP1
  obtain ⟨hP2, hD2⟩ := va_join (wr := wr) (w1 := u) hP hD isC isR hC hR hnR hdis hk1 hFc hP1 hD1
  exact kk u H1 locs1 hw hP2 hD2 hS1
theorem qI_v {post : va_W → Prop} (hx : p.tables.exec = Jvm.exec) (hb : c.code = cc) (hml : c.maxLocals = nL) (hown : s.vm.findClass own = some m.cls) (hg : ∀ w ∈ gW, w.before args s = true) (hE : EV G z s) (hA : ∀ q : Nat, s.heap.size ≤ q → A q) (hS : va_S A s.heap H locs) (hP : va_P G cls0 ws H) (hD : va_D A ws)
    (hM : Kv l y bytes maxL rm G z (.ref b :: As) wc post) (isC isR : List Nat) (hC : isC.map (fun i => ws[i]?) = wc.map some) (hR : isR.map (fun i => ws[i]?) = wr.map some) (hnC : va_nd isC = true) (hnR : va_nd isR = true) (hdis : ∀ i ∈ isR, i ∉ isC)
    (m1 : Cond.methodLink own index y ∈ gW) (m2 : Cond.instanceMethod y ∈ gW) (m3 : y.name = "<init>") (m4 : Cond.initialized y.cls ∈ gW) (m5 : Cond.code y bytes maxL none ∈ gW) (hd : okY y As.length) (hRm : rm.frames + 1 ≤ R.frames ∧ 8 + (maxL + 11) + rm.locals ≤ R.locals)
    (hls : ls.size = nL) (hst : st0 = As.reverse ++ .ref b :: rest) (hrest : (rest.map fun v => v.category).sum ≤ 8) (hdg : decode cc pc = .ok (.invokespecial index, 3)) (hf : cells + rm.cells ≤ R.cells ∧ slots + rm.slots ≤ R.slots)
    (kk : ∀ (u : va_W) (H1 : Heap) (locs1 : List Loc), post u → va_P G cls0 (wr ++ u) H1 → va_D A (wr ++ u) → va_S A s.heap H1 locs1 → W p l e R s m args below meth c H1 locs1 (cells + rm.cells) (slots + rm.slots) Q (F0 m (pc + 3) ls rest)) : W p l e R s m args below meth c H locs cells slots Q (F0 m pc ls st0) := by
  subst hst
  have hPc : va_P G cls0 wc H := hP.sub' isC hC
  have hDc : va_D A wc := hD.sub isC hnC hC
  have hFc := va_free (wc := wc) hD hS hA isC hC
  refine va_callv (va_runI (As := As) (rest := rest) ⟨hx, hb, hml, hown, hg⟩ (hM H.size) (cwI As.length hg (gI_c m5) rfl rfl rfl (hg _ m4) (hg _ m1) (hg _ m2) m3 hd hRm) ⟨Pq_blind G z H.size wc _, Pq_of (ws := ws) hE hPc hDc⟩ rfl rfl hls rfl (lv_room hrest) hdg hf) hS (fun q _ h => hFc q h) hFc (fun u t H1 locs1 ht hvm hw hB hz1 hk1 hS1 => ?_)
  obtain ⟨hP1, hD1⟩ := hB
  rw [ht] at hP1
  obtain ⟨hP2, hD2⟩ := va_join (wr := wr) (w1 := u) hP hD isC isR hC hR hnR hdis hk1 hFc hP1 hD1
  exact kk u H1 locs1 hw hP2 hD2 hS1
theorem qN_i {post : Int32 → va_W → Prop} (hx : p.tables.exec = Jvm.exec) (hb : c.code = cc) (hml : c.maxLocals = nL) (hown : s.vm.findClass own = some m.cls) (hg : ∀ w ∈ gW, w.before args s = true) (hE : EV G z s) (hA : ∀ q : Nat, s.heap.size ≤ q → A q) (hS : va_S A s.heap H locs) (hP : va_P G cls0 ws H) (hD : va_D A ws)
    (hM : Ki l y bytes maxL ret rm G z As wc post) (isC isR : List Nat) (hC : isC.map (fun i => ws[i]?) = wc.map some) (hR : isR.map (fun i => ws[i]?) = wr.map some) (hnC : va_nd isC = true) (hnR : va_nd isR = true) (hdis : ∀ i ∈ isR, i ∉ isC)
    {host : String} (m1 : Cond.methodLinkNest own index y host ∈ nW) (m2 : Cond.static y ∈ gW) (m4 : Cond.initialized y.cls ∈ gW) (m5 : Cond.code y bytes maxL ret ∈ gW) (hd : okY y As.length) (hRm : rm.frames + 1 ≤ R.frames ∧ 8 + (maxL + 11) + rm.locals ≤ R.locals)
    (hls : ls.size = nL) (hst : st0 = As.reverse ++ rest) (hrest : (rest.map fun v => v.category).sum ≤ 8) (hdg : decode cc pc = .ok (.invokestatic index, 3)) (hf : cells + rm.cells ≤ R.cells ∧ slots + rm.slots ≤ R.slots)
    (kk : ∀ (r : Int32) (u : va_W) (H1 : Heap) (locs1 : List Loc), post r u → va_P G cls0 (wr ++ u) H1 → va_D A (wr ++ u) → va_S A s.heap H1 locs1 → W p l e R s m args below meth c H1 locs1 (cells + rm.cells) (slots + rm.slots) Q (F0 m (pc + 3) ls (.int r :: rest))) : W p l e R s m args below meth c H locs cells slots Q (F0 m pc ls st0) := by
  subst hst
  have hPc : va_P G cls0 wc H := hP.sub' isC hC
  have hDc : va_D A wc := hD.sub isC hnC hC
  have hFc := va_free (wc := wc) hD hS hA isC hC
  refine va_calli (va_runSN (As := As) (rest := rest) ⟨hx, hb, hml, hown, hg⟩ (hM H.size) ⟨va_cnB As.length hg (gI_c m5) rfl rfl rfl (hE.2 _ m1) (hg _ m4) hd hRm, hg _ m2, trivial⟩ ⟨Pq_blind G z H.size wc _, Pq_of (ws := ws) hE hPc hDc⟩ rfl rfl hls rfl (lv_room hrest) hdg hf) hS (fun q _ h => hFc q h) hFc (fun r u t H1 locs1 ht hvm hw hB hz1 hk1 hS1 => ?_)
  obtain ⟨hP1, hD1⟩ := hB
  rw [ht] at hP1
  obtain ⟨hP2, hD2⟩ := va_join (wr := wr) (w1 := u) hP hD isC isR hC hR hnR hdis hk1 hFc hP1 hD1
  exact kk r u H1 locs1 hw hP2 hD2 hS1
theorem qJ_v {post : va_W → Prop} (hx : p.tables.exec = Jvm.exec) (hb : c.code = cc) (hml : c.maxLocals = nL) (hown : s.vm.findClass own = some m.cls) (hg : ∀ w ∈ gW, w.before args s = true) (hE : EV G z s) (hA : ∀ q : Nat, s.heap.size ≤ q → A q) (hS : va_S A s.heap H locs) (hP : va_P G cls0 ws H) (hD : va_D A ws)
    (hM : Kv l y bytes maxL rm G z (.ref b :: As) wc post) (isC isR : List Nat) (hC : isC.map (fun i => ws[i]?) = wc.map some) (hR : isR.map (fun i => ws[i]?) = wr.map some) (hnC : va_nd isC = true) (hnR : va_nd isR = true) (hdis : ∀ i ∈ isR, i ∉ isC)
    {host : String} (m1 : Cond.methodLinkNest own index y host ∈ nW) (m2 : Cond.instanceMethod y ∈ gW) (m3 : y.name = "<init>") (m4 : Cond.initialized y.cls ∈ gW) (m5 : Cond.code y bytes maxL none ∈ gW) (hd : okY y As.length) (hRm : rm.frames + 1 ≤ R.frames ∧ 8 + (maxL + 11) + rm.locals ≤ R.locals)
    (hls : ls.size = nL) (hst : st0 = As.reverse ++ .ref b :: rest) (hrest : (rest.map fun v => v.category).sum ≤ 8) (hdg : decode cc pc = .ok (.invokespecial index, 3)) (hf : cells + rm.cells ≤ R.cells ∧ slots + rm.slots ≤ R.slots)
    (kk : ∀ (u : va_W) (H1 : Heap) (locs1 : List Loc), post u → va_P G cls0 (wr ++ u) H1 → va_D A (wr ++ u) → va_S A s.heap H1 locs1 → W p l e R s m args below meth c H1 locs1 (cells + rm.cells) (slots + rm.slots) Q (F0 m (pc + 3) ls rest)) : W p l e R s m args below meth c H locs cells slots Q (F0 m pc ls st0) := by
  subst hst
  have hPc : va_P G cls0 wc H := hP.sub' isC hC
  have hDc : va_D A wc := hD.sub isC hnC hC
  have hFc := va_free (wc := wc) hD hS hA isC hC
  refine va_callv (va_runIN (As := As) (rest := rest) ⟨hx, hb, hml, hown, hg⟩ (hM H.size) ⟨va_cnB As.length hg (gI_c m5) rfl rfl rfl (hE.2 _ m1) (hg _ m4) hd hRm, m3, hg _ m2⟩ ⟨Pq_blind G z H.size wc _, Pq_of (ws := ws) hE hPc hDc⟩ rfl rfl hls rfl (lv_room hrest) hdg hf) hS (fun q _ h => hFc q h) hFc (fun u t H1 locs1 ht hvm hw hB hz1 hk1 hS1 => ?_)
  obtain ⟨hP1, hD1⟩ := hB
  rw [ht] at hP1
  obtain ⟨hP2, hD2⟩ := va_join (wr := wr) (w1 := u) hP hD isC isR hC hR hnR hdis hk1 hFc hP1 hD1
  exact kk u H1 locs1 hw hP2 hD2 hS1
end QC
end
section
/-- n values of f from place sp on, laid from place dp on -/
def cZ (f : Int → Int) (sp dp n : Int) : Int → Int := fun k => if dp ≤ k ∧ k < dp + n then f (sp + (k - dp)) else f k
theorem cZ_aI {f : Int → Int} {sp dp n : Int} (h1 : 0 ≤ sp) (h2 : 0 ≤ dp) (h3 : 0 ≤ n) : va_cpy (aI f) (aI f) sp.toNat dp.toNat n.toNat = aI (cZ f sp dp n) := by
  funext k
  unfold va_cpy aI cZ
  by_cases h : dp.toNat ≤ k ∧ k < dp.toNat + n.toNat
  · have h' : dp ≤ (k : Int) ∧ (k : Int) < dp + n := by omega
    rw [if_pos h, if_pos h']
    have e : ((sp.toNat + (k - dp.toNat) : Nat) : Int) = sp + ((k : Int) - dp) := by omega
    rw [e]
  · have h' : ¬ (dp ≤ (k : Int) ∧ (k : Int) < dp + n) := by omega
    rw [if_neg h, if_neg h']
theorem iI_nneg {x : Int} (h : 0 ≤ x) (hr : inR x) : ¬ iI x < 0 := by
  intro q
  have := (iI_lt hr iI_r0).mp q
  omega
theorem iI_div {x y : Int} (hx : 0 ≤ x) (hrx : inR x) (hy : 0 < y) (hry : inR y) : iI x / iI y = iI (x / y) := by
  apply Int32.toInt_inj.mp
  have hy1 : iI y ≠ -1 := by
    intro q
    have h1 : (iI y).toInt = (-1 : Int32).toInt := by rw [q]
    rw [iI_t hry] at h1
    have h2 : (-1 : Int32).toInt = -1 := by decide
    omega
  have hd : x / y ≤ x := Int.ediv_le_self y hx
  have hd0 : 0 ≤ x / y := Int.ediv_nonneg hx (by omega)
  rw [Int32.toInt_div_of_ne_right _ _ hy1, iI_t hrx, iI_t hry, iI_t ⟨by omega, by omega⟩, Int.tdiv_eq_ediv_of_nonneg hx]
theorem iI_rem {x y : Int} (hx : 0 ≤ x) (hrx : inR x) (hy : 0 < y) (hry : inR y) : iI x - iI x / iI y * iI y = iI (x % y) := by
  rw [iI_div hx hrx hy hry, iI_mul, iI_sub]
  congr 1
  have := Int.mul_ediv_add_emod x y
  have h2 : x / y * y = y * (x / y) := Int.mul_comm _ _
  omega
theorem fit_b {z : Int} (h : z = 0 ∨ z = 1) : fits .boolean (.int (iI z)) = true := by
  rcases h with rfl | rfl
  · decide +kernel
  · decide +kernel
section RW2
variable {p : Program} {l : Launch} {e : Env} {R : Room} {s : State} {m : MethodId} {args : Array Value} {below : List Frame} {meth : Method} {c : Code} {H : Heap} {locs : List Loc} {cells slots : Nat} {Q : State → Prop}
variable {cc : ByteArray} {pc : Nat} {ls : Array Slot} {rest : List Value}
variable {D : va_G} {A : Nat → Prop} {a : Nat} {z : tz3} {ws : va_W} {H0 : Heap}
theorem rv_idiv (hexec : p.tables.exec = Jvm.exec) (hb : c.code = cc) {x y : Int} (hdg : decode cc pc = .ok (.idiv, 1)) (h0 : 0 ≤ x) (hrx : inR x) (h1 : 0 < y) (hry : inR y)
    (k : W p l e R s m args below meth c H locs cells slots Q (F0 m (pc + 1) ls (.int (iI (x / y)) :: rest))) : W p l e R s m args below meth c H locs cells slots Q (F0 m pc ls (.int (iI y) :: .int (iI x) :: rest)) :=
  lv_idiv hexec hb hdg (fun q => by have := (iI_eq hry iI_r0).mp q; omega) (by rw [iI_div h0 hrx h1 hry]; exact k)
theorem rv_irem (hexec : p.tables.exec = Jvm.exec) (hb : c.code = cc) {x y : Int} (hdg : decode cc pc = .ok (.irem, 1)) (h0 : 0 ≤ x) (hrx : inR x) (h1 : 0 < y) (hry : inR y)
    (k : W p l e R s m args below meth c H locs cells slots Q (F0 m (pc + 1) ls (.int (iI (x % y)) :: rest))) : W p l e R s m args below meth c H locs cells slots Q (F0 m pc ls (.int (iI y) :: .int (iI x) :: rest)) :=
  lv_irem hexec hb hdg (fun q => by have := (iI_eq hry iI_r0).mp q; omega) (by rw [iI_rem h0 hrx h1 hry]; exact k)
theorem rv_copy (hexec : p.tables.exec = Jvm.exec) (hb : c.code = cc) (hml : c.maxLocals = ls.size) {own : String} {index : Nat} (hown : s.vm.findClass own = some m.cls) (hg : ∀ w ∈ gW, w.before args s = true) (m1 : Cond.methodLink own index arraycopyName ∈ gW)
    (hE : EV D z s) (hP : va_P D cls0 ws H) (hD : va_D A ws) (hS : va_S A H0 H locs) (q0 : Nat) {n0 : Nat} {f : Int → Int} (ha : ws[q0]? = some (a, .inl (z.1, n0, .inl (aI f)))) {sp dp n : Int} (h1 : 0 ≤ sp) (h2 : 0 ≤ dp) (h3 : 0 ≤ n) (h4 : sp + n ≤ (n0 : Int)) (h5 : dp + n ≤ (n0 : Int)) (hn0 : (n0 : Int) < 2147483648)
    (hframes : 1 ≤ R.frames) (hlocals : (rest.map fun v => v.category).sum + (nativeFrameWords "java/lang/System" "arraycopy" 5 + 11) ≤ R.locals) (hdg : decode cc pc = .ok (.invokestatic index, 3))
    (kk : ∀ (H1 : Heap) (locs1 : List Loc), va_P D cls0 (ws.set q0 (a, .inl (z.1, n0, .inl (aI (cZ f sp dp n))))) H1 → va_D A (ws.set q0 (a, .inl (z.1, n0, .inl (aI (cZ f sp dp n))))) → va_S A H0 H1 locs1 → W p l e R s m args below meth c H1 locs1 cells slots Q (F0 m (pc + 3) ls rest)) : W p l e R s m args below meth c H locs cells slots Q (F0 m pc ls (.int (iI n) :: .int (iI dp) :: .ref a :: .int (iI sp) :: .ref a :: rest)) := by
  have r1 : inR sp := ⟨by omega, by omega⟩
  have r2 : inR dp := ⟨by omega, by omega⟩
  have r3 : inR n := ⟨by omega, by omega⟩
  have e1 := iI_cl r1
  have e2 := iI_cl r2
  have e3 := iI_cl r3
  refine va_copyi (ty := .int) hexec hb hml hown (hg _ m1) (hg _ na_arraycopyName) (hg _ st_arraycopyName) (hg _ in_System) hE.1 hP hD hS q0 q0 0 0 ha ha rfl rfl rfl (iI_nneg h1 r1) (iI_nneg h2 r2) (iI_nneg h3 r3) (by rw [e1, e3]; omega) (by rw [e2, e3]; omega) (fun _ _ => rfl) hframes hlocals hdg ?_
  rw [e1, e2, e3, cZ_aI h1 h2 h3]
  exact kk
end RW2
end
section
theorem uZ_rng {f : Int → Int} {k v lo hi : Int} (h : ∀ i : Int, lo ≤ f i ∧ f i ≤ hi) (hv : lo ≤ v ∧ v ≤ hi) : ∀ i : Int, lo ≤ uZ f k v i ∧ uZ f k v i ≤ hi := by
  intro i
  unfold uZ
  split
  · exact hv
  · exact h i
theorem uZ_inR {f : Int → Int} {k v : Int} (h : ∀ i : Int, inR (f i)) (hv : inR v) : ∀ i : Int, inR (uZ f k v i) := by
  intro i
  unfold uZ
  split
  · exact hv
  · exact h i
theorem cZ_rng {f : Int → Int} {sp dp n lo hi : Int} (h : ∀ i : Int, lo ≤ f i ∧ f i ≤ hi) : ∀ i : Int, lo ≤ cZ f sp dp n i ∧ cZ f sp dp n i ≤ hi := by
  intro i
  unfold cZ
  split
  · exact h _
  · exact h i
theorem ok_F_fill : okY y_F_fill 2 := by decide +kernel
theorem ok_J_bitCount : okY y_J_bitCount 1 := by decide +kernel
theorem ok_J_numberOfTrailingZeros : okY y_J_numberOfTrailingZeros 1 := by decide +kernel
theorem ok_A_init : okY y_A_init 0 := by decide +kernel
theorem ok_A_isThere : okY y_A_isThere 1 := by decide +kernel
theorem ok_A_clear : okY y_A_clear 1 := by decide +kernel
theorem ok_A_append : okY y_A_append 4 := by decide +kernel
theorem ok_A_hasRoom : okY y_A_hasRoom 1 := by decide +kernel
theorem ok_A_indexOf : okY y_A_indexOf 2 := by decide +kernel
theorem ok_A_haveSameEntries : okY y_A_haveSameEntries 2 := by decide +kernel
theorem ok_A_isSameEntry : okY y_A_isSameEntry 2 := by decide +kernel
theorem ok_A_copyEntries : okY y_A_copyEntries 2 := by decide +kernel
theorem ok_A_has : okY y_A_has 3 := by decide +kernel
theorem ok_A_costOf : okY y_A_costOf 3 := by decide +kernel
theorem ok_K_init : okY y_K_init 0 := by decide +kernel
theorem ok_K_tellInto : okY y_K_tellInto 2 := by decide +kernel
theorem ok_K_hasPort : okY y_K_hasPort 1 := by decide +kernel
theorem ok_K_hasRoomForPort : okY y_K_hasRoomForPort 1 := by decide +kernel
theorem ok_K_setPort : okY y_K_setPort 2 := by decide +kernel
theorem ok_K_removeFriendsOn : okY y_K_removeFriendsOn 1 := by decide +kernel
theorem ok_K_removeFriendsFrom : okY y_K_removeFriendsFrom 2 := by decide +kernel
theorem ok_K_hasFriend : okY y_K_hasFriend 1 := by decide +kernel
theorem ok_K_removeFriend : okY y_K_removeFriend 1 := by decide +kernel
theorem ok_K_hasRoomForFriend : okY y_K_hasRoomForFriend 0 := by decide +kernel
theorem ok_K_addFriend : okY y_K_addFriend 1 := by decide +kernel
theorem ok_Y_init : okY y_Y_init 2 := by decide +kernel
theorem ok_Y_forget : okY y_Y_forget 0 := by decide +kernel
theorem ok_Y_refresh : okY y_Y_refresh 0 := by decide +kernel
theorem ok_Y_beginAnew : okY y_Y_beginAnew 0 := by decide +kernel
theorem ok_Y_nearestUnsettled : okY y_Y_nearestUnsettled 0 := by decide +kernel
theorem ok_Y_goOnFrom : okY y_Y_goOnFrom 1 := by decide +kernel
theorem ok_Y_reach : okY y_Y_reach 3 := by decide +kernel
theorem ok_Y_leastTo : okY y_Y_leastTo 1 := by decide +kernel
theorem ok_Y_sumOver : okY y_Y_sumOver 2 := by decide +kernel
theorem ok_Y_startsTo : okY y_Y_startsTo 1 := by decide +kernel
theorem ok_B_init : okY y_B_init 1 := by decide +kernel
theorem ok_B_isRouter : okY y_B_isRouter 1 := by decide +kernel
theorem ok_B_make : okY y_B_make 0 := by decide +kernel
theorem ok_B_mustMake : okY y_B_mustMake 0 := by decide +kernel
theorem ok_B_ageOf : okY y_B_ageOf 1 := by decide +kernel
theorem ok_B_takeIn : okY y_B_takeIn 3 := by decide +kernel
theorem ok_B_known : okY y_B_known 0 := by decide +kernel
theorem ok_B_time : okY y_B_time 0 := by decide +kernel
theorem ok_B_port : okY y_B_port 2 := by decide +kernel
theorem ok_B_isNet : okY y_B_isNet 1 := by decide +kernel
theorem ok_B_isCost : okY y_B_isCost 1 := by decide +kernel
theorem ok_B_stepOf : okY y_B_stepOf 2 := by decide +kernel
theorem ok_B_friend : okY y_B_friend 3 := by decide +kernel
theorem ok_B_begin : okY y_B_begin 2 := by decide +kernel
theorem ok_B_entry : okY y_B_entry 3 := by decide +kernel
theorem ok_B_come : okY y_B_come 0 := by decide +kernel
theorem ok_B_hearOwn : okY y_B_hearOwn 1 := by decide +kernel
theorem ok_B_hearOther : okY y_B_hearOther 2 := by decide +kernel
theorem ok_B_pass : okY y_B_pass 1 := by decide +kernel
theorem ok_B_takeOutOld : okY y_B_takeOutOld 0 := by decide +kernel
theorem ok_B_number : okY y_B_number 1 := by decide +kernel
theorem ok_B_refuseNoRouter : okY y_B_refuseNoRouter 1 := by decide +kernel
theorem ok_B_told : okY y_B_told 3 := by decide +kernel
theorem ok_B_entries : okY y_B_entries 1 := by decide +kernel
theorem ok_B_age : okY y_B_age 1 := by decide +kernel
theorem ok_B_distance : okY y_B_distance 1 := by decide +kernel
theorem ok_B_cost : okY y_B_cost 1 := by decide +kernel
theorem ok_B_refuseNoNet : okY y_B_refuseNoNet 1 := by decide +kernel
theorem ok_B_firsts : okY y_B_firsts 1 := by decide +kernel
theorem ok_B_first : okY y_B_first 2 := by decide +kernel
theorem ok_B_placeOfBit : okY y_B_placeOfBit 2 := by decide +kernel
theorem ok_M_init : okY y_M_init 1 := by decide +kernel
theorem ok_M_thrown : okY y_M_thrown 0 := by decide +kernel
theorem ok_M_port : okY y_M_port 2 := by decide +kernel
theorem ok_M_in : okY y_M_in 3 := by decide +kernel
theorem ok_M_portCount : okY y_M_portCount 0 := by decide +kernel
theorem ok_M_friend : okY y_M_friend 3 := by decide +kernel
theorem ok_M_friendCount : okY y_M_friendCount 0 := by decide +kernel
theorem ok_M_begin : okY y_M_begin 2 := by decide +kernel
theorem ok_M_entry : okY y_M_entry 3 := by decide +kernel
theorem ok_M_find : okY y_M_find 3 := by decide +kernel
theorem ok_M_add : okY y_M_add 4 := by decide +kernel
theorem ok_M_come : okY y_M_come 0 := by decide +kernel
theorem ok_M_copy : okY y_M_copy 2 := by decide +kernel
theorem ok_M_pass : okY y_M_pass 1 := by decide +kernel
theorem ok_M_make : okY y_M_make 0 := by decide +kernel
theorem ok_M_tell : okY y_M_tell 0 := by decide +kernel
theorem ok_M_isToldNow : okY y_M_isToldNow 0 := by decide +kernel
theorem ok_M_number : okY y_M_number 1 := by decide +kernel
theorem ok_M_told : okY y_M_told 3 := by decide +kernel
theorem ok_M_entries : okY y_M_entries 1 := by decide +kernel
theorem ok_M_age : okY y_M_age 1 := by decide +kernel
theorem ok_M_distance : okY y_M_distance 1 := by decide +kernel
theorem ok_M_check : okY y_M_check 0 := by decide +kernel
theorem ok_M_spread : okY y_M_spread 1 := by decide +kernel
theorem ok_M_cost : okY y_M_cost 1 := by decide +kernel
theorem ok_M_reach : okY y_M_reach 1 := by decide +kernel
theorem ok_M_firsts : okY y_M_firsts 1 := by decide +kernel
theorem ok_M_step : okY y_M_step 2 := by decide +kernel
theorem ok_M_first : okY y_M_first 2 := by decide +kernel
theorem ok_M_known : okY y_M_known 0 := by decide +kernel
theorem ok_M_time : okY y_M_time 0 := by decide +kernel
theorem ok_L_cell : okY y_L_cell 2 := by decide +kernel
theorem ok_L_port : okY y_L_port 4 := by decide +kernel
theorem ok_L_friend : okY y_L_friend 5 := by decide +kernel
theorem ok_L_begin : okY y_L_begin 3 := by decide +kernel
theorem ok_L_entry : okY y_L_entry 5 := by decide +kernel
theorem ok_L_come : okY y_L_come 2 := by decide +kernel
theorem ok_L_pass : okY y_L_pass 3 := by decide +kernel
theorem ok_L_number : okY y_L_number 3 := by decide +kernel
theorem ok_L_told : okY y_L_told 5 := by decide +kernel
theorem ok_L_entries : okY y_L_entries 3 := by decide +kernel
theorem ok_L_age : okY y_L_age 3 := by decide +kernel
theorem ok_L_distance : okY y_L_distance 3 := by decide +kernel
theorem ok_L_cost : okY y_L_cost 3 := by decide +kernel
theorem ok_L_firsts : okY y_L_firsts 3 := by decide +kernel
theorem ok_L_first : okY y_L_first 4 := by decide +kernel
theorem ok_L_law : okY y_L_law 1 := by decide +kernel
end
section
set_option maxHeartbeats 4000000 in
set_option maxRecDepth 100000 in
theorem k_B_isRouter (l : Launch) (G : va_G) (z : tz3) (a : Int) (ha : inR a) : Ki l y_B_isRouter c_B_isRouter 1 (some .boolean) (rmD 0) G z [.int (iI a)] [] (fun r9 u9 => ∃ (rb : Int), u9 = [] ∧ r9 = iI rb ∧ ((rb = 1 ∧ 0 ≤ a ∧ a < 64) ∨ (rb = 0 ∧ ¬ (0 ≤ a ∧ a < 64)))) := by
  refine Ki.of (by decide) (Nat.le_of_ble_eq_true rfl) ?_
  intro p e s m below meth c A hB hP hD ls hl
  obtain ⟨hx, hb, hRt, hml, hown, hlocks, hg, hE, hA, hin⟩ := hB
  have hown : s.vm.findClass R_B = some m.cls := hown
  have hl : lv_has ls 1 [(0, .int (iI a))] := hl
  obtain ⟨H, hH⟩ : ∃ H, H = s.heap := ⟨_, rfl⟩
  have hS : va_S A s.heap H [] := by rw [hH]; exact va_S.rf
  rw [← hH] at hP
  rw [← hH]
  have hP : va_P G cls0 [] H := hP
  have hD : va_D A [] := hD
  refine lv_iload_n hx hb d_B_isRouter_0 rfl (lv_at hl 0 rfl) ?_
  refine rv_if_lt (tgt := 14) hx hb d_B_isRouter_1 (by decide) (by constructor <;> omega) (fun c_1 => ?_) (fun c_1 => ?_)
  · skip
    refine lv_iconst (v := iI 0) hx hb d_B_isRouter_14 rfl ?_
    have hP9 : va_P G cls0 [] H := hP.sub [] rfl
    have hD9 : va_D A [] := hD.sub [] (by decide) rfl
    refine rv_iret hx hb hRt nar_b0 hlocks (Nat.le_refl _) (Nat.le_refl _) hP9 hD9 hS d_B_isRouter_15 ?_
    exact ⟨0, rfl, rfl, (by omega)⟩
  · skip
    refine lv_iload_n hx hb d_B_isRouter_4 rfl (lv_at hl 0 rfl) ?_
    refine lv_bipush (v := iI 64) hx hb d_B_isRouter_5 (by decide +kernel) ?_
    refine rv_icmp_ge (tgt := 14) hx hb d_B_isRouter_7 (by decide) (by constructor <;> omega) ⟨by decide, by decide⟩ (fun c_2 => ?_) (fun c_2 => ?_)
    · skip
      refine lv_iconst (v := iI 0) hx hb d_B_isRouter_14 rfl ?_
      have hP9 : va_P G cls0 [] H := hP.sub [] rfl
      have hD9 : va_D A [] := hD.sub [] (by decide) rfl
      refine rv_iret hx hb hRt nar_b0 hlocks (Nat.le_refl _) (Nat.le_refl _) hP9 hD9 hS d_B_isRouter_15 ?_
      exact ⟨0, rfl, rfl, (by omega)⟩
    · skip
      refine lv_iconst (v := iI 1) hx hb d_B_isRouter_10 rfl ?_
      refine lv_goto (tgt := 15) hx hb d_B_isRouter_11 (by decide) ?_
      have hP9 : va_P G cls0 [] H := hP.sub [] rfl
      have hD9 : va_D A [] := hD.sub [] (by decide) rfl
      refine rv_iret hx hb hRt nar_b1 hlocks (Nat.le_refl _) (Nat.le_refl _) hP9 hD9 hS d_B_isRouter_15 ?_
      exact ⟨1, rfl, rfl, (by omega)⟩
set_option maxHeartbeats 4000000 in
set_option maxRecDepth 100000 in
theorem k_B_isNet (l : Launch) (G : va_G) (z : tz3) (a : Int) (ha : inR a) : Ki l y_B_isNet c_B_isNet 1 (some .boolean) (rmD 0) G z [.int (iI a)] [] (fun r9 u9 => ∃ (rb : Int), u9 = [] ∧ r9 = iI rb ∧ ((rb = 1 ∧ 0 ≤ a ∧ a < 64) ∨ (rb = 0 ∧ ¬ (0 ≤ a ∧ a < 64)))) := by
  refine Ki.of (by decide) (Nat.le_of_ble_eq_true rfl) ?_
  intro p e s m below meth c A hB hP hD ls hl
  obtain ⟨hx, hb, hRt, hml, hown, hlocks, hg, hE, hA, hin⟩ := hB
  have hown : s.vm.findClass R_B = some m.cls := hown
  have hl : lv_has ls 1 [(0, .int (iI a))] := hl
  obtain ⟨H, hH⟩ : ∃ H, H = s.heap := ⟨_, rfl⟩
  have hS : va_S A s.heap H [] := by rw [hH]; exact va_S.rf
  rw [← hH] at hP
  rw [← hH]
  have hP : va_P G cls0 [] H := hP
  have hD : va_D A [] := hD
  refine lv_iload_n hx hb d_B_isNet_0 rfl (lv_at hl 0 rfl) ?_
  refine rv_if_lt (tgt := 14) hx hb d_B_isNet_1 (by decide) (by constructor <;> omega) (fun c_1 => ?_) (fun c_1 => ?_)
  · skip
    refine lv_iconst (v := iI 0) hx hb d_B_isNet_14 rfl ?_
    have hP9 : va_P G cls0 [] H := hP.sub [] rfl
    have hD9 : va_D A [] := hD.sub [] (by decide) rfl
    refine rv_iret hx hb hRt nar_b0 hlocks (Nat.le_refl _) (Nat.le_refl _) hP9 hD9 hS d_B_isNet_15 ?_
    exact ⟨0, rfl, rfl, (by omega)⟩
  · skip
    refine lv_iload_n hx hb d_B_isNet_4 rfl (lv_at hl 0 rfl) ?_
    refine lv_bipush (v := iI 64) hx hb d_B_isNet_5 (by decide +kernel) ?_
    refine rv_icmp_ge (tgt := 14) hx hb d_B_isNet_7 (by decide) (by constructor <;> omega) ⟨by decide, by decide⟩ (fun c_2 => ?_) (fun c_2 => ?_)
    · skip
      refine lv_iconst (v := iI 0) hx hb d_B_isNet_14 rfl ?_
      have hP9 : va_P G cls0 [] H := hP.sub [] rfl
      have hD9 : va_D A [] := hD.sub [] (by decide) rfl
      refine rv_iret hx hb hRt nar_b0 hlocks (Nat.le_refl _) (Nat.le_refl _) hP9 hD9 hS d_B_isNet_15 ?_
      exact ⟨0, rfl, rfl, (by omega)⟩
    · skip
      refine lv_iconst (v := iI 1) hx hb d_B_isNet_10 rfl ?_
      refine lv_goto (tgt := 15) hx hb d_B_isNet_11 (by decide) ?_
      have hP9 : va_P G cls0 [] H := hP.sub [] rfl
      have hD9 : va_D A [] := hD.sub [] (by decide) rfl
      refine rv_iret hx hb hRt nar_b1 hlocks (Nat.le_refl _) (Nat.le_refl _) hP9 hD9 hS d_B_isNet_15 ?_
      exact ⟨1, rfl, rfl, (by omega)⟩
set_option maxHeartbeats 4000000 in
set_option maxRecDepth 100000 in
theorem k_B_isCost (l : Launch) (G : va_G) (z : tz3) (a : Int) (ha : inR a) : Ki l y_B_isCost c_B_isCost 1 (some .boolean) (rmD 0) G z [.int (iI a)] [] (fun r9 u9 => ∃ (rb : Int), u9 = [] ∧ r9 = iI rb ∧ ((rb = 1 ∧ 1 ≤ a ∧ a ≤ 1000) ∨ (rb = 0 ∧ ¬ (1 ≤ a ∧ a ≤ 1000)))) := by
  refine Ki.of (by decide) (Nat.le_of_ble_eq_true rfl) ?_
  intro p e s m below meth c A hB hP hD ls hl
  obtain ⟨hx, hb, hRt, hml, hown, hlocks, hg, hE, hA, hin⟩ := hB
  have hown : s.vm.findClass R_B = some m.cls := hown
  have hl : lv_has ls 1 [(0, .int (iI a))] := hl
  obtain ⟨H, hH⟩ : ∃ H, H = s.heap := ⟨_, rfl⟩
  have hS : va_S A s.heap H [] := by rw [hH]; exact va_S.rf
  rw [← hH] at hP
  rw [← hH]
  have hP : va_P G cls0 [] H := hP
  have hD : va_D A [] := hD
  refine lv_iload_n hx hb d_B_isCost_0 rfl (lv_at hl 0 rfl) ?_
  refine lv_iconst (v := iI 1) hx hb d_B_isCost_1 rfl ?_
  refine rv_icmp_lt (tgt := 16) hx hb d_B_isCost_2 (by decide) (by constructor <;> omega) ⟨by decide, by decide⟩ (fun c_1 => ?_) (fun c_1 => ?_)
  · skip
    refine lv_iconst (v := iI 0) hx hb d_B_isCost_16 rfl ?_
    have hP9 : va_P G cls0 [] H := hP.sub [] rfl
    have hD9 : va_D A [] := hD.sub [] (by decide) rfl
    refine rv_iret hx hb hRt nar_b0 hlocks (Nat.le_refl _) (Nat.le_refl _) hP9 hD9 hS d_B_isCost_17 ?_
    exact ⟨0, rfl, rfl, (by omega)⟩
  · skip
    refine lv_iload_n hx hb d_B_isCost_5 rfl (lv_at hl 0 rfl) ?_
    refine lv_sipush (v := iI 1000) hx hb d_B_isCost_6 (by decide +kernel) ?_
    refine rv_icmp_gt (tgt := 16) hx hb d_B_isCost_9 (by decide) (by constructor <;> omega) ⟨by decide, by decide⟩ (fun c_2 => ?_) (fun c_2 => ?_)
    · skip
      refine lv_iconst (v := iI 0) hx hb d_B_isCost_16 rfl ?_
      have hP9 : va_P G cls0 [] H := hP.sub [] rfl
      have hD9 : va_D A [] := hD.sub [] (by decide) rfl
      refine rv_iret hx hb hRt nar_b0 hlocks (Nat.le_refl _) (Nat.le_refl _) hP9 hD9 hS d_B_isCost_17 ?_
      exact ⟨0, rfl, rfl, (by omega)⟩
    · skip
      refine lv_iconst (v := iI 1) hx hb d_B_isCost_12 rfl ?_
      refine lv_goto (tgt := 17) hx hb d_B_isCost_13 (by decide) ?_
      have hP9 : va_P G cls0 [] H := hP.sub [] rfl
      have hD9 : va_D A [] := hD.sub [] (by decide) rfl
      refine rv_iret hx hb hRt nar_b1 hlocks (Nat.le_refl _) (Nat.le_refl _) hP9 hD9 hS d_B_isCost_17 ?_
      exact ⟨1, rfl, rfl, (by omega)⟩
set_option maxHeartbeats 4000000 in
set_option maxRecDepth 100000 in
theorem k_B_stepOf (l : Launch) (G : va_G) (z : tz3) (a : Int) (b : Int)  : Ki l y_B_stepOf c_B_stepOf 2 (some .int) (rmD 0) G z [.int (iI a), .int (iI b)] [] (fun r9 u9 => u9 = [] ∧ r9 = iI (64 * a + b)) := by
  refine Ki.of (by decide) (Nat.le_of_ble_eq_true rfl) ?_
  intro p e s m below meth c A hB hP hD ls hl
  obtain ⟨hx, hb, hRt, hml, hown, hlocks, hg, hE, hA, hin⟩ := hB
  have hown : s.vm.findClass R_B = some m.cls := hown
  have hl : lv_has ls 2 [(0, .int (iI a)), (1, .int (iI b))] := hl
  obtain ⟨H, hH⟩ : ∃ H, H = s.heap := ⟨_, rfl⟩
  have hS : va_S A s.heap H [] := by rw [hH]; exact va_S.rf
  rw [← hH] at hP
  rw [← hH]
  have hP : va_P G cls0 [] H := hP
  have hD : va_D A [] := hD
  refine lv_bipush (v := iI 64) hx hb d_B_stepOf_0 (by decide +kernel) ?_
  refine lv_iload_n hx hb d_B_stepOf_2 rfl (lv_at hl 0 rfl) ?_
  refine rv_imul hx hb d_B_stepOf_3 ?_
  refine lv_iload_n hx hb d_B_stepOf_4 rfl (lv_at hl 1 rfl) ?_
  refine rv_iadd hx hb d_B_stepOf_5 ?_
  have hP9 : va_P G cls0 [] H := hP.sub [] rfl
  have hD9 : va_D A [] := hD.sub [] (by decide) rfl
  refine rv_iret hx hb hRt (nar_int _) hlocks (Nat.le_refl _) (Nat.le_refl _) hP9 hD9 hS d_B_stepOf_6 ?_
  exact ⟨rfl, congrArg iI (by omega)⟩
set_option maxHeartbeats 4000000 in
set_option maxRecDepth 100000 in
theorem k_A_indexOf (l : Launch) (G : va_G) (z : tz3) (a : Int) (b : Int)  : Ki l y_A_indexOf c_A_indexOf 2 (some .int) (rmD 0) G z [.int (iI a), .int (iI b)] [] (fun r9 u9 => u9 = [] ∧ r9 = iI (a * 24 + b)) := by
  refine Ki.of (by decide) (Nat.le_of_ble_eq_true rfl) ?_
  intro p e s m below meth c A hB hP hD ls hl
  obtain ⟨hx, hb, hRt, hml, hown, hlocks, hg, hE, hA, hin⟩ := hB
  have hown : s.vm.findClass R_A = some m.cls := hown
  have hl : lv_has ls 2 [(0, .int (iI a)), (1, .int (iI b))] := hl
  obtain ⟨H, hH⟩ : ∃ H, H = s.heap := ⟨_, rfl⟩
  have hS : va_S A s.heap H [] := by rw [hH]; exact va_S.rf
  rw [← hH] at hP
  rw [← hH]
  have hP : va_P G cls0 [] H := hP
  have hD : va_D A [] := hD
  refine lv_iload_n hx hb d_A_indexOf_0 rfl (lv_at hl 0 rfl) ?_
  refine lv_bipush (v := iI 24) hx hb d_A_indexOf_1 (by decide +kernel) ?_
  refine rv_imul hx hb d_A_indexOf_3 ?_
  refine lv_iload_n hx hb d_A_indexOf_4 rfl (lv_at hl 1 rfl) ?_
  refine rv_iadd hx hb d_A_indexOf_5 ?_
  have hP9 : va_P G cls0 [] H := hP.sub [] rfl
  have hD9 : va_D A [] := hD.sub [] (by decide) rfl
  refine rv_iret hx hb hRt (nar_int _) hlocks (Nat.le_refl _) (Nat.le_refl _) hP9 hD9 hS d_A_indexOf_6 ?_
  exact ⟨rfl, congrArg iI (by omega)⟩
set_option maxHeartbeats 4000000 in
set_option maxRecDepth 100000 in
theorem k_A_isThere (l : Launch) (G : va_G) (z : tz3) (q : Nat → Nat) (fnu : Int → Int) (place : Int) (hpl : 0 ≤ place ∧ place < 66) (rnu : ∀ i : Int, inR (fnu i)) : Ki l y_A_isThere c_A_isThere 2 (some .boolean) (rmD 0) G z [.ref (q 2), .int (iI place)] [(q 2, .inr (0, [.ref (q 6), .ref (q 7), .ref (q 8), .ref (q 9), .ref (q 10), .ref (q 11)])), (q 6, .inl (z.1, 66, .inl (aI fnu)))] (fun r9 u9 => ∃ (rb : Int), u9 = [(q 2, .inr (0, [.ref (q 6), .ref (q 7), .ref (q 8), .ref (q 9), .ref (q 10), .ref (q 11)])), (q 6, .inl (z.1, 66, .inl (aI fnu)))] ∧ r9 = iI rb ∧ ((rb = 1 ∧ fnu place ≠ -1) ∨ (rb = 0 ∧ ¬ (fnu place ≠ -1)))) := by
  refine Ki.of (by decide) (Nat.le_of_ble_eq_true rfl) ?_
  intro p e s m below meth c A hB hP hD ls hl
  obtain ⟨hx, hb, hRt, hml, hown, hlocks, hg, hE, hA, hin⟩ := hB
  have hown : s.vm.findClass R_A = some m.cls := hown
  have hl : lv_has ls 2 [(0, .ref (q 2)), (1, .int (iI place))] := hl
  obtain ⟨H, hH⟩ : ∃ H, H = s.heap := ⟨_, rfl⟩
  have hS : va_S A s.heap H [] := by rw [hH]; exact va_S.rf
  rw [← hH] at hP
  rw [← hH]
  have hP : va_P G cls0 [(q 2, .inr (0, [.ref (q 6), .ref (q 7), .ref (q 8), .ref (q 9), .ref (q 10), .ref (q 11)])), (q 6, .inl (z.1, 66, .inl (aI fnu)))] H := hP
  have hD : va_D A [(q 2, .inr (0, [.ref (q 6), .ref (q 7), .ref (q 8), .ref (q 9), .ref (q 10), .ref (q 11)])), (q 6, .inl (z.1, 66, .inl (aI fnu)))] := hD
  refine lv_aload_n hx hb d_A_isThere_0 rfl (lv_at hl 0 rfl) ?_
  refine va_get (D := G) (ci := 0) (v := .ref (q 6)) (C := R_A) (T := T_A) (N := 6) hx hb hg iw_A hown hE.1 hP 0 rfl rfl 0 (by decide) (hg _ fl_A_9) (fun _ h9 => h9) rfl d_A_isThere_1 ?_
  refine lv_iload_n hx hb d_A_isThere_4 rfl (lv_at hl 1 rfl) ?_
  refine rv_iald hx hb hE hP 1 rfl (i := place) (by omega) (by omega) (by decide) d_A_isThere_5 ?_
  refine lv_iconst (v := iI (-1)) hx hb d_A_isThere_6 rfl ?_
  refine rv_icmp_eq (tgt := 14) hx hb d_A_isThere_7 (by decide) (by have := rnu place; constructor <;> omega) ⟨by decide, by decide⟩ (fun c_1 => ?_) (fun c_1 => ?_)
  · skip
    refine lv_iconst (v := iI 0) hx hb d_A_isThere_14 rfl ?_
    have hP9 : va_P G cls0 [(q 2, .inr (0, [.ref (q 6), .ref (q 7), .ref (q 8), .ref (q 9), .ref (q 10), .ref (q 11)])), (q 6, .inl (z.1, 66, .inl (aI fnu)))] H := hP.sub [0, 1] rfl
    have hD9 : va_D A [(q 2, .inr (0, [.ref (q 6), .ref (q 7), .ref (q 8), .ref (q 9), .ref (q 10), .ref (q 11)])), (q 6, .inl (z.1, 66, .inl (aI fnu)))] := hD.sub [0, 1] (by decide) rfl
    refine rv_iret hx hb hRt nar_b0 hlocks (Nat.le_refl _) (Nat.le_refl _) hP9 hD9 hS d_A_isThere_15 ?_
    exact ⟨0, rfl, rfl, (by omega)⟩
  · skip
    refine lv_iconst (v := iI 1) hx hb d_A_isThere_10 rfl ?_
    refine lv_goto (tgt := 15) hx hb d_A_isThere_11 (by decide) ?_
    have hP9 : va_P G cls0 [(q 2, .inr (0, [.ref (q 6), .ref (q 7), .ref (q 8), .ref (q 9), .ref (q 10), .ref (q 11)])), (q 6, .inl (z.1, 66, .inl (aI fnu)))] H := hP.sub [0, 1] rfl
    have hD9 : va_D A [(q 2, .inr (0, [.ref (q 6), .ref (q 7), .ref (q 8), .ref (q 9), .ref (q 10), .ref (q 11)])), (q 6, .inl (z.1, 66, .inl (aI fnu)))] := hD.sub [0, 1] (by decide) rfl
    refine rv_iret hx hb hRt nar_b1 hlocks (Nat.le_refl _) (Nat.le_refl _) hP9 hD9 hS d_A_isThere_15 ?_
    exact ⟨1, rfl, rfl, (by omega)⟩
set_option maxHeartbeats 4000000 in
set_option maxRecDepth 100000 in
theorem k_A_hasRoom (l : Launch) (G : va_G) (z : tz3) (q : Nat → Nat) (fsz : Int → Int) (place : Int) (hpl : 0 ≤ place ∧ place < 66) (rsz : ∀ i : Int, 0 ≤ fsz i ∧ fsz i ≤ 24) : Ki l y_A_hasRoom c_A_hasRoom 2 (some .boolean) (rmD 0) G z [.ref (q 2), .int (iI place)] [(q 2, .inr (0, [.ref (q 6), .ref (q 7), .ref (q 8), .ref (q 9), .ref (q 10), .ref (q 11)])), (q 8, .inl (z.1, 66, .inl (aI fsz)))] (fun r9 u9 => ∃ (rb : Int), u9 = [(q 2, .inr (0, [.ref (q 6), .ref (q 7), .ref (q 8), .ref (q 9), .ref (q 10), .ref (q 11)])), (q 8, .inl (z.1, 66, .inl (aI fsz)))] ∧ r9 = iI rb ∧ ((rb = 1 ∧ fsz place < 24) ∨ (rb = 0 ∧ ¬ (fsz place < 24)))) := by
  refine Ki.of (by decide) (Nat.le_of_ble_eq_true rfl) ?_
  intro p e s m below meth c A hB hP hD ls hl
  obtain ⟨hx, hb, hRt, hml, hown, hlocks, hg, hE, hA, hin⟩ := hB
  have hown : s.vm.findClass R_A = some m.cls := hown
  have hl : lv_has ls 2 [(0, .ref (q 2)), (1, .int (iI place))] := hl
  obtain ⟨H, hH⟩ : ∃ H, H = s.heap := ⟨_, rfl⟩
  have hS : va_S A s.heap H [] := by rw [hH]; exact va_S.rf
  rw [← hH] at hP
  rw [← hH]
  have hP : va_P G cls0 [(q 2, .inr (0, [.ref (q 6), .ref (q 7), .ref (q 8), .ref (q 9), .ref (q 10), .ref (q 11)])), (q 8, .inl (z.1, 66, .inl (aI fsz)))] H := hP
  have hD : va_D A [(q 2, .inr (0, [.ref (q 6), .ref (q 7), .ref (q 8), .ref (q 9), .ref (q 10), .ref (q 11)])), (q 8, .inl (z.1, 66, .inl (aI fsz)))] := hD
  refine lv_aload_n hx hb d_A_hasRoom_0 rfl (lv_at hl 0 rfl) ?_
  refine va_get (D := G) (ci := 0) (v := .ref (q 8)) (C := R_A) (T := T_A) (N := 6) hx hb hg iw_A hown hE.1 hP 0 rfl rfl 2 (by decide) (hg _ fl_A_18) (fun _ h9 => h9) rfl d_A_hasRoom_1 ?_
  refine lv_iload_n hx hb d_A_hasRoom_4 rfl (lv_at hl 1 rfl) ?_
  refine rv_iald hx hb hE hP 1 rfl (i := place) (by omega) (by omega) (by decide) d_A_hasRoom_5 ?_
  refine lv_bipush (v := iI 24) hx hb d_A_hasRoom_6 (by decide +kernel) ?_
  refine rv_icmp_ge (tgt := 15) hx hb d_A_hasRoom_8 (by decide) (by have := rsz place; constructor <;> omega) ⟨by decide, by decide⟩ (fun c_1 => ?_) (fun c_1 => ?_)
  · skip
    refine lv_iconst (v := iI 0) hx hb d_A_hasRoom_15 rfl ?_
    have hP9 : va_P G cls0 [(q 2, .inr (0, [.ref (q 6), .ref (q 7), .ref (q 8), .ref (q 9), .ref (q 10), .ref (q 11)])), (q 8, .inl (z.1, 66, .inl (aI fsz)))] H := hP.sub [0, 1] rfl
    have hD9 : va_D A [(q 2, .inr (0, [.ref (q 6), .ref (q 7), .ref (q 8), .ref (q 9), .ref (q 10), .ref (q 11)])), (q 8, .inl (z.1, 66, .inl (aI fsz)))] := hD.sub [0, 1] (by decide) rfl
    refine rv_iret hx hb hRt nar_b0 hlocks (Nat.le_refl _) (Nat.le_refl _) hP9 hD9 hS d_A_hasRoom_16 ?_
    exact ⟨0, rfl, rfl, (by omega)⟩
  · skip
    refine lv_iconst (v := iI 1) hx hb d_A_hasRoom_11 rfl ?_
    refine lv_goto (tgt := 16) hx hb d_A_hasRoom_12 (by decide) ?_
    have hP9 : va_P G cls0 [(q 2, .inr (0, [.ref (q 6), .ref (q 7), .ref (q 8), .ref (q 9), .ref (q 10), .ref (q 11)])), (q 8, .inl (z.1, 66, .inl (aI fsz)))] H := hP.sub [0, 1] rfl
    have hD9 : va_D A [(q 2, .inr (0, [.ref (q 6), .ref (q 7), .ref (q 8), .ref (q 9), .ref (q 10), .ref (q 11)])), (q 8, .inl (z.1, 66, .inl (aI fsz)))] := hD.sub [0, 1] (by decide) rfl
    refine rv_iret hx hb hRt nar_b1 hlocks (Nat.le_refl _) (Nat.le_refl _) hP9 hD9 hS d_A_hasRoom_16 ?_
    exact ⟨1, rfl, rfl, (by omega)⟩
set_option maxHeartbeats 4000000 in
set_option maxRecDepth 100000 in
theorem k_A_clear (l : Launch) (G : va_G) (z : tz3) (q : Nat → Nat) (fnu : Int → Int) (fsz : Int → Int) (place : Int) (hpl : 0 ≤ place ∧ place < 66) : Kv l y_A_clear c_A_clear 2 (rmD 0) G z [.ref (q 2), .int (iI place)] [(q 2, .inr (0, [.ref (q 6), .ref (q 7), .ref (q 8), .ref (q 9), .ref (q 10), .ref (q 11)])), (q 6, .inl (z.1, 66, .inl (aI fnu))), (q 8, .inl (z.1, 66, .inl (aI fsz)))] (fun u9 => u9 = [(q 2, .inr (0, [.ref (q 6), .ref (q 7), .ref (q 8), .ref (q 9), .ref (q 10), .ref (q 11)])), (q 6, .inl (z.1, 66, .inl (aI (uZ fnu place (-1))))), (q 8, .inl (z.1, 66, .inl (aI (uZ fsz place 0))))]) := by
  refine Kv.of (by decide) (Nat.le_of_ble_eq_true rfl) ?_
  intro p e s m below meth c A hB hP hD ls hl
  obtain ⟨hx, hb, hRt, hml, hown, hlocks, hg, hE, hA, hin⟩ := hB
  have hown : s.vm.findClass R_A = some m.cls := hown
  have hl : lv_has ls 2 [(0, .ref (q 2)), (1, .int (iI place))] := hl
  obtain ⟨H, hH⟩ : ∃ H, H = s.heap := ⟨_, rfl⟩
  have hS : va_S A s.heap H [] := by rw [hH]; exact va_S.rf
  rw [← hH] at hP
  rw [← hH]
  have hP : va_P G cls0 [(q 2, .inr (0, [.ref (q 6), .ref (q 7), .ref (q 8), .ref (q 9), .ref (q 10), .ref (q 11)])), (q 6, .inl (z.1, 66, .inl (aI fnu))), (q 8, .inl (z.1, 66, .inl (aI fsz)))] H := hP
  have hD : va_D A [(q 2, .inr (0, [.ref (q 6), .ref (q 7), .ref (q 8), .ref (q 9), .ref (q 10), .ref (q 11)])), (q 6, .inl (z.1, 66, .inl (aI fnu))), (q 8, .inl (z.1, 66, .inl (aI fsz)))] := hD
  refine lv_aload_n hx hb d_A_clear_0 rfl (lv_at hl 0 rfl) ?_
  refine va_get (D := G) (ci := 0) (v := .ref (q 6)) (C := R_A) (T := T_A) (N := 6) hx hb hg iw_A hown hE.1 hP 0 rfl rfl 0 (by decide) (hg _ fl_A_9) (fun _ h9 => h9) rfl d_A_clear_1 ?_
  refine lv_iload_n hx hb d_A_clear_4 rfl (lv_at hl 1 rfl) ?_
  refine lv_iconst (v := iI (-1)) hx hb d_A_clear_5 rfl ?_
  refine rv_iast hx hb hE hP hD hS 1 rfl (i := place) (x := (-1)) (by omega) (by omega) (by decide) d_A_clear_6 (fun H locs hP hD hS => ?_)
  have hP : va_P G cls0 [(q 2, .inr (0, [.ref (q 6), .ref (q 7), .ref (q 8), .ref (q 9), .ref (q 10), .ref (q 11)])), (q 6, .inl (z.1, 66, .inl (aI (uZ fnu place ((-1)))))), (q 8, .inl (z.1, 66, .inl (aI fsz)))] H := hP
  have hD : va_D A [(q 2, .inr (0, [.ref (q 6), .ref (q 7), .ref (q 8), .ref (q 9), .ref (q 10), .ref (q 11)])), (q 6, .inl (z.1, 66, .inl (aI (uZ fnu place ((-1)))))), (q 8, .inl (z.1, 66, .inl (aI fsz)))] := hD
  refine lv_aload_n hx hb d_A_clear_7 rfl (lv_at hl 0 rfl) ?_
  refine va_get (D := G) (ci := 0) (v := .ref (q 8)) (C := R_A) (T := T_A) (N := 6) hx hb hg iw_A hown hE.1 hP 0 rfl rfl 2 (by decide) (hg _ fl_A_18) (fun _ h9 => h9) rfl d_A_clear_8 ?_
  refine lv_iload_n hx hb d_A_clear_11 rfl (lv_at hl 1 rfl) ?_
  refine lv_iconst (v := iI 0) hx hb d_A_clear_12 rfl ?_
  refine rv_iast hx hb hE hP hD hS 2 rfl (i := place) (x := 0) (by omega) (by omega) (by decide) d_A_clear_13 (fun H locs hP hD hS => ?_)
  have hP : va_P G cls0 [(q 2, .inr (0, [.ref (q 6), .ref (q 7), .ref (q 8), .ref (q 9), .ref (q 10), .ref (q 11)])), (q 6, .inl (z.1, 66, .inl (aI (uZ fnu place ((-1)))))), (q 8, .inl (z.1, 66, .inl (aI (uZ fsz place 0))))] H := hP
  have hD : va_D A [(q 2, .inr (0, [.ref (q 6), .ref (q 7), .ref (q 8), .ref (q 9), .ref (q 10), .ref (q 11)])), (q 6, .inl (z.1, 66, .inl (aI (uZ fnu place ((-1)))))), (q 8, .inl (z.1, 66, .inl (aI (uZ fsz place 0))))] := hD
  have hP9 : va_P G cls0 [(q 2, .inr (0, [.ref (q 6), .ref (q 7), .ref (q 8), .ref (q 9), .ref (q 10), .ref (q 11)])), (q 6, .inl (z.1, 66, .inl (aI (uZ fnu place ((-1)))))), (q 8, .inl (z.1, 66, .inl (aI (uZ fsz place 0))))] H := hP.sub [0, 1, 2] rfl
  have hD9 : va_D A [(q 2, .inr (0, [.ref (q 6), .ref (q 7), .ref (q 8), .ref (q 9), .ref (q 10), .ref (q 11)])), (q 6, .inl (z.1, 66, .inl (aI (uZ fnu place ((-1)))))), (q 8, .inl (z.1, 66, .inl (aI (uZ fsz place 0))))] := hD.sub [0, 1, 2] (by decide) rfl
  refine rv_vret hx hb hRt hlocks (Nat.le_refl _) (Nat.le_refl _) hP9 hD9 hS d_A_clear_14 ?_
  exact rfl
end
section
set_option maxHeartbeats 4000000 in
set_option maxRecDepth 100000 in
theorem k_A_append (l : Launch) (G : va_G) (z : tz3) (q : Nat → Nat) (fsz : Int → Int) (frt : Int → Int) (fnt : Int → Int) (fco : Int → Int) (place : Int) (router : Int) (net : Int) (cost : Int) (hpl : 0 ≤ place ∧ place < 66) (rsz : ∀ i : Int, 0 ≤ fsz i ∧ fsz i ≤ 24) (hroom : fsz place < 24) : Kv l y_A_append c_A_append 6 (rmD 1) G z [.ref (q 2), .int (iI place), .int (iI router), .int (iI net), .int (iI cost)] [(q 2, .inr (0, [.ref (q 6), .ref (q 7), .ref (q 8), .ref (q 9), .ref (q 10), .ref (q 11)])), (q 8, .inl (z.1, 66, .inl (aI fsz))), (q 9, .inl (z.1, 1584, .inl (aI frt))), (q 10, .inl (z.1, 1584, .inl (aI fnt))), (q 11, .inl (z.1, 1584, .inl (aI fco)))] (fun u9 => u9 = [(q 2, .inr (0, [.ref (q 6), .ref (q 7), .ref (q 8), .ref (q 9), .ref (q 10), .ref (q 11)])), (q 8, .inl (z.1, 66, .inl (aI (uZ fsz place (fsz place + 1))))), (q 9, .inl (z.1, 1584, .inl (aI (uZ frt (place * 24 + fsz place) router)))), (q 10, .inl (z.1, 1584, .inl (aI (uZ fnt (place * 24 + fsz place) net)))), (q 11, .inl (z.1, 1584, .inl (aI (uZ fco (place * 24 + fsz place) cost))))]) := by
  refine Kv.of (by decide) (Nat.le_of_ble_eq_true rfl) ?_
  intro p e s m below meth c A hB hP hD ls hl
  obtain ⟨hx, hb, hRt, hml, hown, hlocks, hg, hE, hA, hin⟩ := hB
  have hown : s.vm.findClass R_A = some m.cls := hown
  have hl : lv_has ls 6 [(0, .ref (q 2)), (1, .int (iI place)), (2, .int (iI router)), (3, .int (iI net)), (4, .int (iI cost))] := hl
  obtain ⟨H, hH⟩ : ∃ H, H = s.heap := ⟨_, rfl⟩
  have hS : va_S A s.heap H [] := by rw [hH]; exact va_S.rf
  rw [← hH] at hP
  rw [← hH]
  have hP : va_P G cls0 [(q 2, .inr (0, [.ref (q 6), .ref (q 7), .ref (q 8), .ref (q 9), .ref (q 10), .ref (q 11)])), (q 8, .inl (z.1, 66, .inl (aI fsz))), (q 9, .inl (z.1, 1584, .inl (aI frt))), (q 10, .inl (z.1, 1584, .inl (aI fnt))), (q 11, .inl (z.1, 1584, .inl (aI fco)))] H := hP
  have hD : va_D A [(q 2, .inr (0, [.ref (q 6), .ref (q 7), .ref (q 8), .ref (q 9), .ref (q 10), .ref (q 11)])), (q 8, .inl (z.1, 66, .inl (aI fsz))), (q 9, .inl (z.1, 1584, .inl (aI frt))), (q 10, .inl (z.1, 1584, .inl (aI fnt))), (q 11, .inl (z.1, 1584, .inl (aI fco)))] := hD
  refine lv_aload_n hx hb d_A_append_0 rfl (lv_at hl 0 rfl) ?_
  refine lv_iload_n hx hb d_A_append_1 rfl (lv_at hl 1 rfl) ?_
  refine qV_i (As := [.int (iI place)]) (rest := []) (wr := [(q 9, .inl (z.1, 1584, .inl (aI frt))), (q 10, .inl (z.1, 1584, .inl (aI fnt))), (q 11, .inl (z.1, 1584, .inl (aI fco)))]) hx hb hml hown hg hE hA hS hP hD (k_A_hasRoom l G z q fsz place (by omega) (by assumption)) [0, 1] [2, 3, 4] rfl rfl (by decide) (by decide) (by decide) (q0 := 0) rfl rfl ml_A_36 im_A_hasRoom se_A_hasRoom in_A co_A_hasRoom ok_A_hasRoom ⟨Nat.le_of_ble_eq_true rfl, Nat.le_of_ble_eq_true rfl⟩ hl.1 rfl (Nat.le_of_ble_eq_true rfl) d_A_append_2 ⟨Nat.le_of_ble_eq_true rfl, Nat.le_of_ble_eq_true rfl⟩ (fun r9 u9 H locs hw hP hD hS => ?_)
  obtain ⟨rb_1, rfl, rfl, fb_2⟩ := hw
  have hP : va_P G cls0 [(q 9, .inl (z.1, 1584, .inl (aI frt))), (q 10, .inl (z.1, 1584, .inl (aI fnt))), (q 11, .inl (z.1, 1584, .inl (aI fco))), (q 2, .inr (0, [.ref (q 6), .ref (q 7), .ref (q 8), .ref (q 9), .ref (q 10), .ref (q 11)])), (q 8, .inl (z.1, 66, .inl (aI fsz)))] H := hP
  have hD : va_D A [(q 9, .inl (z.1, 1584, .inl (aI frt))), (q 10, .inl (z.1, 1584, .inl (aI fnt))), (q 11, .inl (z.1, 1584, .inl (aI fco))), (q 2, .inr (0, [.ref (q 6), .ref (q 7), .ref (q 8), .ref (q 9), .ref (q 10), .ref (q 11)])), (q 8, .inl (z.1, 66, .inl (aI fsz)))] := hD
  refine rv_if_ne (tgt := 9) hx hb d_A_append_5 (by decide) (by constructor <;> omega) (fun c_3 => ?_) (fun c_3 => ?_)
  · skip
    refine lv_iload_n hx hb d_A_append_9 rfl (lv_at hl 1 rfl) ?_
    refine lv_aload_n hx hb d_A_append_10 rfl (lv_at hl 0 rfl) ?_
    refine va_get (D := G) (ci := 0) (v := .ref (q 8)) (C := R_A) (T := T_A) (N := 6) hx hb hg iw_A hown hE.1 hP 3 rfl rfl 2 (by decide) (hg _ fl_A_18) (fun _ h9 => h9) rfl d_A_append_11 ?_
    refine lv_iload_n hx hb d_A_append_14 rfl (lv_at hl 1 rfl) ?_
    refine rv_iald hx hb hE hP 4 rfl (i := place) (by omega) (by omega) (by decide) d_A_append_15 ?_
    refine qS_i (As := [.int (iI place), .int (iI (fsz place))]) (rest := []) (wr := [(q 9, .inl (z.1, 1584, .inl (aI frt))), (q 10, .inl (z.1, 1584, .inl (aI fnt))), (q 11, .inl (z.1, 1584, .inl (aI fco))), (q 2, .inr (0, [.ref (q 6), .ref (q 7), .ref (q 8), .ref (q 9), .ref (q 10), .ref (q 11)])), (q 8, .inl (z.1, 66, .inl (aI fsz)))]) hx hb hml hown hg hE hA hS hP hD (k_A_indexOf l G z place (fsz place)) [] [0, 1, 2, 3, 4] rfl rfl (by decide) (by decide) (by decide) ml_A_40 st_A_indexOf in_A co_A_indexOf ok_A_indexOf ⟨Nat.le_of_ble_eq_true rfl, Nat.le_of_ble_eq_true rfl⟩ hl.1 rfl (Nat.le_of_ble_eq_true rfl) d_A_append_16 ⟨Nat.le_of_ble_eq_true rfl, Nat.le_of_ble_eq_true rfl⟩ (fun r9 u9 H locs hw hP hD hS => ?_)
    obtain ⟨rfl, rfl⟩ := hw
    have hP : va_P G cls0 [(q 9, .inl (z.1, 1584, .inl (aI frt))), (q 10, .inl (z.1, 1584, .inl (aI fnt))), (q 11, .inl (z.1, 1584, .inl (aI fco))), (q 2, .inr (0, [.ref (q 6), .ref (q 7), .ref (q 8), .ref (q 9), .ref (q 10), .ref (q 11)])), (q 8, .inl (z.1, 66, .inl (aI fsz)))] H := hP
    have hD : va_D A [(q 9, .inl (z.1, 1584, .inl (aI frt))), (q 10, .inl (z.1, 1584, .inl (aI fnt))), (q 11, .inl (z.1, 1584, .inl (aI fco))), (q 2, .inr (0, [.ref (q 6), .ref (q 7), .ref (q 8), .ref (q 9), .ref (q 10), .ref (q 11)])), (q 8, .inl (z.1, 66, .inl (aI fsz)))] := hD
    refine lv_istore (lv' := [(5, .int (iI (place * 24 + (fsz place)))), (0, .ref (q 2)), (1, .int (iI place)), (2, .int (iI router)), (3, .int (iI net)), (4, .int (iI cost))]) hx hb d_A_append_19 hl (by decide) rfl (fun ls hl => ?_)
    refine lv_aload_n hx hb d_A_append_21 rfl (lv_at hl 1 rfl) ?_
    refine va_get (D := G) (ci := 0) (v := .ref (q 9)) (C := R_A) (T := T_A) (N := 6) hx hb hg iw_A hown hE.1 hP 3 rfl rfl 3 (by decide) (hg _ fl_A_21) (fun _ h9 => h9) rfl d_A_append_22 ?_
    refine lv_iload hx hb d_A_append_25 (lv_at hl 0 rfl) ?_
    refine lv_iload_n hx hb d_A_append_27 rfl (lv_at hl 3 rfl) ?_
    refine rv_iast hx hb hE hP hD hS 0 rfl (i := place * 24 + (fsz place)) (x := router) (by have := rsz place; omega) (by have := rsz place; omega) (by decide) d_A_append_28 (fun H locs hP hD hS => ?_)
    have hP : va_P G cls0 [(q 9, .inl (z.1, 1584, .inl (aI (uZ frt (place * 24 + (fsz place)) router)))), (q 10, .inl (z.1, 1584, .inl (aI fnt))), (q 11, .inl (z.1, 1584, .inl (aI fco))), (q 2, .inr (0, [.ref (q 6), .ref (q 7), .ref (q 8), .ref (q 9), .ref (q 10), .ref (q 11)])), (q 8, .inl (z.1, 66, .inl (aI fsz)))] H := hP
    have hD : va_D A [(q 9, .inl (z.1, 1584, .inl (aI (uZ frt (place * 24 + (fsz place)) router)))), (q 10, .inl (z.1, 1584, .inl (aI fnt))), (q 11, .inl (z.1, 1584, .inl (aI fco))), (q 2, .inr (0, [.ref (q 6), .ref (q 7), .ref (q 8), .ref (q 9), .ref (q 10), .ref (q 11)])), (q 8, .inl (z.1, 66, .inl (aI fsz)))] := hD
    refine lv_aload_n hx hb d_A_append_29 rfl (lv_at hl 1 rfl) ?_
    refine va_get (D := G) (ci := 0) (v := .ref (q 10)) (C := R_A) (T := T_A) (N := 6) hx hb hg iw_A hown hE.1 hP 3 rfl rfl 4 (by decide) (hg _ fl_A_24) (fun _ h9 => h9) rfl d_A_append_30 ?_
    refine lv_iload hx hb d_A_append_33 (lv_at hl 0 rfl) ?_
    refine lv_iload_n hx hb d_A_append_35 rfl (lv_at hl 4 rfl) ?_
    refine rv_iast hx hb hE hP hD hS 1 rfl (i := place * 24 + (fsz place)) (x := net) (by have := rsz place; omega) (by have := rsz place; omega) (by decide) d_A_append_36 (fun H locs hP hD hS => ?_)
    have hP : va_P G cls0 [(q 9, .inl (z.1, 1584, .inl (aI (uZ frt (place * 24 + (fsz place)) router)))), (q 10, .inl (z.1, 1584, .inl (aI (uZ fnt (place * 24 + (fsz place)) net)))), (q 11, .inl (z.1, 1584, .inl (aI fco))), (q 2, .inr (0, [.ref (q 6), .ref (q 7), .ref (q 8), .ref (q 9), .ref (q 10), .ref (q 11)])), (q 8, .inl (z.1, 66, .inl (aI fsz)))] H := hP
    have hD : va_D A [(q 9, .inl (z.1, 1584, .inl (aI (uZ frt (place * 24 + (fsz place)) router)))), (q 10, .inl (z.1, 1584, .inl (aI (uZ fnt (place * 24 + (fsz place)) net)))), (q 11, .inl (z.1, 1584, .inl (aI fco))), (q 2, .inr (0, [.ref (q 6), .ref (q 7), .ref (q 8), .ref (q 9), .ref (q 10), .ref (q 11)])), (q 8, .inl (z.1, 66, .inl (aI fsz)))] := hD
    refine lv_aload_n hx hb d_A_append_37 rfl (lv_at hl 1 rfl) ?_
    refine va_get (D := G) (ci := 0) (v := .ref (q 11)) (C := R_A) (T := T_A) (N := 6) hx hb hg iw_A hown hE.1 hP 3 rfl rfl 5 (by decide) (hg _ fl_A_27) (fun _ h9 => h9) rfl d_A_append_38 ?_
    refine lv_iload hx hb d_A_append_41 (lv_at hl 0 rfl) ?_
    refine lv_iload hx hb d_A_append_43 (lv_at hl 5 rfl) ?_
    refine rv_iast hx hb hE hP hD hS 2 rfl (i := place * 24 + (fsz place)) (x := cost) (by have := rsz place; omega) (by have := rsz place; omega) (by decide) d_A_append_45 (fun H locs hP hD hS => ?_)
    have hP : va_P G cls0 [(q 9, .inl (z.1, 1584, .inl (aI (uZ frt (place * 24 + (fsz place)) router)))), (q 10, .inl (z.1, 1584, .inl (aI (uZ fnt (place * 24 + (fsz place)) net)))), (q 11, .inl (z.1, 1584, .inl (aI (uZ fco (place * 24 + (fsz place)) cost)))), (q 2, .inr (0, [.ref (q 6), .ref (q 7), .ref (q 8), .ref (q 9), .ref (q 10), .ref (q 11)])), (q 8, .inl (z.1, 66, .inl (aI fsz)))] H := hP
    have hD : va_D A [(q 9, .inl (z.1, 1584, .inl (aI (uZ frt (place * 24 + (fsz place)) router)))), (q 10, .inl (z.1, 1584, .inl (aI (uZ fnt (place * 24 + (fsz place)) net)))), (q 11, .inl (z.1, 1584, .inl (aI (uZ fco (place * 24 + (fsz place)) cost)))), (q 2, .inr (0, [.ref (q 6), .ref (q 7), .ref (q 8), .ref (q 9), .ref (q 10), .ref (q 11)])), (q 8, .inl (z.1, 66, .inl (aI fsz)))] := hD
    refine lv_aload_n hx hb d_A_append_46 rfl (lv_at hl 1 rfl) ?_
    refine va_get (D := G) (ci := 0) (v := .ref (q 8)) (C := R_A) (T := T_A) (N := 6) hx hb hg iw_A hown hE.1 hP 3 rfl rfl 2 (by decide) (hg _ fl_A_18) (fun _ h9 => h9) rfl d_A_append_47 ?_
    refine lv_iload_n hx hb d_A_append_50 rfl (lv_at hl 2 rfl) ?_
    refine lv_dup2_11 hx hb d_A_append_51 rfl rfl ?_
    refine rv_iald hx hb hE hP 4 rfl (i := place) (by omega) (by omega) (by decide) d_A_append_52 ?_
    refine lv_iconst (v := iI 1) hx hb d_A_append_53 rfl ?_
    refine rv_iadd hx hb d_A_append_54 ?_
    refine rv_iast hx hb hE hP hD hS 4 rfl (i := place) (x := (fsz place) + 1) (by omega) (by omega) (by decide) d_A_append_55 (fun H locs hP hD hS => ?_)
    have hP : va_P G cls0 [(q 9, .inl (z.1, 1584, .inl (aI (uZ frt (place * 24 + (fsz place)) router)))), (q 10, .inl (z.1, 1584, .inl (aI (uZ fnt (place * 24 + (fsz place)) net)))), (q 11, .inl (z.1, 1584, .inl (aI (uZ fco (place * 24 + (fsz place)) cost)))), (q 2, .inr (0, [.ref (q 6), .ref (q 7), .ref (q 8), .ref (q 9), .ref (q 10), .ref (q 11)])), (q 8, .inl (z.1, 66, .inl (aI (uZ fsz place ((fsz place) + 1)))))] H := hP
    have hD : va_D A [(q 9, .inl (z.1, 1584, .inl (aI (uZ frt (place * 24 + (fsz place)) router)))), (q 10, .inl (z.1, 1584, .inl (aI (uZ fnt (place * 24 + (fsz place)) net)))), (q 11, .inl (z.1, 1584, .inl (aI (uZ fco (place * 24 + (fsz place)) cost)))), (q 2, .inr (0, [.ref (q 6), .ref (q 7), .ref (q 8), .ref (q 9), .ref (q 10), .ref (q 11)])), (q 8, .inl (z.1, 66, .inl (aI (uZ fsz place ((fsz place) + 1)))))] := hD
    have hP9 : va_P G cls0 [(q 2, .inr (0, [.ref (q 6), .ref (q 7), .ref (q 8), .ref (q 9), .ref (q 10), .ref (q 11)])), (q 8, .inl (z.1, 66, .inl (aI (uZ fsz place ((fsz place) + 1))))), (q 9, .inl (z.1, 1584, .inl (aI (uZ frt (place * 24 + (fsz place)) router)))), (q 10, .inl (z.1, 1584, .inl (aI (uZ fnt (place * 24 + (fsz place)) net)))), (q 11, .inl (z.1, 1584, .inl (aI (uZ fco (place * 24 + (fsz place)) cost))))] H := hP.sub [3, 4, 0, 1, 2] rfl
    have hD9 : va_D A [(q 2, .inr (0, [.ref (q 6), .ref (q 7), .ref (q 8), .ref (q 9), .ref (q 10), .ref (q 11)])), (q 8, .inl (z.1, 66, .inl (aI (uZ fsz place ((fsz place) + 1))))), (q 9, .inl (z.1, 1584, .inl (aI (uZ frt (place * 24 + (fsz place)) router)))), (q 10, .inl (z.1, 1584, .inl (aI (uZ fnt (place * 24 + (fsz place)) net)))), (q 11, .inl (z.1, 1584, .inl (aI (uZ fco (place * 24 + (fsz place)) cost))))] := hD.sub [3, 4, 0, 1, 2] (by decide) rfl
    refine rv_vret hx hb hRt hlocks (Nat.le_refl _) (Nat.le_refl _) hP9 hD9 hS d_A_append_56 ?_
    exact rfl
  · exact absurd c_3 (by omega)
set_option maxHeartbeats 4000000 in
set_option maxRecDepth 100000 in
theorem k_A_costOf (l : Launch) (G : va_G) (z : tz3) (q : Nat → Nat) (fsz : Int → Int) (frt : Int → Int) (fnt : Int → Int) (fco : Int → Int) (place : Int) (router : Int) (net : Int) (hpl : 0 ≤ place ∧ place < 66) (rsz : ∀ i : Int, 0 ≤ fsz i ∧ fsz i ≤ 24) (rrt : ∀ i : Int, -1 ≤ frt i ∧ frt i ≤ 63) (rnt : ∀ i : Int, 0 ≤ fnt i ∧ fnt i ≤ 63) (rco : ∀ i : Int, 0 ≤ fco i ∧ fco i ≤ 1000) (hr0 : inR router) (hn0 : inR net) : Ki l y_A_costOf c_A_costOf 6 (some .int) (rmD 1) G z [.ref (q 2), .int (iI place), .int (iI router), .int (iI net)] [(q 2, .inr (0, [.ref (q 6), .ref (q 7), .ref (q 8), .ref (q 9), .ref (q 10), .ref (q 11)])), (q 8, .inl (z.1, 66, .inl (aI fsz))), (q 9, .inl (z.1, 1584, .inl (aI frt))), (q 10, .inl (z.1, 1584, .inl (aI fnt))), (q 11, .inl (z.1, 1584, .inl (aI fco)))] (fun r9 u9 => ∃ (rv : Int), u9 = [(q 2, .inr (0, [.ref (q 6), .ref (q 7), .ref (q 8), .ref (q 9), .ref (q 10), .ref (q 11)])), (q 8, .inl (z.1, 66, .inl (aI fsz))), (q 9, .inl (z.1, 1584, .inl (aI frt))), (q 10, .inl (z.1, 1584, .inl (aI fnt))), (q 11, .inl (z.1, 1584, .inl (aI fco)))] ∧ r9 = iI rv ∧ ((rv = -1 ∧ ∀ k : Int, 0 ≤ k → k < fsz place → ¬ (frt (place * 24 + k) = router ∧ fnt (place * 24 + k) = net)) ∨ (∃ k : Int, 0 ≤ k ∧ k < fsz place ∧ frt (place * 24 + k) = router ∧ fnt (place * 24 + k) = net ∧ rv = fco (place * 24 + k)))) := by
  refine Ki.of (by decide) (Nat.le_of_ble_eq_true rfl) ?_
  intro p e s m below meth c A hB hP hD ls hl
  obtain ⟨hx, hb, hRt, hml, hown, hlocks, hg, hE, hA, hin⟩ := hB
  have hown : s.vm.findClass R_A = some m.cls := hown
  have hl : lv_has ls 6 [(0, .ref (q 2)), (1, .int (iI place)), (2, .int (iI router)), (3, .int (iI net))] := hl
  obtain ⟨H, hH⟩ : ∃ H, H = s.heap := ⟨_, rfl⟩
  have hS : va_S A s.heap H [] := by rw [hH]; exact va_S.rf
  rw [← hH] at hP
  rw [← hH]
  have hP : va_P G cls0 [(q 2, .inr (0, [.ref (q 6), .ref (q 7), .ref (q 8), .ref (q 9), .ref (q 10), .ref (q 11)])), (q 8, .inl (z.1, 66, .inl (aI fsz))), (q 9, .inl (z.1, 1584, .inl (aI frt))), (q 10, .inl (z.1, 1584, .inl (aI fnt))), (q 11, .inl (z.1, 1584, .inl (aI fco)))] H := hP
  have hD : va_D A [(q 2, .inr (0, [.ref (q 6), .ref (q 7), .ref (q 8), .ref (q 9), .ref (q 10), .ref (q 11)])), (q 8, .inl (z.1, 66, .inl (aI fsz))), (q 9, .inl (z.1, 1584, .inl (aI frt))), (q 10, .inl (z.1, 1584, .inl (aI fnt))), (q 11, .inl (z.1, 1584, .inl (aI fco)))] := hD
  refine lv_iload_n hx hb d_A_costOf_0 rfl (lv_at hl 1 rfl) ?_
  refine lv_aload_n hx hb d_A_costOf_1 rfl (lv_at hl 0 rfl) ?_
  refine va_get (D := G) (ci := 0) (v := .ref (q 8)) (C := R_A) (T := T_A) (N := 6) hx hb hg iw_A hown hE.1 hP 0 rfl rfl 2 (by decide) (hg _ fl_A_18) (fun _ h9 => h9) rfl d_A_costOf_2 ?_
  refine lv_iload_n hx hb d_A_costOf_5 rfl (lv_at hl 1 rfl) ?_
  refine rv_iald hx hb hE hP 1 rfl (i := place) (by omega) (by omega) (by decide) d_A_costOf_6 ?_
  refine qS_i (As := [.int (iI place), .int (iI (fsz place))]) (rest := []) (wr := [(q 2, .inr (0, [.ref (q 6), .ref (q 7), .ref (q 8), .ref (q 9), .ref (q 10), .ref (q 11)])), (q 8, .inl (z.1, 66, .inl (aI fsz))), (q 9, .inl (z.1, 1584, .inl (aI frt))), (q 10, .inl (z.1, 1584, .inl (aI fnt))), (q 11, .inl (z.1, 1584, .inl (aI fco)))]) hx hb hml hown hg hE hA hS hP hD (k_A_indexOf l G z place (fsz place)) [] [0, 1, 2, 3, 4] rfl rfl (by decide) (by decide) (by decide) ml_A_40 st_A_indexOf in_A co_A_indexOf ok_A_indexOf ⟨Nat.le_of_ble_eq_true rfl, Nat.le_of_ble_eq_true rfl⟩ hl.1 rfl (Nat.le_of_ble_eq_true rfl) d_A_costOf_7 ⟨Nat.le_of_ble_eq_true rfl, Nat.le_of_ble_eq_true rfl⟩ (fun r9 u9 H locs hw hP hD hS => ?_)
  obtain ⟨rfl, rfl⟩ := hw
  have hP : va_P G cls0 [(q 2, .inr (0, [.ref (q 6), .ref (q 7), .ref (q 8), .ref (q 9), .ref (q 10), .ref (q 11)])), (q 8, .inl (z.1, 66, .inl (aI fsz))), (q 9, .inl (z.1, 1584, .inl (aI frt))), (q 10, .inl (z.1, 1584, .inl (aI fnt))), (q 11, .inl (z.1, 1584, .inl (aI fco)))] H := hP
  have hD : va_D A [(q 2, .inr (0, [.ref (q 6), .ref (q 7), .ref (q 8), .ref (q 9), .ref (q 10), .ref (q 11)])), (q 8, .inl (z.1, 66, .inl (aI fsz))), (q 9, .inl (z.1, 1584, .inl (aI frt))), (q 10, .inl (z.1, 1584, .inl (aI fnt))), (q 11, .inl (z.1, 1584, .inl (aI fco)))] := hD
  refine lv_istore (lv' := [(4, .int (iI (place * 24 + (fsz place)))), (0, .ref (q 2)), (1, .int (iI place)), (2, .int (iI router)), (3, .int (iI net))]) hx hb d_A_costOf_10 hl (by decide) rfl (fun ls hl => ?_)
  refine lv_iload_n hx hb d_A_costOf_12 rfl (lv_at hl 2 rfl) ?_
  refine lv_iconst (v := iI 0) hx hb d_A_costOf_13 rfl ?_
  refine qS_i (As := [.int (iI place), .int (iI 0)]) (rest := []) (wr := [(q 2, .inr (0, [.ref (q 6), .ref (q 7), .ref (q 8), .ref (q 9), .ref (q 10), .ref (q 11)])), (q 8, .inl (z.1, 66, .inl (aI fsz))), (q 9, .inl (z.1, 1584, .inl (aI frt))), (q 10, .inl (z.1, 1584, .inl (aI fnt))), (q 11, .inl (z.1, 1584, .inl (aI fco)))]) hx hb hml hown hg hE hA hS hP hD (k_A_indexOf l G z place 0) [] [0, 1, 2, 3, 4] rfl rfl (by decide) (by decide) (by decide) ml_A_40 st_A_indexOf in_A co_A_indexOf ok_A_indexOf ⟨Nat.le_of_ble_eq_true rfl, Nat.le_of_ble_eq_true rfl⟩ hl.1 rfl (Nat.le_of_ble_eq_true rfl) d_A_costOf_14 ⟨Nat.le_of_ble_eq_true rfl, Nat.le_of_ble_eq_true rfl⟩ (fun r9 u9 H locs hw hP hD hS => ?_)
  obtain ⟨rfl, rfl⟩ := hw
  have hP : va_P G cls0 [(q 2, .inr (0, [.ref (q 6), .ref (q 7), .ref (q 8), .ref (q 9), .ref (q 10), .ref (q 11)])), (q 8, .inl (z.1, 66, .inl (aI fsz))), (q 9, .inl (z.1, 1584, .inl (aI frt))), (q 10, .inl (z.1, 1584, .inl (aI fnt))), (q 11, .inl (z.1, 1584, .inl (aI fco)))] H := hP
  have hD : va_D A [(q 2, .inr (0, [.ref (q 6), .ref (q 7), .ref (q 8), .ref (q 9), .ref (q 10), .ref (q 11)])), (q 8, .inl (z.1, 66, .inl (aI fsz))), (q 9, .inl (z.1, 1584, .inl (aI frt))), (q 10, .inl (z.1, 1584, .inl (aI fnt))), (q 11, .inl (z.1, 1584, .inl (aI fco)))] := hD
  refine lv_istore (lv' := [(5, .int (iI (place * 24 + 0))), (4, .int (iI (place * 24 + (fsz place)))), (0, .ref (q 2)), (1, .int (iI place)), (2, .int (iI router)), (3, .int (iI net))]) hx hb d_A_costOf_17 hl (by decide) rfl (fun ls hl => ?_)
  have L19 : ∀ n9 : Nat, ∀ (ix : Int), (place * 24 + fsz place - ix : Int).toNat < n9 → (place * 24 ≤ ix ∧ ix ≤ place * 24 + fsz place) → (∀ k : Int, 0 ≤ k → place * 24 + k < ix → ¬ (frt (place * 24 + k) = router ∧ fnt (place * 24 + k) = net)) → ∀ (H : Heap) (locs : List Loc), va_P G cls0 [(q 2, .inr (0, [.ref (q 6), .ref (q 7), .ref (q 8), .ref (q 9), .ref (q 10), .ref (q 11)])), (q 8, .inl (z.1, 66, .inl (aI fsz))), (q 9, .inl (z.1, 1584, .inl (aI frt))), (q 10, .inl (z.1, 1584, .inl (aI fnt))), (q 11, .inl (z.1, 1584, .inl (aI fco)))] H → va_D A [(q 2, .inr (0, [.ref (q 6), .ref (q 7), .ref (q 8), .ref (q 9), .ref (q 10), .ref (q 11)])), (q 8, .inl (z.1, 66, .inl (aI fsz))), (q 9, .inl (z.1, 1584, .inl (aI frt))), (q 10, .inl (z.1, 1584, .inl (aI fnt))), (q 11, .inl (z.1, 1584, .inl (aI fco)))] → va_S A s.heap H locs → ∀ ls : Array Slot, lv_has ls 6 [(0, .ref (q 2)), (1, .int (iI place)), (2, .int (iI router)), (3, .int (iI net)), (4, .int (iI (place * 24 + fsz place))), (5, .int (iI ix))] → W p l e (rmD 1) s m [.ref (q 2), .int (iI place), .int (iI router), .int (iI net)].toArray below meth c H locs 0 0 (Zi below [.ref (q 2), .int (iI place), .int (iI router), .int (iI net)].toArray s (rmD 1) G A (fun r9 u9 => ∃ (rv : Int), u9 = [(q 2, .inr (0, [.ref (q 6), .ref (q 7), .ref (q 8), .ref (q 9), .ref (q 10), .ref (q 11)])), (q 8, .inl (z.1, 66, .inl (aI fsz))), (q 9, .inl (z.1, 1584, .inl (aI frt))), (q 10, .inl (z.1, 1584, .inl (aI fnt))), (q 11, .inl (z.1, 1584, .inl (aI fco)))] ∧ r9 = iI rv ∧ ((rv = -1 ∧ ∀ k : Int, 0 ≤ k → k < fsz place → ¬ (frt (place * 24 + k) = router ∧ fnt (place * 24 + k) = net)) ∨ (∃ k : Int, 0 ≤ k ∧ k < fsz place ∧ frt (place * 24 + k) = router ∧ fnt (place * 24 + k) = net ∧ rv = fco (place * 24 + k))))) (F0 m 19 ls []) := by
    intro n9
    induction n9 with
    | zero => intro ix hmu; exact absurd hmu (Nat.not_lt_zero _)
    | succ n9 ih =>
      intro ix hmu h1 hno H locs hP hD hS ls hl
      refine lv_iload hx hb d_A_costOf_19 (lv_at hl 5 rfl) ?_
      refine lv_iload hx hb d_A_costOf_21 (lv_at hl 4 rfl) ?_
      refine rv_icmp_ge (tgt := 62) hx hb d_A_costOf_23 (by decide) (by have := rsz place; constructor <;> omega) (by have := rsz place; have := rsz place; constructor <;> omega) (fun c_1 => ?_) (fun c_1 => ?_)
      · skip
        refine lv_iconst (v := iI (-1)) hx hb d_A_costOf_62 rfl ?_
        have hP9 : va_P G cls0 [(q 2, .inr (0, [.ref (q 6), .ref (q 7), .ref (q 8), .ref (q 9), .ref (q 10), .ref (q 11)])), (q 8, .inl (z.1, 66, .inl (aI fsz))), (q 9, .inl (z.1, 1584, .inl (aI frt))), (q 10, .inl (z.1, 1584, .inl (aI fnt))), (q 11, .inl (z.1, 1584, .inl (aI fco)))] H := hP.sub [0, 1, 2, 3, 4] rfl
        have hD9 : va_D A [(q 2, .inr (0, [.ref (q 6), .ref (q 7), .ref (q 8), .ref (q 9), .ref (q 10), .ref (q 11)])), (q 8, .inl (z.1, 66, .inl (aI fsz))), (q 9, .inl (z.1, 1584, .inl (aI frt))), (q 10, .inl (z.1, 1584, .inl (aI fnt))), (q 11, .inl (z.1, 1584, .inl (aI fco)))] := hD.sub [0, 1, 2, 3, 4] (by decide) rfl
        refine rv_iret hx hb hRt (nar_int _) hlocks (Nat.le_refl _) (Nat.le_refl _) hP9 hD9 hS d_A_costOf_63 ?_
        exact ⟨((-1)), rfl, rfl, (Or.inl ⟨rfl, fun k h0 h1 => hno k h0 (by omega)⟩)⟩
      · skip
        refine lv_aload_n hx hb d_A_costOf_26 rfl (lv_at hl 0 rfl) ?_
        refine va_get (D := G) (ci := 0) (v := .ref (q 9)) (C := R_A) (T := T_A) (N := 6) hx hb hg iw_A hown hE.1 hP 0 rfl rfl 3 (by decide) (hg _ fl_A_21) (fun _ h9 => h9) rfl d_A_costOf_27 ?_
        refine lv_iload hx hb d_A_costOf_30 (lv_at hl 5 rfl) ?_
        refine rv_iald hx hb hE hP 2 rfl (i := ix) (by have := rsz place; omega) (by have := rsz place; omega) (by decide) d_A_costOf_32 ?_
        refine lv_iload_n hx hb d_A_costOf_33 rfl (lv_at hl 2 rfl) ?_
        refine rv_icmp_ne (tgt := 56) hx hb d_A_costOf_34 (by decide) (by have := rrt ix; constructor <;> omega) (by constructor <;> omega) (fun c_2 => ?_) (fun c_2 => ?_)
        · skip
          have mno : ¬ (frt ix = router ∧ fnt ix = net) := fun q => c_2 q.1
          refine lv_iinc (v := iI (ix + 1)) (lv' := [(5, .int (iI (ix + 1))), (0, .ref (q 2)), (1, .int (iI place)), (2, .int (iI router)), (3, .int (iI net)), (4, .int (iI (place * 24 + fsz place)))]) hx hb d_A_costOf_56 hl (k := 5) rfl (iI_add _ _) (by decide) rfl (fun ls hl => ?_)
          refine lv_goto (tgt := 19) hx hb d_A_costOf_59 (by decide) ?_
          exact ih (ix + 1) (by have := rsz place; omega) (by have := rsz place; omega) (fun k h0 h1 => if e : place * 24 + k = ix then (by rw [e]; exact mno) else hno k h0 (by omega)) H _ (hP.sub [0, 1, 2, 3, 4] rfl) (hD.sub [0, 1, 2, 3, 4] (by decide) rfl) hS ls (lv_sub hl [1, 2, 3, 4, 5, 0] rfl)
        · skip
          have m1 := c_2
          refine lv_aload_n hx hb d_A_costOf_37 rfl (lv_at hl 0 rfl) ?_
          refine va_get (D := G) (ci := 0) (v := .ref (q 10)) (C := R_A) (T := T_A) (N := 6) hx hb hg iw_A hown hE.1 hP 0 rfl rfl 4 (by decide) (hg _ fl_A_24) (fun _ h9 => h9) rfl d_A_costOf_38 ?_
          refine lv_iload hx hb d_A_costOf_41 (lv_at hl 5 rfl) ?_
          refine rv_iald hx hb hE hP 3 rfl (i := ix) (by have := rsz place; omega) (by have := rsz place; omega) (by decide) d_A_costOf_43 ?_
          refine lv_iload_n hx hb d_A_costOf_44 rfl (lv_at hl 3 rfl) ?_
          refine rv_icmp_ne (tgt := 56) hx hb d_A_costOf_45 (by decide) (by have := rnt ix; constructor <;> omega) (by constructor <;> omega) (fun c_3 => ?_) (fun c_3 => ?_)
          · skip
            have mno : ¬ (frt ix = router ∧ fnt ix = net) := fun q => c_3 q.2
            refine lv_iinc (v := iI (ix + 1)) (lv' := [(5, .int (iI (ix + 1))), (0, .ref (q 2)), (1, .int (iI place)), (2, .int (iI router)), (3, .int (iI net)), (4, .int (iI (place * 24 + fsz place)))]) hx hb d_A_costOf_56 hl (k := 5) rfl (iI_add _ _) (by decide) rfl (fun ls hl => ?_)
            refine lv_goto (tgt := 19) hx hb d_A_costOf_59 (by decide) ?_
            exact ih (ix + 1) (by have := rsz place; omega) (by have := rsz place; omega) (fun k h0 h1 => if e : place * 24 + k = ix then (by rw [e]; exact mno) else hno k h0 (by omega)) H _ (hP.sub [0, 1, 2, 3, 4] rfl) (hD.sub [0, 1, 2, 3, 4] (by decide) rfl) hS ls (lv_sub hl [1, 2, 3, 4, 5, 0] rfl)
          · skip
            have m2 := c_3
            refine lv_aload_n hx hb d_A_costOf_48 rfl (lv_at hl 0 rfl) ?_
            refine va_get (D := G) (ci := 0) (v := .ref (q 11)) (C := R_A) (T := T_A) (N := 6) hx hb hg iw_A hown hE.1 hP 0 rfl rfl 5 (by decide) (hg _ fl_A_27) (fun _ h9 => h9) rfl d_A_costOf_49 ?_
            refine lv_iload hx hb d_A_costOf_52 (lv_at hl 5 rfl) ?_
            refine rv_iald hx hb hE hP 4 rfl (i := ix) (by have := rsz place; omega) (by have := rsz place; omega) (by decide) d_A_costOf_54 ?_
            have hP9 : va_P G cls0 [(q 2, .inr (0, [.ref (q 6), .ref (q 7), .ref (q 8), .ref (q 9), .ref (q 10), .ref (q 11)])), (q 8, .inl (z.1, 66, .inl (aI fsz))), (q 9, .inl (z.1, 1584, .inl (aI frt))), (q 10, .inl (z.1, 1584, .inl (aI fnt))), (q 11, .inl (z.1, 1584, .inl (aI fco)))] H := hP.sub [0, 1, 2, 3, 4] rfl
            have hD9 : va_D A [(q 2, .inr (0, [.ref (q 6), .ref (q 7), .ref (q 8), .ref (q 9), .ref (q 10), .ref (q 11)])), (q 8, .inl (z.1, 66, .inl (aI fsz))), (q 9, .inl (z.1, 1584, .inl (aI frt))), (q 10, .inl (z.1, 1584, .inl (aI fnt))), (q 11, .inl (z.1, 1584, .inl (aI fco)))] := hD.sub [0, 1, 2, 3, 4] (by decide) rfl
            refine rv_iret hx hb hRt (nar_int _) hlocks (Nat.le_refl _) (Nat.le_refl _) hP9 hD9 hS d_A_costOf_55 ?_
            exact ⟨(fco ix), rfl, rfl, (Or.inr ⟨ix - place * 24, by omega, by omega, by rw [show place * 24 + (ix - place * 24) = ix by omega]; exact m1, by rw [show place * 24 + (ix - place * 24) = ix by omega]; exact m2, by rw [show place * 24 + (ix - place * 24) = ix by omega]⟩)⟩
  exact L19 ((place * 24 + fsz place - (place * 24 + 0) : Int).toNat + 1) (place * 24 + 0) (Nat.lt_succ_self _) (by have := rsz place; have := rsz place; omega) (fun k h0 h1 => absurd h1 (by omega)) H _ (hP.sub [0, 1, 2, 3, 4] rfl) (hD.sub [0, 1, 2, 3, 4] (by decide) rfl) hS ls (lv_sub hl [2, 3, 4, 5, 1, 0] rfl)
set_option maxHeartbeats 4000000 in
set_option maxRecDepth 100000 in
theorem k_A_has (l : Launch) (G : va_G) (z : tz3) (q : Nat → Nat) (fsz : Int → Int) (frt : Int → Int) (fnt : Int → Int) (fco : Int → Int) (place : Int) (router : Int) (net : Int) (hpl : 0 ≤ place ∧ place < 66) (rsz : ∀ i : Int, 0 ≤ fsz i ∧ fsz i ≤ 24) (rrt : ∀ i : Int, -1 ≤ frt i ∧ frt i ≤ 63) (rnt : ∀ i : Int, 0 ≤ fnt i ∧ fnt i ≤ 63) (rco : ∀ i : Int, 0 ≤ fco i ∧ fco i ≤ 1000) (hr0 : inR router) (hn0 : inR net) (hc1 : ∀ k : Int, 0 ≤ k → k < fsz place → 1 ≤ fco (place * 24 + k)) : Ki l y_A_has c_A_has 4 (some .boolean) (rmD 2) G z [.ref (q 2), .int (iI place), .int (iI router), .int (iI net)] [(q 2, .inr (0, [.ref (q 6), .ref (q 7), .ref (q 8), .ref (q 9), .ref (q 10), .ref (q 11)])), (q 8, .inl (z.1, 66, .inl (aI fsz))), (q 9, .inl (z.1, 1584, .inl (aI frt))), (q 10, .inl (z.1, 1584, .inl (aI fnt))), (q 11, .inl (z.1, 1584, .inl (aI fco)))] (fun r9 u9 => ∃ (rb : Int), u9 = [(q 2, .inr (0, [.ref (q 6), .ref (q 7), .ref (q 8), .ref (q 9), .ref (q 10), .ref (q 11)])), (q 8, .inl (z.1, 66, .inl (aI fsz))), (q 9, .inl (z.1, 1584, .inl (aI frt))), (q 10, .inl (z.1, 1584, .inl (aI fnt))), (q 11, .inl (z.1, 1584, .inl (aI fco)))] ∧ r9 = iI rb ∧ ((rb = 1 ∧ ∃ k : Int, 0 ≤ k ∧ k < fsz place ∧ frt (place * 24 + k) = router ∧ fnt (place * 24 + k) = net) ∨ (rb = 0 ∧ ¬ (∃ k : Int, 0 ≤ k ∧ k < fsz place ∧ frt (place * 24 + k) = router ∧ fnt (place * 24 + k) = net)))) := by
  refine Ki.of (by decide) (Nat.le_of_ble_eq_true rfl) ?_
  intro p e s m below meth c A hB hP hD ls hl
  obtain ⟨hx, hb, hRt, hml, hown, hlocks, hg, hE, hA, hin⟩ := hB
  have hown : s.vm.findClass R_A = some m.cls := hown
  have hl : lv_has ls 4 [(0, .ref (q 2)), (1, .int (iI place)), (2, .int (iI router)), (3, .int (iI net))] := hl
  obtain ⟨H, hH⟩ : ∃ H, H = s.heap := ⟨_, rfl⟩
  have hS : va_S A s.heap H [] := by rw [hH]; exact va_S.rf
  rw [← hH] at hP
  rw [← hH]
  have hP : va_P G cls0 [(q 2, .inr (0, [.ref (q 6), .ref (q 7), .ref (q 8), .ref (q 9), .ref (q 10), .ref (q 11)])), (q 8, .inl (z.1, 66, .inl (aI fsz))), (q 9, .inl (z.1, 1584, .inl (aI frt))), (q 10, .inl (z.1, 1584, .inl (aI fnt))), (q 11, .inl (z.1, 1584, .inl (aI fco)))] H := hP
  have hD : va_D A [(q 2, .inr (0, [.ref (q 6), .ref (q 7), .ref (q 8), .ref (q 9), .ref (q 10), .ref (q 11)])), (q 8, .inl (z.1, 66, .inl (aI fsz))), (q 9, .inl (z.1, 1584, .inl (aI frt))), (q 10, .inl (z.1, 1584, .inl (aI fnt))), (q 11, .inl (z.1, 1584, .inl (aI fco)))] := hD
  refine lv_aload_n hx hb d_A_has_0 rfl (lv_at hl 0 rfl) ?_
  refine lv_iload_n hx hb d_A_has_1 rfl (lv_at hl 1 rfl) ?_
  refine lv_iload_n hx hb d_A_has_2 rfl (lv_at hl 2 rfl) ?_
  refine lv_iload_n hx hb d_A_has_3 rfl (lv_at hl 3 rfl) ?_
  refine qV_i (As := [.int (iI place), .int (iI router), .int (iI net)]) (rest := []) (wr := []) hx hb hml hown hg hE hA hS hP hD (k_A_costOf l G z q fsz frt fnt fco place router net (by omega) (by assumption) (by assumption) (by assumption) (by assumption) (by omega) (by omega)) [0, 1, 2, 3, 4] [] rfl rfl (by decide) (by decide) (by decide) (q0 := 0) rfl rfl ml_A_44 im_A_costOf se_A_costOf in_A co_A_costOf ok_A_costOf ⟨Nat.le_of_ble_eq_true rfl, Nat.le_of_ble_eq_true rfl⟩ hl.1 rfl (Nat.le_of_ble_eq_true rfl) d_A_has_4 ⟨Nat.le_of_ble_eq_true rfl, Nat.le_of_ble_eq_true rfl⟩ (fun r9 u9 H locs hw hP hD hS => ?_)
  obtain ⟨rv, rfl, rfl, fbc⟩ := hw
  have hP : va_P G cls0 [(q 2, .inr (0, [.ref (q 6), .ref (q 7), .ref (q 8), .ref (q 9), .ref (q 10), .ref (q 11)])), (q 8, .inl (z.1, 66, .inl (aI fsz))), (q 9, .inl (z.1, 1584, .inl (aI frt))), (q 10, .inl (z.1, 1584, .inl (aI fnt))), (q 11, .inl (z.1, 1584, .inl (aI fco)))] H := hP
  have hD : va_D A [(q 2, .inr (0, [.ref (q 6), .ref (q 7), .ref (q 8), .ref (q 9), .ref (q 10), .ref (q 11)])), (q 8, .inl (z.1, 66, .inl (aI fsz))), (q 9, .inl (z.1, 1584, .inl (aI frt))), (q 10, .inl (z.1, 1584, .inl (aI fnt))), (q 11, .inl (z.1, 1584, .inl (aI fco)))] := hD
  have hrv : inR rv := by
    rcases fbc with ⟨h, -⟩ | ⟨k, -, -, -, -, h⟩
    · rw [h]; exact ⟨by decide, by decide⟩
    · rw [h]; have := rco (place * 24 + k); constructor <;> omega
  refine lv_iconst (v := iI (-1)) hx hb d_A_has_7 rfl ?_
  refine rv_icmp_eq (tgt := 15) hx hb d_A_has_8 (by decide) (by constructor <;> omega) ⟨by decide, by decide⟩ (fun c_1 => ?_) (fun c_1 => ?_)
  · skip
    refine lv_iconst (v := iI 0) hx hb d_A_has_15 rfl ?_
    have hP9 : va_P G cls0 [(q 2, .inr (0, [.ref (q 6), .ref (q 7), .ref (q 8), .ref (q 9), .ref (q 10), .ref (q 11)])), (q 8, .inl (z.1, 66, .inl (aI fsz))), (q 9, .inl (z.1, 1584, .inl (aI frt))), (q 10, .inl (z.1, 1584, .inl (aI fnt))), (q 11, .inl (z.1, 1584, .inl (aI fco)))] H := hP.sub [0, 1, 2, 3, 4] rfl
    have hD9 : va_D A [(q 2, .inr (0, [.ref (q 6), .ref (q 7), .ref (q 8), .ref (q 9), .ref (q 10), .ref (q 11)])), (q 8, .inl (z.1, 66, .inl (aI fsz))), (q 9, .inl (z.1, 1584, .inl (aI frt))), (q 10, .inl (z.1, 1584, .inl (aI fnt))), (q 11, .inl (z.1, 1584, .inl (aI fco)))] := hD.sub [0, 1, 2, 3, 4] (by decide) rfl
    refine rv_iret hx hb hRt nar_b0 hlocks (Nat.le_refl _) (Nat.le_refl _) hP9 hD9 hS d_A_has_16 ?_
    rcases fbc with ⟨h, hn⟩ | ⟨k, k0, k1, k2, k3, h⟩
    · first | exact absurd h (by assumption) | exact ⟨0, rfl, rfl, Or.inr ⟨rfl, fun ⟨k, k0, k1, k2⟩ => hn k k0 k1 k2⟩⟩
    · have h2 := hc1 k k0 k1
      first | exact ⟨1, rfl, rfl, Or.inl ⟨rfl, k, k0, k1, k2, k3⟩⟩ | exact absurd h (by omega)
  · skip
    refine lv_iconst (v := iI 1) hx hb d_A_has_11 rfl ?_
    refine lv_goto (tgt := 16) hx hb d_A_has_12 (by decide) ?_
    have hP9 : va_P G cls0 [(q 2, .inr (0, [.ref (q 6), .ref (q 7), .ref (q 8), .ref (q 9), .ref (q 10), .ref (q 11)])), (q 8, .inl (z.1, 66, .inl (aI fsz))), (q 9, .inl (z.1, 1584, .inl (aI frt))), (q 10, .inl (z.1, 1584, .inl (aI fnt))), (q 11, .inl (z.1, 1584, .inl (aI fco)))] H := hP.sub [0, 1, 2, 3, 4] rfl
    have hD9 : va_D A [(q 2, .inr (0, [.ref (q 6), .ref (q 7), .ref (q 8), .ref (q 9), .ref (q 10), .ref (q 11)])), (q 8, .inl (z.1, 66, .inl (aI fsz))), (q 9, .inl (z.1, 1584, .inl (aI frt))), (q 10, .inl (z.1, 1584, .inl (aI fnt))), (q 11, .inl (z.1, 1584, .inl (aI fco)))] := hD.sub [0, 1, 2, 3, 4] (by decide) rfl
    refine rv_iret hx hb hRt nar_b1 hlocks (Nat.le_refl _) (Nat.le_refl _) hP9 hD9 hS d_A_has_16 ?_
    rcases fbc with ⟨h, hn⟩ | ⟨k, k0, k1, k2, k3, h⟩
    · first | exact absurd h (by assumption) | exact ⟨0, rfl, rfl, Or.inr ⟨rfl, fun ⟨k, k0, k1, k2⟩ => hn k k0 k1 k2⟩⟩
    · have h2 := hc1 k k0 k1
      first | exact ⟨1, rfl, rfl, Or.inl ⟨rfl, k, k0, k1, k2, k3⟩⟩ | exact absurd h (by omega)
set_option maxHeartbeats 4000000 in
set_option maxRecDepth 100000 in
theorem k_A_isSameEntry (l : Launch) (G : va_G) (z : tz3) (q : Nat → Nat) (frt : Int → Int) (fnt : Int → Int) (fco : Int → Int) (a : Int) (b : Int) (rrt : ∀ i : Int, -1 ≤ frt i ∧ frt i ≤ 63) (rnt : ∀ i : Int, 0 ≤ fnt i ∧ fnt i ≤ 63) (rco : ∀ i : Int, 0 ≤ fco i ∧ fco i ≤ 1000) (h0 : 0 ≤ a ∧ a < 1584) (h1 : 0 ≤ b ∧ b < 1584) : Ki l y_A_isSameEntry c_A_isSameEntry 3 (some .boolean) (rmD 0) G z [.ref (q 2), .int (iI a), .int (iI b)] [(q 2, .inr (0, [.ref (q 6), .ref (q 7), .ref (q 8), .ref (q 9), .ref (q 10), .ref (q 11)])), (q 9, .inl (z.1, 1584, .inl (aI frt))), (q 10, .inl (z.1, 1584, .inl (aI fnt))), (q 11, .inl (z.1, 1584, .inl (aI fco)))] (fun r9 u9 => ∃ (rb : Int), u9 = [(q 2, .inr (0, [.ref (q 6), .ref (q 7), .ref (q 8), .ref (q 9), .ref (q 10), .ref (q 11)])), (q 9, .inl (z.1, 1584, .inl (aI frt))), (q 10, .inl (z.1, 1584, .inl (aI fnt))), (q 11, .inl (z.1, 1584, .inl (aI fco)))] ∧ r9 = iI rb ∧ ((rb = 1 ∧ frt a = frt b ∧ fnt a = fnt b ∧ fco a = fco b) ∨ (rb = 0 ∧ ¬ (frt a = frt b ∧ fnt a = fnt b ∧ fco a = fco b)))) := by
  refine Ki.of (by decide) (Nat.le_of_ble_eq_true rfl) ?_
  intro p e s m below meth c A hB hP hD ls hl
  obtain ⟨hx, hb, hRt, hml, hown, hlocks, hg, hE, hA, hin⟩ := hB
  have hown : s.vm.findClass R_A = some m.cls := hown
  have hl : lv_has ls 3 [(0, .ref (q 2)), (1, .int (iI a)), (2, .int (iI b))] := hl
  obtain ⟨H, hH⟩ : ∃ H, H = s.heap := ⟨_, rfl⟩
  have hS : va_S A s.heap H [] := by rw [hH]; exact va_S.rf
  rw [← hH] at hP
  rw [← hH]
  have hP : va_P G cls0 [(q 2, .inr (0, [.ref (q 6), .ref (q 7), .ref (q 8), .ref (q 9), .ref (q 10), .ref (q 11)])), (q 9, .inl (z.1, 1584, .inl (aI frt))), (q 10, .inl (z.1, 1584, .inl (aI fnt))), (q 11, .inl (z.1, 1584, .inl (aI fco)))] H := hP
  have hD : va_D A [(q 2, .inr (0, [.ref (q 6), .ref (q 7), .ref (q 8), .ref (q 9), .ref (q 10), .ref (q 11)])), (q 9, .inl (z.1, 1584, .inl (aI frt))), (q 10, .inl (z.1, 1584, .inl (aI fnt))), (q 11, .inl (z.1, 1584, .inl (aI fco)))] := hD
  refine lv_aload_n hx hb d_A_isSameEntry_0 rfl (lv_at hl 0 rfl) ?_
  refine va_get (D := G) (ci := 0) (v := .ref (q 9)) (C := R_A) (T := T_A) (N := 6) hx hb hg iw_A hown hE.1 hP 0 rfl rfl 3 (by decide) (hg _ fl_A_21) (fun _ h9 => h9) rfl d_A_isSameEntry_1 ?_
  refine lv_iload_n hx hb d_A_isSameEntry_4 rfl (lv_at hl 1 rfl) ?_
  refine rv_iald hx hb hE hP 1 rfl (i := a) (by omega) (by omega) (by decide) d_A_isSameEntry_5 ?_
  refine lv_aload_n hx hb d_A_isSameEntry_6 rfl (lv_at hl 0 rfl) ?_
  refine va_get (D := G) (ci := 0) (v := .ref (q 9)) (C := R_A) (T := T_A) (N := 6) hx hb hg iw_A hown hE.1 hP 0 rfl rfl 3 (by decide) (hg _ fl_A_21) (fun _ h9 => h9) rfl d_A_isSameEntry_7 ?_
  refine lv_iload_n hx hb d_A_isSameEntry_10 rfl (lv_at hl 2 rfl) ?_
  refine rv_iald hx hb hE hP 1 rfl (i := b) (by omega) (by omega) (by decide) d_A_isSameEntry_11 ?_
  refine rv_icmp_ne (tgt := 49) hx hb d_A_isSameEntry_12 (by decide) (by have := rrt a; constructor <;> omega) (by have := rrt b; constructor <;> omega) (fun c_1 => ?_) (fun c_1 => ?_)
  · skip
    refine lv_iconst (v := iI 0) hx hb d_A_isSameEntry_49 rfl ?_
    have hP9 : va_P G cls0 [(q 2, .inr (0, [.ref (q 6), .ref (q 7), .ref (q 8), .ref (q 9), .ref (q 10), .ref (q 11)])), (q 9, .inl (z.1, 1584, .inl (aI frt))), (q 10, .inl (z.1, 1584, .inl (aI fnt))), (q 11, .inl (z.1, 1584, .inl (aI fco)))] H := hP.sub [0, 1, 2, 3] rfl
    have hD9 : va_D A [(q 2, .inr (0, [.ref (q 6), .ref (q 7), .ref (q 8), .ref (q 9), .ref (q 10), .ref (q 11)])), (q 9, .inl (z.1, 1584, .inl (aI frt))), (q 10, .inl (z.1, 1584, .inl (aI fnt))), (q 11, .inl (z.1, 1584, .inl (aI fco)))] := hD.sub [0, 1, 2, 3] (by decide) rfl
    refine rv_iret hx hb hRt nar_b0 hlocks (Nat.le_refl _) (Nat.le_refl _) hP9 hD9 hS d_A_isSameEntry_50 ?_
    exact ⟨0, rfl, rfl, (by omega)⟩
  · skip
    refine lv_aload_n hx hb d_A_isSameEntry_15 rfl (lv_at hl 0 rfl) ?_
    refine va_get (D := G) (ci := 0) (v := .ref (q 10)) (C := R_A) (T := T_A) (N := 6) hx hb hg iw_A hown hE.1 hP 0 rfl rfl 4 (by decide) (hg _ fl_A_24) (fun _ h9 => h9) rfl d_A_isSameEntry_16 ?_
    refine lv_iload_n hx hb d_A_isSameEntry_19 rfl (lv_at hl 1 rfl) ?_
    refine rv_iald hx hb hE hP 2 rfl (i := a) (by omega) (by omega) (by decide) d_A_isSameEntry_20 ?_
    refine lv_aload_n hx hb d_A_isSameEntry_21 rfl (lv_at hl 0 rfl) ?_
    refine va_get (D := G) (ci := 0) (v := .ref (q 10)) (C := R_A) (T := T_A) (N := 6) hx hb hg iw_A hown hE.1 hP 0 rfl rfl 4 (by decide) (hg _ fl_A_24) (fun _ h9 => h9) rfl d_A_isSameEntry_22 ?_
    refine lv_iload_n hx hb d_A_isSameEntry_25 rfl (lv_at hl 2 rfl) ?_
    refine rv_iald hx hb hE hP 2 rfl (i := b) (by omega) (by omega) (by decide) d_A_isSameEntry_26 ?_
    refine rv_icmp_ne (tgt := 49) hx hb d_A_isSameEntry_27 (by decide) (by have := rnt a; constructor <;> omega) (by have := rnt b; constructor <;> omega) (fun c_2 => ?_) (fun c_2 => ?_)
    · skip
      refine lv_iconst (v := iI 0) hx hb d_A_isSameEntry_49 rfl ?_
      have hP9 : va_P G cls0 [(q 2, .inr (0, [.ref (q 6), .ref (q 7), .ref (q 8), .ref (q 9), .ref (q 10), .ref (q 11)])), (q 9, .inl (z.1, 1584, .inl (aI frt))), (q 10, .inl (z.1, 1584, .inl (aI fnt))), (q 11, .inl (z.1, 1584, .inl (aI fco)))] H := hP.sub [0, 1, 2, 3] rfl
      have hD9 : va_D A [(q 2, .inr (0, [.ref (q 6), .ref (q 7), .ref (q 8), .ref (q 9), .ref (q 10), .ref (q 11)])), (q 9, .inl (z.1, 1584, .inl (aI frt))), (q 10, .inl (z.1, 1584, .inl (aI fnt))), (q 11, .inl (z.1, 1584, .inl (aI fco)))] := hD.sub [0, 1, 2, 3] (by decide) rfl
      refine rv_iret hx hb hRt nar_b0 hlocks (Nat.le_refl _) (Nat.le_refl _) hP9 hD9 hS d_A_isSameEntry_50 ?_
      exact ⟨0, rfl, rfl, (by omega)⟩
    · skip
      refine lv_aload_n hx hb d_A_isSameEntry_30 rfl (lv_at hl 0 rfl) ?_
      refine va_get (D := G) (ci := 0) (v := .ref (q 11)) (C := R_A) (T := T_A) (N := 6) hx hb hg iw_A hown hE.1 hP 0 rfl rfl 5 (by decide) (hg _ fl_A_27) (fun _ h9 => h9) rfl d_A_isSameEntry_31 ?_
      refine lv_iload_n hx hb d_A_isSameEntry_34 rfl (lv_at hl 1 rfl) ?_
      refine rv_iald hx hb hE hP 3 rfl (i := a) (by omega) (by omega) (by decide) d_A_isSameEntry_35 ?_
      refine lv_aload_n hx hb d_A_isSameEntry_36 rfl (lv_at hl 0 rfl) ?_
      refine va_get (D := G) (ci := 0) (v := .ref (q 11)) (C := R_A) (T := T_A) (N := 6) hx hb hg iw_A hown hE.1 hP 0 rfl rfl 5 (by decide) (hg _ fl_A_27) (fun _ h9 => h9) rfl d_A_isSameEntry_37 ?_
      refine lv_iload_n hx hb d_A_isSameEntry_40 rfl (lv_at hl 2 rfl) ?_
      refine rv_iald hx hb hE hP 3 rfl (i := b) (by omega) (by omega) (by decide) d_A_isSameEntry_41 ?_
      refine rv_icmp_ne (tgt := 49) hx hb d_A_isSameEntry_42 (by decide) (by have := rco a; constructor <;> omega) (by have := rco b; constructor <;> omega) (fun c_3 => ?_) (fun c_3 => ?_)
      · skip
        refine lv_iconst (v := iI 0) hx hb d_A_isSameEntry_49 rfl ?_
        have hP9 : va_P G cls0 [(q 2, .inr (0, [.ref (q 6), .ref (q 7), .ref (q 8), .ref (q 9), .ref (q 10), .ref (q 11)])), (q 9, .inl (z.1, 1584, .inl (aI frt))), (q 10, .inl (z.1, 1584, .inl (aI fnt))), (q 11, .inl (z.1, 1584, .inl (aI fco)))] H := hP.sub [0, 1, 2, 3] rfl
        have hD9 : va_D A [(q 2, .inr (0, [.ref (q 6), .ref (q 7), .ref (q 8), .ref (q 9), .ref (q 10), .ref (q 11)])), (q 9, .inl (z.1, 1584, .inl (aI frt))), (q 10, .inl (z.1, 1584, .inl (aI fnt))), (q 11, .inl (z.1, 1584, .inl (aI fco)))] := hD.sub [0, 1, 2, 3] (by decide) rfl
        refine rv_iret hx hb hRt nar_b0 hlocks (Nat.le_refl _) (Nat.le_refl _) hP9 hD9 hS d_A_isSameEntry_50 ?_
        exact ⟨0, rfl, rfl, (by omega)⟩
      · skip
        refine lv_iconst (v := iI 1) hx hb d_A_isSameEntry_45 rfl ?_
        refine lv_goto (tgt := 50) hx hb d_A_isSameEntry_46 (by decide) ?_
        have hP9 : va_P G cls0 [(q 2, .inr (0, [.ref (q 6), .ref (q 7), .ref (q 8), .ref (q 9), .ref (q 10), .ref (q 11)])), (q 9, .inl (z.1, 1584, .inl (aI frt))), (q 10, .inl (z.1, 1584, .inl (aI fnt))), (q 11, .inl (z.1, 1584, .inl (aI fco)))] H := hP.sub [0, 1, 2, 3] rfl
        have hD9 : va_D A [(q 2, .inr (0, [.ref (q 6), .ref (q 7), .ref (q 8), .ref (q 9), .ref (q 10), .ref (q 11)])), (q 9, .inl (z.1, 1584, .inl (aI frt))), (q 10, .inl (z.1, 1584, .inl (aI fnt))), (q 11, .inl (z.1, 1584, .inl (aI fco)))] := hD.sub [0, 1, 2, 3] (by decide) rfl
        refine rv_iret hx hb hRt nar_b1 hlocks (Nat.le_refl _) (Nat.le_refl _) hP9 hD9 hS d_A_isSameEntry_50 ?_
        exact ⟨1, rfl, rfl, (by omega)⟩
set_option maxHeartbeats 4000000 in
set_option maxRecDepth 100000 in
theorem k_A_haveSameEntries (l : Launch) (G : va_G) (z : tz3) (q : Nat → Nat) (fsz : Int → Int) (frt : Int → Int) (fnt : Int → Int) (fco : Int → Int) (one : Int) (other : Int) (hp1 : 0 ≤ one ∧ one < 66) (hp2 : 0 ≤ other ∧ other < 66) (rsz : ∀ i : Int, 0 ≤ fsz i ∧ fsz i ≤ 24) (rrt : ∀ i : Int, -1 ≤ frt i ∧ frt i ≤ 63) (rnt : ∀ i : Int, 0 ≤ fnt i ∧ fnt i ≤ 63) (rco : ∀ i : Int, 0 ≤ fco i ∧ fco i ≤ 1000) : Ki l y_A_haveSameEntries c_A_haveSameEntries 4 (some .boolean) (rmD 1) G z [.ref (q 2), .int (iI one), .int (iI other)] [(q 2, .inr (0, [.ref (q 6), .ref (q 7), .ref (q 8), .ref (q 9), .ref (q 10), .ref (q 11)])), (q 8, .inl (z.1, 66, .inl (aI fsz))), (q 9, .inl (z.1, 1584, .inl (aI frt))), (q 10, .inl (z.1, 1584, .inl (aI fnt))), (q 11, .inl (z.1, 1584, .inl (aI fco)))] (fun r9 u9 => ∃ (rb : Int), u9 = [(q 2, .inr (0, [.ref (q 6), .ref (q 7), .ref (q 8), .ref (q 9), .ref (q 10), .ref (q 11)])), (q 8, .inl (z.1, 66, .inl (aI fsz))), (q 9, .inl (z.1, 1584, .inl (aI frt))), (q 10, .inl (z.1, 1584, .inl (aI fnt))), (q 11, .inl (z.1, 1584, .inl (aI fco)))] ∧ r9 = iI rb ∧ ((rb = 1 ∧ fsz one = fsz other ∧ (∀ k : Int, 0 ≤ k → k < fsz one → (frt (one * 24 + k) = frt (other * 24 + k) ∧ fnt (one * 24 + k) = fnt (other * 24 + k) ∧ fco (one * 24 + k) = fco (other * 24 + k)))) ∨ (rb = 0 ∧ ¬ (fsz one = fsz other ∧ (∀ k : Int, 0 ≤ k → k < fsz one → (frt (one * 24 + k) = frt (other * 24 + k) ∧ fnt (one * 24 + k) = fnt (other * 24 + k) ∧ fco (one * 24 + k) = fco (other * 24 + k))))))) := by
  refine Ki.of (by decide) (Nat.le_of_ble_eq_true rfl) ?_
  intro p e s m below meth c A hB hP hD ls hl
  obtain ⟨hx, hb, hRt, hml, hown, hlocks, hg, hE, hA, hin⟩ := hB
  have hown : s.vm.findClass R_A = some m.cls := hown
  have hl : lv_has ls 4 [(0, .ref (q 2)), (1, .int (iI one)), (2, .int (iI other))] := hl
  obtain ⟨H, hH⟩ : ∃ H, H = s.heap := ⟨_, rfl⟩
  have hS : va_S A s.heap H [] := by rw [hH]; exact va_S.rf
  rw [← hH] at hP
  rw [← hH]
  have hP : va_P G cls0 [(q 2, .inr (0, [.ref (q 6), .ref (q 7), .ref (q 8), .ref (q 9), .ref (q 10), .ref (q 11)])), (q 8, .inl (z.1, 66, .inl (aI fsz))), (q 9, .inl (z.1, 1584, .inl (aI frt))), (q 10, .inl (z.1, 1584, .inl (aI fnt))), (q 11, .inl (z.1, 1584, .inl (aI fco)))] H := hP
  have hD : va_D A [(q 2, .inr (0, [.ref (q 6), .ref (q 7), .ref (q 8), .ref (q 9), .ref (q 10), .ref (q 11)])), (q 8, .inl (z.1, 66, .inl (aI fsz))), (q 9, .inl (z.1, 1584, .inl (aI frt))), (q 10, .inl (z.1, 1584, .inl (aI fnt))), (q 11, .inl (z.1, 1584, .inl (aI fco)))] := hD
  refine lv_aload_n hx hb d_A_haveSameEntries_0 rfl (lv_at hl 0 rfl) ?_
  refine va_get (D := G) (ci := 0) (v := .ref (q 8)) (C := R_A) (T := T_A) (N := 6) hx hb hg iw_A hown hE.1 hP 0 rfl rfl 2 (by decide) (hg _ fl_A_18) (fun _ h9 => h9) rfl d_A_haveSameEntries_1 ?_
  refine lv_iload_n hx hb d_A_haveSameEntries_4 rfl (lv_at hl 1 rfl) ?_
  refine rv_iald hx hb hE hP 1 rfl (i := one) (by omega) (by omega) (by decide) d_A_haveSameEntries_5 ?_
  refine lv_aload_n hx hb d_A_haveSameEntries_6 rfl (lv_at hl 0 rfl) ?_
  refine va_get (D := G) (ci := 0) (v := .ref (q 8)) (C := R_A) (T := T_A) (N := 6) hx hb hg iw_A hown hE.1 hP 0 rfl rfl 2 (by decide) (hg _ fl_A_18) (fun _ h9 => h9) rfl d_A_haveSameEntries_7 ?_
  refine lv_iload_n hx hb d_A_haveSameEntries_10 rfl (lv_at hl 2 rfl) ?_
  refine rv_iald hx hb hE hP 1 rfl (i := other) (by omega) (by omega) (by decide) d_A_haveSameEntries_11 ?_
  refine rv_icmp_eq (tgt := 17) hx hb d_A_haveSameEntries_12 (by decide) (by have := rsz one; constructor <;> omega) (by have := rsz other; constructor <;> omega) (fun c_1 => ?_) (fun c_1 => ?_)
  · skip
    have heq := c_1
    refine lv_iconst (v := iI 0) hx hb d_A_haveSameEntries_17 rfl ?_
    refine lv_istore_n (lv' := [(3, .int (iI 0)), (0, .ref (q 2)), (1, .int (iI one)), (2, .int (iI other))]) hx hb d_A_haveSameEntries_18 rfl hl (by decide) rfl (fun ls hl => ?_)
    have L19 : ∀ n9 : Nat, ∀ (k : Int), (fsz one - k : Int).toNat < n9 → (0 ≤ k ∧ k ≤ fsz one) → (∀ j : Int, 0 ≤ j → j < k → (frt (one * 24 + j) = frt (other * 24 + j) ∧ fnt (one * 24 + j) = fnt (other * 24 + j) ∧ fco (one * 24 + j) = fco (other * 24 + j))) → ∀ (H : Heap) (locs : List Loc), va_P G cls0 [(q 2, .inr (0, [.ref (q 6), .ref (q 7), .ref (q 8), .ref (q 9), .ref (q 10), .ref (q 11)])), (q 8, .inl (z.1, 66, .inl (aI fsz))), (q 9, .inl (z.1, 1584, .inl (aI frt))), (q 10, .inl (z.1, 1584, .inl (aI fnt))), (q 11, .inl (z.1, 1584, .inl (aI fco)))] H → va_D A [(q 2, .inr (0, [.ref (q 6), .ref (q 7), .ref (q 8), .ref (q 9), .ref (q 10), .ref (q 11)])), (q 8, .inl (z.1, 66, .inl (aI fsz))), (q 9, .inl (z.1, 1584, .inl (aI frt))), (q 10, .inl (z.1, 1584, .inl (aI fnt))), (q 11, .inl (z.1, 1584, .inl (aI fco)))] → va_S A s.heap H locs → ∀ ls : Array Slot, lv_has ls 4 [(0, .ref (q 2)), (1, .int (iI one)), (2, .int (iI other)), (3, .int (iI k))] → W p l e (rmD 1) s m [.ref (q 2), .int (iI one), .int (iI other)].toArray below meth c H locs 0 0 (Zi below [.ref (q 2), .int (iI one), .int (iI other)].toArray s (rmD 1) G A (fun r9 u9 => ∃ (rb : Int), u9 = [(q 2, .inr (0, [.ref (q 6), .ref (q 7), .ref (q 8), .ref (q 9), .ref (q 10), .ref (q 11)])), (q 8, .inl (z.1, 66, .inl (aI fsz))), (q 9, .inl (z.1, 1584, .inl (aI frt))), (q 10, .inl (z.1, 1584, .inl (aI fnt))), (q 11, .inl (z.1, 1584, .inl (aI fco)))] ∧ r9 = iI rb ∧ ((rb = 1 ∧ fsz one = fsz other ∧ (∀ k : Int, 0 ≤ k → k < fsz one → (frt (one * 24 + k) = frt (other * 24 + k) ∧ fnt (one * 24 + k) = fnt (other * 24 + k) ∧ fco (one * 24 + k) = fco (other * 24 + k)))) ∨ (rb = 0 ∧ ¬ (fsz one = fsz other ∧ (∀ k : Int, 0 ≤ k → k < fsz one → (frt (one * 24 + k) = frt (other * 24 + k) ∧ fnt (one * 24 + k) = fnt (other * 24 + k) ∧ fco (one * 24 + k) = fco (other * 24 + k)))))))) (F0 m 19 ls []) := by
      intro n9
      induction n9 with
      | zero => intro k hmu; exact absurd hmu (Nat.not_lt_zero _)
      | succ n9 ih =>
        intro k hmu h1 hall H locs hP hD hS ls hl
        refine lv_iload_n hx hb d_A_haveSameEntries_19 rfl (lv_at hl 3 rfl) ?_
        refine lv_aload_n hx hb d_A_haveSameEntries_20 rfl (lv_at hl 0 rfl) ?_
        refine va_get (D := G) (ci := 0) (v := .ref (q 8)) (C := R_A) (T := T_A) (N := 6) hx hb hg iw_A hown hE.1 hP 0 rfl rfl 2 (by decide) (hg _ fl_A_18) (fun _ h9 => h9) rfl d_A_haveSameEntries_21 ?_
        refine lv_iload_n hx hb d_A_haveSameEntries_24 rfl (lv_at hl 1 rfl) ?_
        refine rv_iald hx hb hE hP 1 rfl (i := one) (by omega) (by omega) (by decide) d_A_haveSameEntries_25 ?_
        refine rv_icmp_ge (tgt := 54) hx hb d_A_haveSameEntries_26 (by decide) (by have := rsz one; constructor <;> omega) (by have := rsz one; have := rsz one; constructor <;> omega) (fun c_2 => ?_) (fun c_2 => ?_)
        · skip
          refine lv_iconst (v := iI 1) hx hb d_A_haveSameEntries_54 rfl ?_
          have hP9 : va_P G cls0 [(q 2, .inr (0, [.ref (q 6), .ref (q 7), .ref (q 8), .ref (q 9), .ref (q 10), .ref (q 11)])), (q 8, .inl (z.1, 66, .inl (aI fsz))), (q 9, .inl (z.1, 1584, .inl (aI frt))), (q 10, .inl (z.1, 1584, .inl (aI fnt))), (q 11, .inl (z.1, 1584, .inl (aI fco)))] H := hP.sub [0, 1, 2, 3, 4] rfl
          have hD9 : va_D A [(q 2, .inr (0, [.ref (q 6), .ref (q 7), .ref (q 8), .ref (q 9), .ref (q 10), .ref (q 11)])), (q 8, .inl (z.1, 66, .inl (aI fsz))), (q 9, .inl (z.1, 1584, .inl (aI frt))), (q 10, .inl (z.1, 1584, .inl (aI fnt))), (q 11, .inl (z.1, 1584, .inl (aI fco)))] := hD.sub [0, 1, 2, 3, 4] (by decide) rfl
          refine rv_iret hx hb hRt nar_b1 hlocks (Nat.le_refl _) (Nat.le_refl _) hP9 hD9 hS d_A_haveSameEntries_55 ?_
          exact ⟨1, rfl, rfl, (Or.inl ⟨rfl, heq, fun j h0 h1 => hall j h0 (by omega)⟩)⟩
        · skip
          refine lv_aload_n hx hb d_A_haveSameEntries_29 rfl (lv_at hl 0 rfl) ?_
          refine lv_iload_n hx hb d_A_haveSameEntries_30 rfl (lv_at hl 1 rfl) ?_
          refine lv_iload_n hx hb d_A_haveSameEntries_31 rfl (lv_at hl 3 rfl) ?_
          refine qS_i (As := [.int (iI one), .int (iI k)]) (rest := [.ref (q 2)]) (wr := [(q 2, .inr (0, [.ref (q 6), .ref (q 7), .ref (q 8), .ref (q 9), .ref (q 10), .ref (q 11)])), (q 8, .inl (z.1, 66, .inl (aI fsz))), (q 9, .inl (z.1, 1584, .inl (aI frt))), (q 10, .inl (z.1, 1584, .inl (aI fnt))), (q 11, .inl (z.1, 1584, .inl (aI fco)))]) hx hb hml hown hg hE hA hS hP hD (k_A_indexOf l G z one k) [] [0, 1, 2, 3, 4] rfl rfl (by decide) (by decide) (by decide) ml_A_40 st_A_indexOf in_A co_A_indexOf ok_A_indexOf ⟨Nat.le_of_ble_eq_true rfl, Nat.le_of_ble_eq_true rfl⟩ hl.1 rfl (Nat.le_of_ble_eq_true rfl) d_A_haveSameEntries_32 ⟨Nat.le_of_ble_eq_true rfl, Nat.le_of_ble_eq_true rfl⟩ (fun r9 u9 H locs hw hP hD hS => ?_)
          obtain ⟨rfl, rfl⟩ := hw
          have hP : va_P G cls0 [(q 2, .inr (0, [.ref (q 6), .ref (q 7), .ref (q 8), .ref (q 9), .ref (q 10), .ref (q 11)])), (q 8, .inl (z.1, 66, .inl (aI fsz))), (q 9, .inl (z.1, 1584, .inl (aI frt))), (q 10, .inl (z.1, 1584, .inl (aI fnt))), (q 11, .inl (z.1, 1584, .inl (aI fco)))] H := hP
          have hD : va_D A [(q 2, .inr (0, [.ref (q 6), .ref (q 7), .ref (q 8), .ref (q 9), .ref (q 10), .ref (q 11)])), (q 8, .inl (z.1, 66, .inl (aI fsz))), (q 9, .inl (z.1, 1584, .inl (aI frt))), (q 10, .inl (z.1, 1584, .inl (aI fnt))), (q 11, .inl (z.1, 1584, .inl (aI fco)))] := hD
          refine lv_iload_n hx hb d_A_haveSameEntries_35 rfl (lv_at hl 2 rfl) ?_
          refine lv_iload_n hx hb d_A_haveSameEntries_36 rfl (lv_at hl 3 rfl) ?_
          refine qS_i (As := [.int (iI other), .int (iI k)]) (rest := [.int (iI (one * 24 + k)), .ref (q 2)]) (wr := [(q 2, .inr (0, [.ref (q 6), .ref (q 7), .ref (q 8), .ref (q 9), .ref (q 10), .ref (q 11)])), (q 8, .inl (z.1, 66, .inl (aI fsz))), (q 9, .inl (z.1, 1584, .inl (aI frt))), (q 10, .inl (z.1, 1584, .inl (aI fnt))), (q 11, .inl (z.1, 1584, .inl (aI fco)))]) hx hb hml hown hg hE hA hS hP hD (k_A_indexOf l G z other k) [] [0, 1, 2, 3, 4] rfl rfl (by decide) (by decide) (by decide) ml_A_40 st_A_indexOf in_A co_A_indexOf ok_A_indexOf ⟨Nat.le_of_ble_eq_true rfl, Nat.le_of_ble_eq_true rfl⟩ hl.1 rfl (Nat.le_of_ble_eq_true rfl) d_A_haveSameEntries_37 ⟨Nat.le_of_ble_eq_true rfl, Nat.le_of_ble_eq_true rfl⟩ (fun r9 u9 H locs hw hP hD hS => ?_)
          obtain ⟨rfl, rfl⟩ := hw
          have hP : va_P G cls0 [(q 2, .inr (0, [.ref (q 6), .ref (q 7), .ref (q 8), .ref (q 9), .ref (q 10), .ref (q 11)])), (q 8, .inl (z.1, 66, .inl (aI fsz))), (q 9, .inl (z.1, 1584, .inl (aI frt))), (q 10, .inl (z.1, 1584, .inl (aI fnt))), (q 11, .inl (z.1, 1584, .inl (aI fco)))] H := hP
          have hD : va_D A [(q 2, .inr (0, [.ref (q 6), .ref (q 7), .ref (q 8), .ref (q 9), .ref (q 10), .ref (q 11)])), (q 8, .inl (z.1, 66, .inl (aI fsz))), (q 9, .inl (z.1, 1584, .inl (aI frt))), (q 10, .inl (z.1, 1584, .inl (aI fnt))), (q 11, .inl (z.1, 1584, .inl (aI fco)))] := hD
          refine qV_i (As := [.int (iI (one * 24 + k)), .int (iI (other * 24 + k))]) (rest := []) (wr := [(q 8, .inl (z.1, 66, .inl (aI fsz)))]) hx hb hml hown hg hE hA hS hP hD (k_A_isSameEntry l G z q frt fnt fco (one * 24 + k) (other * 24 + k) (by assumption) (by assumption) (by assumption) (by have := rsz one; have := rsz other; omega) (by have := rsz one; have := rsz other; omega)) [0, 2, 3, 4] [1] rfl rfl (by decide) (by decide) (by decide) (q0 := 0) rfl rfl ml_A_54 im_A_isSameEntry se_A_isSameEntry in_A co_A_isSameEntry ok_A_isSameEntry ⟨Nat.le_of_ble_eq_true rfl, Nat.le_of_ble_eq_true rfl⟩ hl.1 rfl (Nat.le_of_ble_eq_true rfl) d_A_haveSameEntries_40 ⟨Nat.le_of_ble_eq_true rfl, Nat.le_of_ble_eq_true rfl⟩ (fun r9 u9 H locs hw hP hD hS => ?_)
          obtain ⟨rb, rfl, rfl, fbs⟩ := hw
          have hP : va_P G cls0 [(q 8, .inl (z.1, 66, .inl (aI fsz))), (q 2, .inr (0, [.ref (q 6), .ref (q 7), .ref (q 8), .ref (q 9), .ref (q 10), .ref (q 11)])), (q 9, .inl (z.1, 1584, .inl (aI frt))), (q 10, .inl (z.1, 1584, .inl (aI fnt))), (q 11, .inl (z.1, 1584, .inl (aI fco)))] H := hP
          have hD : va_D A [(q 8, .inl (z.1, 66, .inl (aI fsz))), (q 2, .inr (0, [.ref (q 6), .ref (q 7), .ref (q 8), .ref (q 9), .ref (q 10), .ref (q 11)])), (q 9, .inl (z.1, 1584, .inl (aI frt))), (q 10, .inl (z.1, 1584, .inl (aI fnt))), (q 11, .inl (z.1, 1584, .inl (aI fco)))] := hD
          refine rv_if_ne (tgt := 48) hx hb d_A_haveSameEntries_43 (by decide) (by constructor <;> omega) (fun c_3 => ?_) (fun c_3 => ?_)
          · skip
            have hb1 := c_3
            refine lv_iinc (v := iI (k + 1)) (lv' := [(3, .int (iI (k + 1))), (0, .ref (q 2)), (1, .int (iI one)), (2, .int (iI other))]) hx hb d_A_haveSameEntries_48 hl (k := 3) rfl (iI_add _ _) (by decide) rfl (fun ls hl => ?_)
            refine lv_goto (tgt := 19) hx hb d_A_haveSameEntries_51 (by decide) ?_
            exact ih (k + 1) (by have := rsz one; omega) (by have := rsz one; omega) (fun j h0 h1 => if e : j = k then (by rw [e]; rcases fbs with ⟨-, q⟩ | ⟨q, -⟩; exact q; exact absurd q hb1) else hall j h0 (by omega)) H _ (hP.sub [1, 0, 2, 3, 4] rfl) (hD.sub [1, 0, 2, 3, 4] (by decide) rfl) hS ls (lv_sub hl [1, 2, 3, 0] rfl)
          · skip
            have hb0 := c_3
            refine lv_iconst (v := iI 0) hx hb d_A_haveSameEntries_46 rfl ?_
            have hP9 : va_P G cls0 [(q 2, .inr (0, [.ref (q 6), .ref (q 7), .ref (q 8), .ref (q 9), .ref (q 10), .ref (q 11)])), (q 8, .inl (z.1, 66, .inl (aI fsz))), (q 9, .inl (z.1, 1584, .inl (aI frt))), (q 10, .inl (z.1, 1584, .inl (aI fnt))), (q 11, .inl (z.1, 1584, .inl (aI fco)))] H := hP.sub [1, 0, 2, 3, 4] rfl
            have hD9 : va_D A [(q 2, .inr (0, [.ref (q 6), .ref (q 7), .ref (q 8), .ref (q 9), .ref (q 10), .ref (q 11)])), (q 8, .inl (z.1, 66, .inl (aI fsz))), (q 9, .inl (z.1, 1584, .inl (aI frt))), (q 10, .inl (z.1, 1584, .inl (aI fnt))), (q 11, .inl (z.1, 1584, .inl (aI fco)))] := hD.sub [1, 0, 2, 3, 4] (by decide) rfl
            refine rv_iret hx hb hRt nar_b0 hlocks (Nat.le_refl _) (Nat.le_refl _) hP9 hD9 hS d_A_haveSameEntries_47 ?_
            rcases fbs with ⟨q, -⟩ | ⟨-, q⟩
            · omega
            · exact ⟨0, rfl, rfl, Or.inr ⟨rfl, fun w => q (w.2 k h1.1 (by omega))⟩⟩
    exact L19 ((fsz one - 0 : Int).toNat + 1) 0 (Nat.lt_succ_self _) (by have := rsz one; have := rsz one; omega) (fun j h0 h1 => absurd h1 (by omega)) H _ (hP.sub [0, 1, 2, 3, 4] rfl) (hD.sub [0, 1, 2, 3, 4] (by decide) rfl) hS ls (lv_sub hl [1, 2, 3, 0] rfl)
  · skip
    have hne := c_1
    refine lv_iconst (v := iI 0) hx hb d_A_haveSameEntries_15 rfl ?_
    have hP9 : va_P G cls0 [(q 2, .inr (0, [.ref (q 6), .ref (q 7), .ref (q 8), .ref (q 9), .ref (q 10), .ref (q 11)])), (q 8, .inl (z.1, 66, .inl (aI fsz))), (q 9, .inl (z.1, 1584, .inl (aI frt))), (q 10, .inl (z.1, 1584, .inl (aI fnt))), (q 11, .inl (z.1, 1584, .inl (aI fco)))] H := hP.sub [0, 1, 2, 3, 4] rfl
    have hD9 : va_D A [(q 2, .inr (0, [.ref (q 6), .ref (q 7), .ref (q 8), .ref (q 9), .ref (q 10), .ref (q 11)])), (q 8, .inl (z.1, 66, .inl (aI fsz))), (q 9, .inl (z.1, 1584, .inl (aI frt))), (q 10, .inl (z.1, 1584, .inl (aI fnt))), (q 11, .inl (z.1, 1584, .inl (aI fco)))] := hD.sub [0, 1, 2, 3, 4] (by decide) rfl
    refine rv_iret hx hb hRt nar_b0 hlocks (Nat.le_refl _) (Nat.le_refl _) hP9 hD9 hS d_A_haveSameEntries_16 ?_
    exact ⟨0, rfl, rfl, (Or.inr ⟨rfl, fun q => hne q.1⟩)⟩
set_option maxHeartbeats 4000000 in
set_option maxRecDepth 100000 in
theorem k_A_copyEntries (l : Launch) (G : va_G) (z : tz3) (q : Nat → Nat) (fsz : Int → Int) (frt : Int → Int) (fnt : Int → Int) (fco : Int → Int) (pa : Int) (pb : Int) (hp1 : 0 ≤ pa ∧ pa < 66) (hp2 : 0 ≤ pb ∧ pb < 66) (rsz : ∀ i : Int, 0 ≤ fsz i ∧ fsz i ≤ 24) : Kv l y_A_copyEntries c_A_copyEntries 4 (rmD 3) G z [.ref (q 2), .int (iI pa), .int (iI pb)] [(q 2, .inr (0, [.ref (q 6), .ref (q 7), .ref (q 8), .ref (q 9), .ref (q 10), .ref (q 11)])), (q 8, .inl (z.1, 66, .inl (aI fsz))), (q 9, .inl (z.1, 1584, .inl (aI frt))), (q 10, .inl (z.1, 1584, .inl (aI fnt))), (q 11, .inl (z.1, 1584, .inl (aI fco)))] (fun u9 => u9 = [(q 2, .inr (0, [.ref (q 6), .ref (q 7), .ref (q 8), .ref (q 9), .ref (q 10), .ref (q 11)])), (q 8, .inl (z.1, 66, .inl (aI (uZ fsz pb (fsz pa))))), (q 9, .inl (z.1, 1584, .inl (aI (cZ frt (pa * 24 + 0) (pb * 24 + 0) (fsz pa))))), (q 10, .inl (z.1, 1584, .inl (aI (cZ fnt (pa * 24 + 0) (pb * 24 + 0) (fsz pa))))), (q 11, .inl (z.1, 1584, .inl (aI (cZ fco (pa * 24 + 0) (pb * 24 + 0) (fsz pa)))))]) := by
  refine Kv.of (by decide) (Nat.le_of_ble_eq_true rfl) ?_
  intro p e s m below meth c A hB hP hD ls hl
  obtain ⟨hx, hb, hRt, hml, hown, hlocks, hg, hE, hA, hin⟩ := hB
  have hown : s.vm.findClass R_A = some m.cls := hown
  have hl : lv_has ls 4 [(0, .ref (q 2)), (1, .int (iI pa)), (2, .int (iI pb))] := hl
  obtain ⟨H, hH⟩ : ∃ H, H = s.heap := ⟨_, rfl⟩
  have hS : va_S A s.heap H [] := by rw [hH]; exact va_S.rf
  rw [← hH] at hP
  rw [← hH]
  have hP : va_P G cls0 [(q 2, .inr (0, [.ref (q 6), .ref (q 7), .ref (q 8), .ref (q 9), .ref (q 10), .ref (q 11)])), (q 8, .inl (z.1, 66, .inl (aI fsz))), (q 9, .inl (z.1, 1584, .inl (aI frt))), (q 10, .inl (z.1, 1584, .inl (aI fnt))), (q 11, .inl (z.1, 1584, .inl (aI fco)))] H := hP
  have hD : va_D A [(q 2, .inr (0, [.ref (q 6), .ref (q 7), .ref (q 8), .ref (q 9), .ref (q 10), .ref (q 11)])), (q 8, .inl (z.1, 66, .inl (aI fsz))), (q 9, .inl (z.1, 1584, .inl (aI frt))), (q 10, .inl (z.1, 1584, .inl (aI fnt))), (q 11, .inl (z.1, 1584, .inl (aI fco)))] := hD
  refine lv_aload_n hx hb d_A_copyEntries_0 rfl (lv_at hl 0 rfl) ?_
  refine va_get (D := G) (ci := 0) (v := .ref (q 8)) (C := R_A) (T := T_A) (N := 6) hx hb hg iw_A hown hE.1 hP 0 rfl rfl 2 (by decide) (hg _ fl_A_18) (fun _ h9 => h9) rfl d_A_copyEntries_1 ?_
  refine lv_iload_n hx hb d_A_copyEntries_4 rfl (lv_at hl 1 rfl) ?_
  refine rv_iald hx hb hE hP 1 rfl (i := pa) (by omega) (by omega) (by decide) d_A_copyEntries_5 ?_
  refine lv_istore_n (lv' := [(3, .int (iI (fsz pa))), (0, .ref (q 2)), (1, .int (iI pa)), (2, .int (iI pb))]) hx hb d_A_copyEntries_6 rfl hl (by decide) rfl (fun ls hl => ?_)
  refine lv_aload_n hx hb d_A_copyEntries_7 rfl (lv_at hl 1 rfl) ?_
  refine va_get (D := G) (ci := 0) (v := .ref (q 9)) (C := R_A) (T := T_A) (N := 6) hx hb hg iw_A hown hE.1 hP 0 rfl rfl 3 (by decide) (hg _ fl_A_21) (fun _ h9 => h9) rfl d_A_copyEntries_8 ?_
  refine lv_iload_n hx hb d_A_copyEntries_11 rfl (lv_at hl 2 rfl) ?_
  refine lv_iconst (v := iI 0) hx hb d_A_copyEntries_12 rfl ?_
  refine qS_i (As := [.int (iI pa), .int (iI 0)]) (rest := [.ref (q 9)]) (wr := [(q 2, .inr (0, [.ref (q 6), .ref (q 7), .ref (q 8), .ref (q 9), .ref (q 10), .ref (q 11)])), (q 8, .inl (z.1, 66, .inl (aI fsz))), (q 9, .inl (z.1, 1584, .inl (aI frt))), (q 10, .inl (z.1, 1584, .inl (aI fnt))), (q 11, .inl (z.1, 1584, .inl (aI fco)))]) hx hb hml hown hg hE hA hS hP hD (k_A_indexOf l G z pa 0) [] [0, 1, 2, 3, 4] rfl rfl (by decide) (by decide) (by decide) ml_A_40 st_A_indexOf in_A co_A_indexOf ok_A_indexOf ⟨Nat.le_of_ble_eq_true rfl, Nat.le_of_ble_eq_true rfl⟩ hl.1 rfl (Nat.le_of_ble_eq_true rfl) d_A_copyEntries_13 ⟨Nat.le_of_ble_eq_true rfl, Nat.le_of_ble_eq_true rfl⟩ (fun r9 u9 H locs hw hP hD hS => ?_)
  obtain ⟨rfl, rfl⟩ := hw
  have hP : va_P G cls0 [(q 2, .inr (0, [.ref (q 6), .ref (q 7), .ref (q 8), .ref (q 9), .ref (q 10), .ref (q 11)])), (q 8, .inl (z.1, 66, .inl (aI fsz))), (q 9, .inl (z.1, 1584, .inl (aI frt))), (q 10, .inl (z.1, 1584, .inl (aI fnt))), (q 11, .inl (z.1, 1584, .inl (aI fco)))] H := hP
  have hD : va_D A [(q 2, .inr (0, [.ref (q 6), .ref (q 7), .ref (q 8), .ref (q 9), .ref (q 10), .ref (q 11)])), (q 8, .inl (z.1, 66, .inl (aI fsz))), (q 9, .inl (z.1, 1584, .inl (aI frt))), (q 10, .inl (z.1, 1584, .inl (aI fnt))), (q 11, .inl (z.1, 1584, .inl (aI fco)))] := hD
  refine lv_aload_n hx hb d_A_copyEntries_16 rfl (lv_at hl 1 rfl) ?_
  refine va_get (D := G) (ci := 0) (v := .ref (q 9)) (C := R_A) (T := T_A) (N := 6) hx hb hg iw_A hown hE.1 hP 0 rfl rfl 3 (by decide) (hg _ fl_A_21) (fun _ h9 => h9) rfl d_A_copyEntries_17 ?_
  refine lv_iload_n hx hb d_A_copyEntries_20 rfl (lv_at hl 3 rfl) ?_
  refine lv_iconst (v := iI 0) hx hb d_A_copyEntries_21 rfl ?_
  refine qS_i (As := [.int (iI pb), .int (iI 0)]) (rest := [.ref (q 9), .int (iI (pa * 24 + 0)), .ref (q 9)]) (wr := [(q 2, .inr (0, [.ref (q 6), .ref (q 7), .ref (q 8), .ref (q 9), .ref (q 10), .ref (q 11)])), (q 8, .inl (z.1, 66, .inl (aI fsz))), (q 9, .inl (z.1, 1584, .inl (aI frt))), (q 10, .inl (z.1, 1584, .inl (aI fnt))), (q 11, .inl (z.1, 1584, .inl (aI fco)))]) hx hb hml hown hg hE hA hS hP hD (k_A_indexOf l G z pb 0) [] [0, 1, 2, 3, 4] rfl rfl (by decide) (by decide) (by decide) ml_A_40 st_A_indexOf in_A co_A_indexOf ok_A_indexOf ⟨Nat.le_of_ble_eq_true rfl, Nat.le_of_ble_eq_true rfl⟩ hl.1 rfl (Nat.le_of_ble_eq_true rfl) d_A_copyEntries_22 ⟨Nat.le_of_ble_eq_true rfl, Nat.le_of_ble_eq_true rfl⟩ (fun r9 u9 H locs hw hP hD hS => ?_)
  obtain ⟨rfl, rfl⟩ := hw
  have hP : va_P G cls0 [(q 2, .inr (0, [.ref (q 6), .ref (q 7), .ref (q 8), .ref (q 9), .ref (q 10), .ref (q 11)])), (q 8, .inl (z.1, 66, .inl (aI fsz))), (q 9, .inl (z.1, 1584, .inl (aI frt))), (q 10, .inl (z.1, 1584, .inl (aI fnt))), (q 11, .inl (z.1, 1584, .inl (aI fco)))] H := hP
  have hD : va_D A [(q 2, .inr (0, [.ref (q 6), .ref (q 7), .ref (q 8), .ref (q 9), .ref (q 10), .ref (q 11)])), (q 8, .inl (z.1, 66, .inl (aI fsz))), (q 9, .inl (z.1, 1584, .inl (aI frt))), (q 10, .inl (z.1, 1584, .inl (aI fnt))), (q 11, .inl (z.1, 1584, .inl (aI fco)))] := hD
  refine lv_iload_n hx hb d_A_copyEntries_25 rfl (lv_at hl 0 rfl) ?_
  refine rv_copy hx hb (hml.trans hl.1.symm) hown hg ml_A_48 hE hP hD hS 2 rfl (sp := pa * 24 + 0) (dp := pb * 24 + 0) (n := fsz pa) (by omega) (by omega) (by have := rsz pa; omega) (by have := rsz pa; omega) (by have := rsz pa; omega) (by decide) (Nat.le_of_ble_eq_true rfl) (Nat.le_of_ble_eq_true rfl) d_A_copyEntries_26 (fun H locs hP hD hS => ?_)
  have hP : va_P G cls0 [(q 2, .inr (0, [.ref (q 6), .ref (q 7), .ref (q 8), .ref (q 9), .ref (q 10), .ref (q 11)])), (q 8, .inl (z.1, 66, .inl (aI fsz))), (q 9, .inl (z.1, 1584, .inl (aI (cZ frt (pa * 24 + 0) (pb * 24 + 0) (fsz pa))))), (q 10, .inl (z.1, 1584, .inl (aI fnt))), (q 11, .inl (z.1, 1584, .inl (aI fco)))] H := hP
  have hD : va_D A [(q 2, .inr (0, [.ref (q 6), .ref (q 7), .ref (q 8), .ref (q 9), .ref (q 10), .ref (q 11)])), (q 8, .inl (z.1, 66, .inl (aI fsz))), (q 9, .inl (z.1, 1584, .inl (aI (cZ frt (pa * 24 + 0) (pb * 24 + 0) (fsz pa))))), (q 10, .inl (z.1, 1584, .inl (aI fnt))), (q 11, .inl (z.1, 1584, .inl (aI fco)))] := hD
  refine lv_aload_n hx hb d_A_copyEntries_29 rfl (lv_at hl 1 rfl) ?_
  refine va_get (D := G) (ci := 0) (v := .ref (q 10)) (C := R_A) (T := T_A) (N := 6) hx hb hg iw_A hown hE.1 hP 0 rfl rfl 4 (by decide) (hg _ fl_A_24) (fun _ h9 => h9) rfl d_A_copyEntries_30 ?_
  refine lv_iload_n hx hb d_A_copyEntries_33 rfl (lv_at hl 2 rfl) ?_
  refine lv_iconst (v := iI 0) hx hb d_A_copyEntries_34 rfl ?_
  refine qS_i (As := [.int (iI pa), .int (iI 0)]) (rest := [.ref (q 10)]) (wr := [(q 2, .inr (0, [.ref (q 6), .ref (q 7), .ref (q 8), .ref (q 9), .ref (q 10), .ref (q 11)])), (q 8, .inl (z.1, 66, .inl (aI fsz))), (q 9, .inl (z.1, 1584, .inl (aI (cZ frt (pa * 24 + 0) (pb * 24 + 0) (fsz pa))))), (q 10, .inl (z.1, 1584, .inl (aI fnt))), (q 11, .inl (z.1, 1584, .inl (aI fco)))]) hx hb hml hown hg hE hA hS hP hD (k_A_indexOf l G z pa 0) [] [0, 1, 2, 3, 4] rfl rfl (by decide) (by decide) (by decide) ml_A_40 st_A_indexOf in_A co_A_indexOf ok_A_indexOf ⟨Nat.le_of_ble_eq_true rfl, Nat.le_of_ble_eq_true rfl⟩ hl.1 rfl (Nat.le_of_ble_eq_true rfl) d_A_copyEntries_35 ⟨Nat.le_of_ble_eq_true rfl, Nat.le_of_ble_eq_true rfl⟩ (fun r9 u9 H locs hw hP hD hS => ?_)
  obtain ⟨rfl, rfl⟩ := hw
  have hP : va_P G cls0 [(q 2, .inr (0, [.ref (q 6), .ref (q 7), .ref (q 8), .ref (q 9), .ref (q 10), .ref (q 11)])), (q 8, .inl (z.1, 66, .inl (aI fsz))), (q 9, .inl (z.1, 1584, .inl (aI (cZ frt (pa * 24 + 0) (pb * 24 + 0) (fsz pa))))), (q 10, .inl (z.1, 1584, .inl (aI fnt))), (q 11, .inl (z.1, 1584, .inl (aI fco)))] H := hP
  have hD : va_D A [(q 2, .inr (0, [.ref (q 6), .ref (q 7), .ref (q 8), .ref (q 9), .ref (q 10), .ref (q 11)])), (q 8, .inl (z.1, 66, .inl (aI fsz))), (q 9, .inl (z.1, 1584, .inl (aI (cZ frt (pa * 24 + 0) (pb * 24 + 0) (fsz pa))))), (q 10, .inl (z.1, 1584, .inl (aI fnt))), (q 11, .inl (z.1, 1584, .inl (aI fco)))] := hD
  refine lv_aload_n hx hb d_A_copyEntries_38 rfl (lv_at hl 1 rfl) ?_
  refine va_get (D := G) (ci := 0) (v := .ref (q 10)) (C := R_A) (T := T_A) (N := 6) hx hb hg iw_A hown hE.1 hP 0 rfl rfl 4 (by decide) (hg _ fl_A_24) (fun _ h9 => h9) rfl d_A_copyEntries_39 ?_
  refine lv_iload_n hx hb d_A_copyEntries_42 rfl (lv_at hl 3 rfl) ?_
  refine lv_iconst (v := iI 0) hx hb d_A_copyEntries_43 rfl ?_
  refine qS_i (As := [.int (iI pb), .int (iI 0)]) (rest := [.ref (q 10), .int (iI (pa * 24 + 0)), .ref (q 10)]) (wr := [(q 2, .inr (0, [.ref (q 6), .ref (q 7), .ref (q 8), .ref (q 9), .ref (q 10), .ref (q 11)])), (q 8, .inl (z.1, 66, .inl (aI fsz))), (q 9, .inl (z.1, 1584, .inl (aI (cZ frt (pa * 24 + 0) (pb * 24 + 0) (fsz pa))))), (q 10, .inl (z.1, 1584, .inl (aI fnt))), (q 11, .inl (z.1, 1584, .inl (aI fco)))]) hx hb hml hown hg hE hA hS hP hD (k_A_indexOf l G z pb 0) [] [0, 1, 2, 3, 4] rfl rfl (by decide) (by decide) (by decide) ml_A_40 st_A_indexOf in_A co_A_indexOf ok_A_indexOf ⟨Nat.le_of_ble_eq_true rfl, Nat.le_of_ble_eq_true rfl⟩ hl.1 rfl (Nat.le_of_ble_eq_true rfl) d_A_copyEntries_44 ⟨Nat.le_of_ble_eq_true rfl, Nat.le_of_ble_eq_true rfl⟩ (fun r9 u9 H locs hw hP hD hS => ?_)
  obtain ⟨rfl, rfl⟩ := hw
  have hP : va_P G cls0 [(q 2, .inr (0, [.ref (q 6), .ref (q 7), .ref (q 8), .ref (q 9), .ref (q 10), .ref (q 11)])), (q 8, .inl (z.1, 66, .inl (aI fsz))), (q 9, .inl (z.1, 1584, .inl (aI (cZ frt (pa * 24 + 0) (pb * 24 + 0) (fsz pa))))), (q 10, .inl (z.1, 1584, .inl (aI fnt))), (q 11, .inl (z.1, 1584, .inl (aI fco)))] H := hP
  have hD : va_D A [(q 2, .inr (0, [.ref (q 6), .ref (q 7), .ref (q 8), .ref (q 9), .ref (q 10), .ref (q 11)])), (q 8, .inl (z.1, 66, .inl (aI fsz))), (q 9, .inl (z.1, 1584, .inl (aI (cZ frt (pa * 24 + 0) (pb * 24 + 0) (fsz pa))))), (q 10, .inl (z.1, 1584, .inl (aI fnt))), (q 11, .inl (z.1, 1584, .inl (aI fco)))] := hD
  refine lv_iload_n hx hb d_A_copyEntries_47 rfl (lv_at hl 0 rfl) ?_
  refine rv_copy hx hb (hml.trans hl.1.symm) hown hg ml_A_48 hE hP hD hS 3 rfl (sp := pa * 24 + 0) (dp := pb * 24 + 0) (n := fsz pa) (by omega) (by omega) (by have := rsz pa; omega) (by have := rsz pa; omega) (by have := rsz pa; omega) (by decide) (Nat.le_of_ble_eq_true rfl) (Nat.le_of_ble_eq_true rfl) d_A_copyEntries_48 (fun H locs hP hD hS => ?_)
  have hP : va_P G cls0 [(q 2, .inr (0, [.ref (q 6), .ref (q 7), .ref (q 8), .ref (q 9), .ref (q 10), .ref (q 11)])), (q 8, .inl (z.1, 66, .inl (aI fsz))), (q 9, .inl (z.1, 1584, .inl (aI (cZ frt (pa * 24 + 0) (pb * 24 + 0) (fsz pa))))), (q 10, .inl (z.1, 1584, .inl (aI (cZ fnt (pa * 24 + 0) (pb * 24 + 0) (fsz pa))))), (q 11, .inl (z.1, 1584, .inl (aI fco)))] H := hP
  have hD : va_D A [(q 2, .inr (0, [.ref (q 6), .ref (q 7), .ref (q 8), .ref (q 9), .ref (q 10), .ref (q 11)])), (q 8, .inl (z.1, 66, .inl (aI fsz))), (q 9, .inl (z.1, 1584, .inl (aI (cZ frt (pa * 24 + 0) (pb * 24 + 0) (fsz pa))))), (q 10, .inl (z.1, 1584, .inl (aI (cZ fnt (pa * 24 + 0) (pb * 24 + 0) (fsz pa))))), (q 11, .inl (z.1, 1584, .inl (aI fco)))] := hD
  refine lv_aload_n hx hb d_A_copyEntries_51 rfl (lv_at hl 1 rfl) ?_
  refine va_get (D := G) (ci := 0) (v := .ref (q 11)) (C := R_A) (T := T_A) (N := 6) hx hb hg iw_A hown hE.1 hP 0 rfl rfl 5 (by decide) (hg _ fl_A_27) (fun _ h9 => h9) rfl d_A_copyEntries_52 ?_
  refine lv_iload_n hx hb d_A_copyEntries_55 rfl (lv_at hl 2 rfl) ?_
  refine lv_iconst (v := iI 0) hx hb d_A_copyEntries_56 rfl ?_
  refine qS_i (As := [.int (iI pa), .int (iI 0)]) (rest := [.ref (q 11)]) (wr := [(q 2, .inr (0, [.ref (q 6), .ref (q 7), .ref (q 8), .ref (q 9), .ref (q 10), .ref (q 11)])), (q 8, .inl (z.1, 66, .inl (aI fsz))), (q 9, .inl (z.1, 1584, .inl (aI (cZ frt (pa * 24 + 0) (pb * 24 + 0) (fsz pa))))), (q 10, .inl (z.1, 1584, .inl (aI (cZ fnt (pa * 24 + 0) (pb * 24 + 0) (fsz pa))))), (q 11, .inl (z.1, 1584, .inl (aI fco)))]) hx hb hml hown hg hE hA hS hP hD (k_A_indexOf l G z pa 0) [] [0, 1, 2, 3, 4] rfl rfl (by decide) (by decide) (by decide) ml_A_40 st_A_indexOf in_A co_A_indexOf ok_A_indexOf ⟨Nat.le_of_ble_eq_true rfl, Nat.le_of_ble_eq_true rfl⟩ hl.1 rfl (Nat.le_of_ble_eq_true rfl) d_A_copyEntries_57 ⟨Nat.le_of_ble_eq_true rfl, Nat.le_of_ble_eq_true rfl⟩ (fun r9 u9 H locs hw hP hD hS => ?_)
  obtain ⟨rfl, rfl⟩ := hw
  have hP : va_P G cls0 [(q 2, .inr (0, [.ref (q 6), .ref (q 7), .ref (q 8), .ref (q 9), .ref (q 10), .ref (q 11)])), (q 8, .inl (z.1, 66, .inl (aI fsz))), (q 9, .inl (z.1, 1584, .inl (aI (cZ frt (pa * 24 + 0) (pb * 24 + 0) (fsz pa))))), (q 10, .inl (z.1, 1584, .inl (aI (cZ fnt (pa * 24 + 0) (pb * 24 + 0) (fsz pa))))), (q 11, .inl (z.1, 1584, .inl (aI fco)))] H := hP
  have hD : va_D A [(q 2, .inr (0, [.ref (q 6), .ref (q 7), .ref (q 8), .ref (q 9), .ref (q 10), .ref (q 11)])), (q 8, .inl (z.1, 66, .inl (aI fsz))), (q 9, .inl (z.1, 1584, .inl (aI (cZ frt (pa * 24 + 0) (pb * 24 + 0) (fsz pa))))), (q 10, .inl (z.1, 1584, .inl (aI (cZ fnt (pa * 24 + 0) (pb * 24 + 0) (fsz pa))))), (q 11, .inl (z.1, 1584, .inl (aI fco)))] := hD
  refine lv_aload_n hx hb d_A_copyEntries_60 rfl (lv_at hl 1 rfl) ?_
  refine va_get (D := G) (ci := 0) (v := .ref (q 11)) (C := R_A) (T := T_A) (N := 6) hx hb hg iw_A hown hE.1 hP 0 rfl rfl 5 (by decide) (hg _ fl_A_27) (fun _ h9 => h9) rfl d_A_copyEntries_61 ?_
  refine lv_iload_n hx hb d_A_copyEntries_64 rfl (lv_at hl 3 rfl) ?_
  refine lv_iconst (v := iI 0) hx hb d_A_copyEntries_65 rfl ?_
  refine qS_i (As := [.int (iI pb), .int (iI 0)]) (rest := [.ref (q 11), .int (iI (pa * 24 + 0)), .ref (q 11)]) (wr := [(q 2, .inr (0, [.ref (q 6), .ref (q 7), .ref (q 8), .ref (q 9), .ref (q 10), .ref (q 11)])), (q 8, .inl (z.1, 66, .inl (aI fsz))), (q 9, .inl (z.1, 1584, .inl (aI (cZ frt (pa * 24 + 0) (pb * 24 + 0) (fsz pa))))), (q 10, .inl (z.1, 1584, .inl (aI (cZ fnt (pa * 24 + 0) (pb * 24 + 0) (fsz pa))))), (q 11, .inl (z.1, 1584, .inl (aI fco)))]) hx hb hml hown hg hE hA hS hP hD (k_A_indexOf l G z pb 0) [] [0, 1, 2, 3, 4] rfl rfl (by decide) (by decide) (by decide) ml_A_40 st_A_indexOf in_A co_A_indexOf ok_A_indexOf ⟨Nat.le_of_ble_eq_true rfl, Nat.le_of_ble_eq_true rfl⟩ hl.1 rfl (Nat.le_of_ble_eq_true rfl) d_A_copyEntries_66 ⟨Nat.le_of_ble_eq_true rfl, Nat.le_of_ble_eq_true rfl⟩ (fun r9 u9 H locs hw hP hD hS => ?_)
  obtain ⟨rfl, rfl⟩ := hw
  have hP : va_P G cls0 [(q 2, .inr (0, [.ref (q 6), .ref (q 7), .ref (q 8), .ref (q 9), .ref (q 10), .ref (q 11)])), (q 8, .inl (z.1, 66, .inl (aI fsz))), (q 9, .inl (z.1, 1584, .inl (aI (cZ frt (pa * 24 + 0) (pb * 24 + 0) (fsz pa))))), (q 10, .inl (z.1, 1584, .inl (aI (cZ fnt (pa * 24 + 0) (pb * 24 + 0) (fsz pa))))), (q 11, .inl (z.1, 1584, .inl (aI fco)))] H := hP
  have hD : va_D A [(q 2, .inr (0, [.ref (q 6), .ref (q 7), .ref (q 8), .ref (q 9), .ref (q 10), .ref (q 11)])), (q 8, .inl (z.1, 66, .inl (aI fsz))), (q 9, .inl (z.1, 1584, .inl (aI (cZ frt (pa * 24 + 0) (pb * 24 + 0) (fsz pa))))), (q 10, .inl (z.1, 1584, .inl (aI (cZ fnt (pa * 24 + 0) (pb * 24 + 0) (fsz pa))))), (q 11, .inl (z.1, 1584, .inl (aI fco)))] := hD
  refine lv_iload_n hx hb d_A_copyEntries_69 rfl (lv_at hl 0 rfl) ?_
  refine rv_copy hx hb (hml.trans hl.1.symm) hown hg ml_A_48 hE hP hD hS 4 rfl (sp := pa * 24 + 0) (dp := pb * 24 + 0) (n := fsz pa) (by omega) (by omega) (by have := rsz pa; omega) (by have := rsz pa; omega) (by have := rsz pa; omega) (by decide) (Nat.le_of_ble_eq_true rfl) (Nat.le_of_ble_eq_true rfl) d_A_copyEntries_70 (fun H locs hP hD hS => ?_)
  have hP : va_P G cls0 [(q 2, .inr (0, [.ref (q 6), .ref (q 7), .ref (q 8), .ref (q 9), .ref (q 10), .ref (q 11)])), (q 8, .inl (z.1, 66, .inl (aI fsz))), (q 9, .inl (z.1, 1584, .inl (aI (cZ frt (pa * 24 + 0) (pb * 24 + 0) (fsz pa))))), (q 10, .inl (z.1, 1584, .inl (aI (cZ fnt (pa * 24 + 0) (pb * 24 + 0) (fsz pa))))), (q 11, .inl (z.1, 1584, .inl (aI (cZ fco (pa * 24 + 0) (pb * 24 + 0) (fsz pa)))))] H := hP
  have hD : va_D A [(q 2, .inr (0, [.ref (q 6), .ref (q 7), .ref (q 8), .ref (q 9), .ref (q 10), .ref (q 11)])), (q 8, .inl (z.1, 66, .inl (aI fsz))), (q 9, .inl (z.1, 1584, .inl (aI (cZ frt (pa * 24 + 0) (pb * 24 + 0) (fsz pa))))), (q 10, .inl (z.1, 1584, .inl (aI (cZ fnt (pa * 24 + 0) (pb * 24 + 0) (fsz pa))))), (q 11, .inl (z.1, 1584, .inl (aI (cZ fco (pa * 24 + 0) (pb * 24 + 0) (fsz pa)))))] := hD
  refine lv_aload_n hx hb d_A_copyEntries_73 rfl (lv_at hl 1 rfl) ?_
  refine va_get (D := G) (ci := 0) (v := .ref (q 8)) (C := R_A) (T := T_A) (N := 6) hx hb hg iw_A hown hE.1 hP 0 rfl rfl 2 (by decide) (hg _ fl_A_18) (fun _ h9 => h9) rfl d_A_copyEntries_74 ?_
  refine lv_iload_n hx hb d_A_copyEntries_77 rfl (lv_at hl 3 rfl) ?_
  refine lv_iload_n hx hb d_A_copyEntries_78 rfl (lv_at hl 0 rfl) ?_
  refine rv_iast hx hb hE hP hD hS 1 rfl (i := pb) (x := fsz pa) (by omega) (by omega) (by decide) d_A_copyEntries_79 (fun H locs hP hD hS => ?_)
  have hP : va_P G cls0 [(q 2, .inr (0, [.ref (q 6), .ref (q 7), .ref (q 8), .ref (q 9), .ref (q 10), .ref (q 11)])), (q 8, .inl (z.1, 66, .inl (aI (uZ fsz pb (fsz pa))))), (q 9, .inl (z.1, 1584, .inl (aI (cZ frt (pa * 24 + 0) (pb * 24 + 0) (fsz pa))))), (q 10, .inl (z.1, 1584, .inl (aI (cZ fnt (pa * 24 + 0) (pb * 24 + 0) (fsz pa))))), (q 11, .inl (z.1, 1584, .inl (aI (cZ fco (pa * 24 + 0) (pb * 24 + 0) (fsz pa)))))] H := hP
  have hD : va_D A [(q 2, .inr (0, [.ref (q 6), .ref (q 7), .ref (q 8), .ref (q 9), .ref (q 10), .ref (q 11)])), (q 8, .inl (z.1, 66, .inl (aI (uZ fsz pb (fsz pa))))), (q 9, .inl (z.1, 1584, .inl (aI (cZ frt (pa * 24 + 0) (pb * 24 + 0) (fsz pa))))), (q 10, .inl (z.1, 1584, .inl (aI (cZ fnt (pa * 24 + 0) (pb * 24 + 0) (fsz pa))))), (q 11, .inl (z.1, 1584, .inl (aI (cZ fco (pa * 24 + 0) (pb * 24 + 0) (fsz pa)))))] := hD
  have hP9 : va_P G cls0 [(q 2, .inr (0, [.ref (q 6), .ref (q 7), .ref (q 8), .ref (q 9), .ref (q 10), .ref (q 11)])), (q 8, .inl (z.1, 66, .inl (aI (uZ fsz pb (fsz pa))))), (q 9, .inl (z.1, 1584, .inl (aI (cZ frt (pa * 24 + 0) (pb * 24 + 0) (fsz pa))))), (q 10, .inl (z.1, 1584, .inl (aI (cZ fnt (pa * 24 + 0) (pb * 24 + 0) (fsz pa))))), (q 11, .inl (z.1, 1584, .inl (aI (cZ fco (pa * 24 + 0) (pb * 24 + 0) (fsz pa)))))] H := hP.sub [0, 1, 2, 3, 4] rfl
  have hD9 : va_D A [(q 2, .inr (0, [.ref (q 6), .ref (q 7), .ref (q 8), .ref (q 9), .ref (q 10), .ref (q 11)])), (q 8, .inl (z.1, 66, .inl (aI (uZ fsz pb (fsz pa))))), (q 9, .inl (z.1, 1584, .inl (aI (cZ frt (pa * 24 + 0) (pb * 24 + 0) (fsz pa))))), (q 10, .inl (z.1, 1584, .inl (aI (cZ fnt (pa * 24 + 0) (pb * 24 + 0) (fsz pa))))), (q 11, .inl (z.1, 1584, .inl (aI (cZ fco (pa * 24 + 0) (pb * 24 + 0) (fsz pa)))))] := hD.sub [0, 1, 2, 3, 4] (by decide) rfl
  refine rv_vret hx hb hRt hlocks (Nat.le_refl _) (Nat.le_refl _) hP9 hD9 hS d_A_copyEntries_80 ?_
  exact rfl
end
section
/-! Sorted rows of steps; counting. -/
def srt (f : Int → Int) (n : Int) : Prop := ∀ i j : Int, 0 ≤ i → i < j → j < n → f i < f j
def memF (f : Int → Int) (n s : Int) : Prop := ∃ i : Int, 0 ≤ i ∧ i < n ∧ f i = s
def rmI (f g : Int → Int) (lo hi i kept : Int) : Prop := 0 ≤ kept ∧ kept ≤ i ∧ (∀ j : Int, i ≤ j → g j = f j) ∧ srt g kept ∧ (∀ s : Int, memF g kept s ↔ (memF f i s ∧ (s < lo ∨ hi < s)))
theorem memF_succ {f : Int → Int} {n s : Int} (hn : 0 ≤ n) : memF f (n + 1) s ↔ (memF f n s ∨ f n = s) := by
  constructor
  · rintro ⟨i, h0, h1, h2⟩
    by_cases e : i = n
    · subst e; exact Or.inr h2
    · exact Or.inl ⟨i, h0, by omega, h2⟩
  · rintro (⟨i, h0, h1, h2⟩ | h)
    · exact ⟨i, h0, by omega, h2⟩
    · exact ⟨n, hn, by omega, h⟩
theorem memF_0 {f : Int → Int} {s : Int} : ¬ memF f 0 s := by
  rintro ⟨i, h0, h1, -⟩
  omega
theorem memF_congr {f g : Int → Int} {n s : Int} (h : ∀ j : Int, 0 ≤ j → j < n → g j = f j) : memF g n s ↔ memF f n s := by
  constructor
  · rintro ⟨i, h0, h1, h2⟩; exact ⟨i, h0, h1, by rw [← h i h0 h1]; exact h2⟩
  · rintro ⟨i, h0, h1, h2⟩; exact ⟨i, h0, h1, by rw [h i h0 h1]; exact h2⟩
theorem rm_0 {f : Int → Int} {lo hi : Int} : rmI f f lo hi 0 0 :=
  ⟨by omega, by omega, fun _ _ => rfl, fun i j h0 h1 h2 => absurd h2 (by omega), fun s => ⟨fun h => absurd h memF_0, fun h => absurd h.1 memF_0⟩⟩
theorem rm_keep {f g : Int → Int} {lo hi i kept fn : Int} (hs : srt f fn) (h0 : 0 ≤ i) (hi1 : i < fn) (h : rmI f g lo hi i kept) (hk : g i < lo ∨ hi < g i) : rmI f (uZ g kept (g i)) lo hi (i + 1) (kept + 1) := by
  obtain ⟨k0, k1, k2, k3, k4⟩ := h
  have e : g i = f i := k2 i (Int.le_refl _)
  have hlow : ∀ j : Int, 0 ≤ j → j < kept → uZ g kept (g i) j = g j := fun j _ h1 => uZ_n (by omega)
  refine ⟨by omega, by omega, fun j hj => ?_, fun a b ha hab hb => ?_, fun s => ?_⟩
  · rw [uZ_n (by omega)]; exact k2 j (by omega)
  · by_cases hbk : b = kept
    · subst hbk
      rw [uZ_s, hlow a ha hab]
      obtain ⟨⟨j, j0, j1, j2⟩, -⟩ := (k4 (g a)).mp ⟨a, ha, hab, rfl⟩
      rw [← j2, e]
      exact hs j i j0 j1 hi1
    · rw [hlow a ha (by omega), hlow b (by omega) (by omega)]
      exact k3 a b ha hab (by omega)
  · rw [memF_succ k0, uZ_s, memF_congr hlow, k4 s, memF_succ h0]
    constructor
    · rintro (⟨h1, h2⟩ | h)
      · exact ⟨Or.inl h1, h2⟩
      · exact ⟨Or.inr (by rw [← e]; exact h), by rw [← h]; exact hk⟩
    · rintro ⟨h1 | h1, h2⟩
      · exact Or.inl ⟨h1, h2⟩
      · exact Or.inr (by rw [e]; exact h1)
theorem rm_drop {f g : Int → Int} {lo hi i kept : Int} (h0 : 0 ≤ i) (h : rmI f g lo hi i kept) (hk : ¬ (g i < lo ∨ hi < g i)) : rmI f g lo hi (i + 1) kept := by
  obtain ⟨k0, k1, k2, k3, k4⟩ := h
  have e : g i = f i := k2 i (Int.le_refl _)
  refine ⟨k0, by omega, fun j hj => k2 j (by omega), k3, fun s => ?_⟩
  rw [k4 s, memF_succ h0]
  constructor
  · rintro ⟨h1, h2⟩; exact ⟨Or.inl h1, h2⟩
  · rintro ⟨h1 | h1, h2⟩
    · exact ⟨h1, h2⟩
    · exact absurd h2 (by rw [← h1, ← e]; exact hk)
def adI (f g : Int → Int) (st fn t : Int) : Prop := 0 ≤ t ∧ t ≤ fn ∧ (∀ j : Int, 0 ≤ j → j < t → g j = f j) ∧ (∀ j : Int, t < j → j ≤ fn → g j = f (j - 1)) ∧ (∀ j : Int, t ≤ j → j < fn → st < f j)
theorem ad_0 {f : Int → Int} {st fn : Int} (h : 0 ≤ fn) : adI f f st fn fn := ⟨h, by omega, fun _ _ _ => rfl, fun j h0 h1 => absurd h1 (by omega), fun j h0 h1 => absurd h1 (by omega)⟩
theorem ad_step {f g : Int → Int} {st fn t : Int} (h : adI f g st fn t) (h1 : 0 < t) (hk : st < g (t - 1)) : adI f (uZ g t (g (t - 1))) st fn (t + -1) := by
  obtain ⟨k0, k1, k2, k3, k4⟩ := h
  have e : g (t - 1) = f (t - 1) := k2 _ (by omega) (by omega)
  refine ⟨by omega, by omega, fun j j0 j1 => ?_, fun j j0 j1 => ?_, fun j j0 j1 => ?_⟩
  · rw [uZ_n (by omega)]; exact k2 j j0 (by omega)
  · by_cases hj : j = t
    · subst hj; rw [uZ_s, e]
    · rw [uZ_n hj]; exact k3 j (by omega) j1
  · by_cases hj : j = t - 1
    · subst hj; rw [← e]; exact hk
    · exact k4 j (by omega) j1
theorem ad_end {f g : Int → Int} {st fn t : Int} (hs : srt f fn) (hm : ¬ memF f fn st) (h : adI f g st fn t) (hk : t = 0 ∨ g (t - 1) ≤ st) : srt (uZ g t st) (fn + 1) ∧ ∀ s : Int, memF (uZ g t st) (fn + 1) s ↔ (memF f fn s ∨ s = st) := by
  obtain ⟨k0, k1, k2, k3, k4⟩ := h
  have hlt : ∀ j : Int, 0 ≤ j → j < t → f j < st := by
    intro j j0 j1
    have h0 : t ≠ 0 := by omega
    have h1 : f (t - 1) ≤ st := by
      rcases hk with h | h
      · exact absurd h h0
      · rw [k2 _ (by omega) (by omega)] at h; exact h
    have h2 : f j ≤ f (t - 1) := by
      by_cases e : j = t - 1
      · rw [e]; omega
      · have := hs j (t - 1) j0 (by omega) (by omega); omega
    have h3 : f j ≠ st := fun q => hm ⟨j, j0, by omega, q⟩
    omega
  have v1 : ∀ j : Int, 0 ≤ j → j < t → uZ g t st j = f j := fun j j0 j1 => by rw [uZ_n (by omega)]; exact k2 j j0 j1
  have v2 : ∀ j : Int, t < j → j ≤ fn → uZ g t st j = f (j - 1) := fun j j0 j1 => by rw [uZ_n (by omega)]; exact k3 j j0 j1
  refine ⟨fun a b ha hab hb => ?_, fun s => ⟨?_, ?_⟩⟩
  · by_cases hat : a < t
    · rw [v1 a ha hat]
      by_cases hbt : b < t
      · rw [v1 b (by omega) hbt]; exact hs a b ha hab (by omega)
      · by_cases hbe : b = t
        · rw [hbe, uZ_s]; exact hlt a ha hat
        · rw [v2 b (by omega) (by omega)]; have := hlt a ha hat; have := k4 (b - 1) (by omega) (by omega); omega
    · by_cases hae : a = t
      · rw [hae, uZ_s, v2 b (by omega) (by omega)]; exact k4 (b - 1) (by omega) (by omega)
      · rw [v2 a (by omega) (by omega), v2 b (by omega) (by omega)]; exact hs _ _ (by omega) (by omega) (by omega)
  · rintro ⟨j, j0, j1, j2⟩
    by_cases h1 : j < t
    · exact Or.inl ⟨j, j0, by omega, by rw [← j2, v1 j j0 h1]⟩
    · by_cases h2 : j = t
      · rw [h2, uZ_s] at j2; exact Or.inr j2.symm
      · exact Or.inl ⟨j - 1, by omega, by omega, by rw [← j2, v2 j (by omega) (by omega)]⟩
  · rintro (⟨j, j0, j1, j2⟩ | h)
    · by_cases h1 : j < t
      · exact ⟨j, j0, by omega, by rw [v1 j j0 h1]; exact j2⟩
      · exact ⟨j + 1, by omega, by omega, by rw [v2 (j + 1) (by omega) (by omega), show j + 1 - 1 = j by omega]; exact j2⟩
    · exact ⟨t, k0, by omega, by rw [uZ_s]; exact h.symm⟩
/-- how many places below k hold another number than 0 -/
def cN (f : Int → Int) : Nat → Int
  | 0 => 0
  | n + 1 => cN f n + (if f (n : Int) = 0 then 0 else 1)
def cI (f : Int → Int) (k : Int) : Int := cN f k.toNat
theorem cI_0 {f : Int → Int} : cI f 0 = 0 := rfl
theorem cI_s {f : Int → Int} {k : Int} (h : 0 ≤ k) : cI f (k + 1) = cI f k + (if f k = 0 then 0 else 1) := by
  unfold cI
  rw [show (k + 1).toNat = k.toNat + 1 by omega]
  show cN f k.toNat + (if f (k.toNat : Int) = 0 then 0 else 1) = _
  rw [Int.toNat_of_nonneg h]
theorem cI_s0 {f : Int → Int} {k : Int} (h : 0 ≤ k) (hf : f k = 0) : cI f (k + 1) = cI f k := by rw [cI_s h, if_pos hf]; omega
theorem cI_s1 {f : Int → Int} {k : Int} (h : 0 ≤ k) (hf : ¬ f k = 0) : cI f (k + 1) = cI f k + 1 := by rw [cI_s h, if_neg hf]
theorem cN_b (f : Int → Int) : ∀ n : Nat, 0 ≤ cN f n ∧ cN f n ≤ n
  | 0 => by simp [cN]
  | n + 1 => by
    have := cN_b f n
    unfold cN
    split <;> omega
theorem cI_b (f : Int → Int) {k : Int} (h : 0 ≤ k) : 0 ≤ cI f k ∧ cI f k ≤ k := by
  have := cN_b f k.toNat
  unfold cI
  omega
theorem cN_mono (f : Int → Int) (a : Nat) : ∀ d : Nat, cN f a ≤ cN f (a + d)
  | 0 => Int.le_refl _
  | d + 1 => by
    have := cN_mono f a d
    show _ ≤ cN f (a + d) + _
    split <;> omega
theorem cI_mono (f : Int → Int) {a b : Int} (h : a ≤ b) : cI f a ≤ cI f b := by
  unfold cI
  have := cN_mono f a.toNat (b.toNat - a.toNat)
  rw [show a.toNat + (b.toNat - a.toNat) = b.toNat by omega] at this
  exact this
/-- a place that counts is behind its count -/
theorem cI_lt (f : Int → Int) {a b : Int} (h0 : 0 ≤ a) (h : a < b) (hf : ¬ f a = 0) : cI f a < cI f b := by
  have h1 := cI_s1 h0 hf
  have h2 := cI_mono f (show a + 1 ≤ b by omega)
  omega
theorem cN_congr {f g : Int → Int} : ∀ n : Nat, (∀ j : Int, 0 ≤ j → j < n → (f j = 0 ↔ g j = 0)) → cN f n = cN g n
  | 0, _ => rfl
  | n + 1, h => by
    have e := cN_congr n (fun j h0 h1 => h j h0 (by omega))
    have h2 := h (n : Int) (by omega) (by omega)
    unfold cN
    rw [e]
    by_cases hf : f (n : Int) = 0
    · rw [if_pos hf, if_pos (h2.mp hf)]
    · rw [if_neg hf, if_neg (fun q => hf (h2.mpr q))]
theorem cI_congr {f g : Int → Int} {k : Int} (h : ∀ j : Int, 0 ≤ j → j < k → (f j = 0 ↔ g j = 0)) : cI f k = cI g k := cN_congr _ (fun j h0 h1 => h j h0 (by omega))
/-- every number below the count is the count of a place that counts -/
theorem cN_sur (f : Int → Int) : ∀ (n : Nat) (c : Int), 0 ≤ c → c < cN f n → ∃ j : Int, 0 ≤ j ∧ j < n ∧ ¬ f j = 0 ∧ cI f j = c
  | 0, c, h0, h1 => absurd h1 (by simp [cN]; omega)
  | n + 1, c, h0, h1 => by
    by_cases h : c < cN f n
    · obtain ⟨j, a, b, d, e⟩ := cN_sur f n c h0 h
      exact ⟨j, a, by omega, d, e⟩
    · unfold cN at h1
      by_cases hf : f (n : Int) = 0
      · rw [if_pos hf] at h1; omega
      · rw [if_neg hf] at h1
        refine ⟨n, by omega, by omega, hf, ?_⟩
        unfold cI
        rw [show ((n : Int)).toNat = n by omega]
        omega
theorem cI_sur (f : Int → Int) {k c : Int} (hk : 0 ≤ k) (h0 : 0 ≤ c) (h1 : c < cI f k) : ∃ j : Int, 0 ≤ j ∧ j < k ∧ ¬ f j = 0 ∧ cI f j = c := by
  obtain ⟨j, a, b, d, e⟩ := cN_sur f k.toNat c h0 h1
  exact ⟨j, a, by omega, d, e⟩
end
section
set_option maxHeartbeats 4000000 in
set_option maxRecDepth 100000 in
theorem k_K_hasPort (l : Launch) (G : va_G) (z : tz3) (q : Nat → Nat) (fpo : Int → Int) (pn : Int) (fn : Int) (net : Int) (hnet : 0 ≤ net ∧ net < 64) (rpo : ∀ i : Int, 0 ≤ fpo i ∧ fpo i ≤ 1000) : Ki l y_K_hasPort c_K_hasPort 2 (some .boolean) (rmD 0) G z [.ref (q 1), .int (iI net)] [(q 1, .inr (1, [.ref (q 4), .ref (q 5), .int (iI pn), .int (iI fn)])), (q 4, .inl (z.1, 64, .inl (aI fpo)))] (fun r9 u9 => ∃ (rb : Int), u9 = [(q 1, .inr (1, [.ref (q 4), .ref (q 5), .int (iI pn), .int (iI fn)])), (q 4, .inl (z.1, 64, .inl (aI fpo)))] ∧ r9 = iI rb ∧ ((rb = 1 ∧ fpo net ≠ 0) ∨ (rb = 0 ∧ ¬ (fpo net ≠ 0)))) := by
  refine Ki.of (by decide) (Nat.le_of_ble_eq_true rfl) ?_
  intro p e s m below meth c A hB hP hD ls hl
  obtain ⟨hx, hb, hRt, hml, hown, hlocks, hg, hE, hA, hin⟩ := hB
  have hown : s.vm.findClass R_K = some m.cls := hown
  have hl : lv_has ls 2 [(0, .ref (q 1)), (1, .int (iI net))] := hl
  obtain ⟨H, hH⟩ : ∃ H, H = s.heap := ⟨_, rfl⟩
  have hS : va_S A s.heap H [] := by rw [hH]; exact va_S.rf
  rw [← hH] at hP
  rw [← hH]
  have hP : va_P G cls0 [(q 1, .inr (1, [.ref (q 4), .ref (q 5), .int (iI pn), .int (iI fn)])), (q 4, .inl (z.1, 64, .inl (aI fpo)))] H := hP
  have hD : va_D A [(q 1, .inr (1, [.ref (q 4), .ref (q 5), .int (iI pn), .int (iI fn)])), (q 4, .inl (z.1, 64, .inl (aI fpo)))] := hD
  refine lv_aload_n hx hb d_K_hasPort_0 rfl (lv_at hl 0 rfl) ?_
  refine va_get (D := G) (ci := 1) (v := .ref (q 4)) (C := R_K) (T := T_K) (N := 4) hx hb hg iw_K hown hE.1 hP 0 rfl rfl 0 (by decide) (hg _ fl_K_9) (fun _ h9 => h9) rfl d_K_hasPort_1 ?_
  refine lv_iload_n hx hb d_K_hasPort_4 rfl (lv_at hl 1 rfl) ?_
  refine rv_iald hx hb hE hP 1 rfl (i := net) (by omega) (by omega) (by decide) d_K_hasPort_5 ?_
  refine rv_if_eq (tgt := 13) hx hb d_K_hasPort_6 (by decide) (by have := rpo net; constructor <;> omega) (fun c_1 => ?_) (fun c_1 => ?_)
  · skip
    refine lv_iconst (v := iI 0) hx hb d_K_hasPort_13 rfl ?_
    have hP9 : va_P G cls0 [(q 1, .inr (1, [.ref (q 4), .ref (q 5), .int (iI pn), .int (iI fn)])), (q 4, .inl (z.1, 64, .inl (aI fpo)))] H := hP.sub [0, 1] rfl
    have hD9 : va_D A [(q 1, .inr (1, [.ref (q 4), .ref (q 5), .int (iI pn), .int (iI fn)])), (q 4, .inl (z.1, 64, .inl (aI fpo)))] := hD.sub [0, 1] (by decide) rfl
    refine rv_iret hx hb hRt nar_b0 hlocks (Nat.le_refl _) (Nat.le_refl _) hP9 hD9 hS d_K_hasPort_14 ?_
    exact ⟨0, rfl, rfl, (by omega)⟩
  · skip
    refine lv_iconst (v := iI 1) hx hb d_K_hasPort_9 rfl ?_
    refine lv_goto (tgt := 14) hx hb d_K_hasPort_10 (by decide) ?_
    have hP9 : va_P G cls0 [(q 1, .inr (1, [.ref (q 4), .ref (q 5), .int (iI pn), .int (iI fn)])), (q 4, .inl (z.1, 64, .inl (aI fpo)))] H := hP.sub [0, 1] rfl
    have hD9 : va_D A [(q 1, .inr (1, [.ref (q 4), .ref (q 5), .int (iI pn), .int (iI fn)])), (q 4, .inl (z.1, 64, .inl (aI fpo)))] := hD.sub [0, 1] (by decide) rfl
    refine rv_iret hx hb hRt nar_b1 hlocks (Nat.le_refl _) (Nat.le_refl _) hP9 hD9 hS d_K_hasPort_14 ?_
    exact ⟨1, rfl, rfl, (by omega)⟩
set_option maxHeartbeats 4000000 in
set_option maxRecDepth 100000 in
theorem k_K_hasRoomForPort (l : Launch) (G : va_G) (z : tz3) (q : Nat → Nat) (fpo : Int → Int) (pn : Int) (fn : Int) (net : Int) (hnet : 0 ≤ net ∧ net < 64) (rpo : ∀ i : Int, 0 ≤ fpo i ∧ fpo i ≤ 1000) (hpn : 0 ≤ pn ∧ pn ≤ 8) : Ki l y_K_hasRoomForPort c_K_hasRoomForPort 2 (some .boolean) (rmD 1) G z [.ref (q 1), .int (iI net)] [(q 1, .inr (1, [.ref (q 4), .ref (q 5), .int (iI pn), .int (iI fn)])), (q 4, .inl (z.1, 64, .inl (aI fpo)))] (fun r9 u9 => ∃ (rb : Int), u9 = [(q 1, .inr (1, [.ref (q 4), .ref (q 5), .int (iI pn), .int (iI fn)])), (q 4, .inl (z.1, 64, .inl (aI fpo)))] ∧ r9 = iI rb ∧ ((rb = 1 ∧ fpo net ≠ 0 ∨ pn < 8) ∨ (rb = 0 ∧ ¬ (fpo net ≠ 0 ∨ pn < 8)))) := by
  refine Ki.of (by decide) (Nat.le_of_ble_eq_true rfl) ?_
  intro p e s m below meth c A hB hP hD ls hl
  obtain ⟨hx, hb, hRt, hml, hown, hlocks, hg, hE, hA, hin⟩ := hB
  have hown : s.vm.findClass R_K = some m.cls := hown
  have hl : lv_has ls 2 [(0, .ref (q 1)), (1, .int (iI net))] := hl
  obtain ⟨H, hH⟩ : ∃ H, H = s.heap := ⟨_, rfl⟩
  have hS : va_S A s.heap H [] := by rw [hH]; exact va_S.rf
  rw [← hH] at hP
  rw [← hH]
  have hP : va_P G cls0 [(q 1, .inr (1, [.ref (q 4), .ref (q 5), .int (iI pn), .int (iI fn)])), (q 4, .inl (z.1, 64, .inl (aI fpo)))] H := hP
  have hD : va_D A [(q 1, .inr (1, [.ref (q 4), .ref (q 5), .int (iI pn), .int (iI fn)])), (q 4, .inl (z.1, 64, .inl (aI fpo)))] := hD
  refine lv_aload_n hx hb d_K_hasRoomForPort_0 rfl (lv_at hl 0 rfl) ?_
  refine lv_iload_n hx hb d_K_hasRoomForPort_1 rfl (lv_at hl 1 rfl) ?_
  refine qV_i (As := [.int (iI net)]) (rest := []) (wr := []) hx hb hml hown hg hE hA hS hP hD (k_K_hasPort l G z q fpo pn fn net (by omega) (by assumption)) [0, 1] [] rfl rfl (by decide) (by decide) (by decide) (q0 := 0) rfl rfl ml_K_18 im_K_hasPort se_K_hasPort in_K co_K_hasPort ok_K_hasPort ⟨Nat.le_of_ble_eq_true rfl, Nat.le_of_ble_eq_true rfl⟩ hl.1 rfl (Nat.le_of_ble_eq_true rfl) d_K_hasRoomForPort_2 ⟨Nat.le_of_ble_eq_true rfl, Nat.le_of_ble_eq_true rfl⟩ (fun r9 u9 H locs hw hP hD hS => ?_)
  obtain ⟨rb_1, rfl, rfl, fb_2⟩ := hw
  have hP : va_P G cls0 [(q 1, .inr (1, [.ref (q 4), .ref (q 5), .int (iI pn), .int (iI fn)])), (q 4, .inl (z.1, 64, .inl (aI fpo)))] H := hP
  have hD : va_D A [(q 1, .inr (1, [.ref (q 4), .ref (q 5), .int (iI pn), .int (iI fn)])), (q 4, .inl (z.1, 64, .inl (aI fpo)))] := hD
  refine rv_if_ne (tgt := 17) hx hb d_K_hasRoomForPort_5 (by decide) (by constructor <;> omega) (fun c_3 => ?_) (fun c_3 => ?_)
  · skip
    refine lv_iconst (v := iI 1) hx hb d_K_hasRoomForPort_17 rfl ?_
    refine lv_goto (tgt := 22) hx hb d_K_hasRoomForPort_18 (by decide) ?_
    have hP9 : va_P G cls0 [(q 1, .inr (1, [.ref (q 4), .ref (q 5), .int (iI pn), .int (iI fn)])), (q 4, .inl (z.1, 64, .inl (aI fpo)))] H := hP.sub [0, 1] rfl
    have hD9 : va_D A [(q 1, .inr (1, [.ref (q 4), .ref (q 5), .int (iI pn), .int (iI fn)])), (q 4, .inl (z.1, 64, .inl (aI fpo)))] := hD.sub [0, 1] (by decide) rfl
    refine rv_iret hx hb hRt nar_b1 hlocks (Nat.le_refl _) (Nat.le_refl _) hP9 hD9 hS d_K_hasRoomForPort_22 ?_
    exact ⟨1, rfl, rfl, (by omega)⟩
  · skip
    refine lv_aload_n hx hb d_K_hasRoomForPort_8 rfl (lv_at hl 0 rfl) ?_
    refine va_get (D := G) (ci := 1) (v := .int (iI pn)) (C := R_K) (T := T_K) (N := 4) hx hb hg iw_K hown hE.1 hP 0 rfl rfl 2 (by decide) (hg _ fl_K_22) (fun _ h9 => h9) rfl d_K_hasRoomForPort_9 ?_
    refine lv_bipush (v := iI 8) hx hb d_K_hasRoomForPort_12 (by decide +kernel) ?_
    refine rv_icmp_ge (tgt := 21) hx hb d_K_hasRoomForPort_14 (by decide) (by constructor <;> omega) ⟨by decide, by decide⟩ (fun c_4 => ?_) (fun c_4 => ?_)
    · skip
      refine lv_iconst (v := iI 0) hx hb d_K_hasRoomForPort_21 rfl ?_
      have hP9 : va_P G cls0 [(q 1, .inr (1, [.ref (q 4), .ref (q 5), .int (iI pn), .int (iI fn)])), (q 4, .inl (z.1, 64, .inl (aI fpo)))] H := hP.sub [0, 1] rfl
      have hD9 : va_D A [(q 1, .inr (1, [.ref (q 4), .ref (q 5), .int (iI pn), .int (iI fn)])), (q 4, .inl (z.1, 64, .inl (aI fpo)))] := hD.sub [0, 1] (by decide) rfl
      refine rv_iret hx hb hRt nar_b0 hlocks (Nat.le_refl _) (Nat.le_refl _) hP9 hD9 hS d_K_hasRoomForPort_22 ?_
      exact ⟨0, rfl, rfl, (by omega)⟩
    · skip
      refine lv_iconst (v := iI 1) hx hb d_K_hasRoomForPort_17 rfl ?_
      refine lv_goto (tgt := 22) hx hb d_K_hasRoomForPort_18 (by decide) ?_
      have hP9 : va_P G cls0 [(q 1, .inr (1, [.ref (q 4), .ref (q 5), .int (iI pn), .int (iI fn)])), (q 4, .inl (z.1, 64, .inl (aI fpo)))] H := hP.sub [0, 1] rfl
      have hD9 : va_D A [(q 1, .inr (1, [.ref (q 4), .ref (q 5), .int (iI pn), .int (iI fn)])), (q 4, .inl (z.1, 64, .inl (aI fpo)))] := hD.sub [0, 1] (by decide) rfl
      refine rv_iret hx hb hRt nar_b1 hlocks (Nat.le_refl _) (Nat.le_refl _) hP9 hD9 hS d_K_hasRoomForPort_22 ?_
      exact ⟨1, rfl, rfl, (by omega)⟩
set_option maxHeartbeats 4000000 in
set_option maxRecDepth 100000 in
theorem k_K_hasFriend (l : Launch) (G : va_G) (z : tz3) (q : Nat → Nat) (ffr : Int → Int) (pn : Int) (fn : Int) (step : Int) (rfr : ∀ i : Int, 0 ≤ ffr i ∧ ffr i ≤ 4095) (hfn : 0 ≤ fn ∧ fn ≤ 16) (hst : inR step) : Ki l y_K_hasFriend c_K_hasFriend 3 (some .boolean) (rmD 0) G z [.ref (q 1), .int (iI step)] [(q 1, .inr (1, [.ref (q 4), .ref (q 5), .int (iI pn), .int (iI fn)])), (q 5, .inl (z.1, 16, .inl (aI ffr)))] (fun r9 u9 => ∃ (rb : Int), u9 = [(q 1, .inr (1, [.ref (q 4), .ref (q 5), .int (iI pn), .int (iI fn)])), (q 5, .inl (z.1, 16, .inl (aI ffr)))] ∧ r9 = iI rb ∧ ((rb = 1 ∧ memF ffr fn step) ∨ (rb = 0 ∧ ¬ (memF ffr fn step)))) := by
  refine Ki.of (by decide) (Nat.le_of_ble_eq_true rfl) ?_
  intro p e s m below meth c A hB hP hD ls hl
  obtain ⟨hx, hb, hRt, hml, hown, hlocks, hg, hE, hA, hin⟩ := hB
  have hown : s.vm.findClass R_K = some m.cls := hown
  have hl : lv_has ls 3 [(0, .ref (q 1)), (1, .int (iI step))] := hl
  obtain ⟨H, hH⟩ : ∃ H, H = s.heap := ⟨_, rfl⟩
  have hS : va_S A s.heap H [] := by rw [hH]; exact va_S.rf
  rw [← hH] at hP
  rw [← hH]
  have hP : va_P G cls0 [(q 1, .inr (1, [.ref (q 4), .ref (q 5), .int (iI pn), .int (iI fn)])), (q 5, .inl (z.1, 16, .inl (aI ffr)))] H := hP
  have hD : va_D A [(q 1, .inr (1, [.ref (q 4), .ref (q 5), .int (iI pn), .int (iI fn)])), (q 5, .inl (z.1, 16, .inl (aI ffr)))] := hD
  refine lv_iconst (v := iI 0) hx hb d_K_hasFriend_0 rfl ?_
  refine lv_istore_n (lv' := [(2, .int (iI 0)), (0, .ref (q 1)), (1, .int (iI step))]) hx hb d_K_hasFriend_1 rfl hl (by decide) rfl (fun ls hl => ?_)
  have L2 : ∀ n9 : Nat, ∀ (i : Int), (fn - i : Int).toNat < n9 → (0 ≤ i ∧ i ≤ fn) → (¬ memF ffr i step) → ∀ (H : Heap) (locs : List Loc), va_P G cls0 [(q 1, .inr (1, [.ref (q 4), .ref (q 5), .int (iI pn), .int (iI fn)])), (q 5, .inl (z.1, 16, .inl (aI ffr)))] H → va_D A [(q 1, .inr (1, [.ref (q 4), .ref (q 5), .int (iI pn), .int (iI fn)])), (q 5, .inl (z.1, 16, .inl (aI ffr)))] → va_S A s.heap H locs → ∀ ls : Array Slot, lv_has ls 3 [(0, .ref (q 1)), (1, .int (iI step)), (2, .int (iI i))] → W p l e (rmD 0) s m [.ref (q 1), .int (iI step)].toArray below meth c H locs 0 0 (Zi below [.ref (q 1), .int (iI step)].toArray s (rmD 0) G A (fun r9 u9 => ∃ (rb : Int), u9 = [(q 1, .inr (1, [.ref (q 4), .ref (q 5), .int (iI pn), .int (iI fn)])), (q 5, .inl (z.1, 16, .inl (aI ffr)))] ∧ r9 = iI rb ∧ ((rb = 1 ∧ memF ffr fn step) ∨ (rb = 0 ∧ ¬ (memF ffr fn step))))) (F0 m 2 ls []) := by
    intro n9
    induction n9 with
    | zero => intro i hmu; exact absurd hmu (Nat.not_lt_zero _)
    | succ n9 ih =>
      intro i hmu h1 hno H locs hP hD hS ls hl
      refine lv_iload_n hx hb d_K_hasFriend_2 rfl (lv_at hl 2 rfl) ?_
      refine lv_aload_n hx hb d_K_hasFriend_3 rfl (lv_at hl 0 rfl) ?_
      refine va_get (D := G) (ci := 1) (v := .int (iI fn)) (C := R_K) (T := T_K) (N := 4) hx hb hg iw_K hown hE.1 hP 0 rfl rfl 3 (by decide) (hg _ fl_K_30) (fun _ h9 => h9) rfl d_K_hasFriend_4 ?_
      refine rv_icmp_ge (tgt := 28) hx hb d_K_hasFriend_7 (by decide) (by constructor <;> omega) (by constructor <;> omega) (fun c_1 => ?_) (fun c_1 => ?_)
      · skip
        refine lv_iconst (v := iI 0) hx hb d_K_hasFriend_28 rfl ?_
        have hP9 : va_P G cls0 [(q 1, .inr (1, [.ref (q 4), .ref (q 5), .int (iI pn), .int (iI fn)])), (q 5, .inl (z.1, 16, .inl (aI ffr)))] H := hP.sub [0, 1] rfl
        have hD9 : va_D A [(q 1, .inr (1, [.ref (q 4), .ref (q 5), .int (iI pn), .int (iI fn)])), (q 5, .inl (z.1, 16, .inl (aI ffr)))] := hD.sub [0, 1] (by decide) rfl
        refine rv_iret hx hb hRt nar_b0 hlocks (Nat.le_refl _) (Nat.le_refl _) hP9 hD9 hS d_K_hasFriend_29 ?_
        exact ⟨0, rfl, rfl, (Or.inr ⟨rfl, by rw [show fn = i by omega]; exact hno⟩)⟩
      · skip
        refine lv_aload_n hx hb d_K_hasFriend_10 rfl (lv_at hl 0 rfl) ?_
        refine va_get (D := G) (ci := 1) (v := .ref (q 5)) (C := R_K) (T := T_K) (N := 4) hx hb hg iw_K hown hE.1 hP 0 rfl rfl 1 (by decide) (hg _ fl_K_15) (fun _ h9 => h9) rfl d_K_hasFriend_11 ?_
        refine lv_iload_n hx hb d_K_hasFriend_14 rfl (lv_at hl 2 rfl) ?_
        refine rv_iald hx hb hE hP 1 rfl (i := i) (by omega) (by omega) (by decide) d_K_hasFriend_15 ?_
        refine lv_iload_n hx hb d_K_hasFriend_16 rfl (lv_at hl 1 rfl) ?_
        refine rv_icmp_ne (tgt := 22) hx hb d_K_hasFriend_17 (by decide) (by have := rfr i; constructor <;> omega) (by constructor <;> omega) (fun c_2 => ?_) (fun c_2 => ?_)
        · skip
          have hne := c_2
          refine lv_iinc (v := iI (i + 1)) (lv' := [(2, .int (iI (i + 1))), (0, .ref (q 1)), (1, .int (iI step))]) hx hb d_K_hasFriend_22 hl (k := 2) rfl (iI_add _ _) (by decide) rfl (fun ls hl => ?_)
          refine lv_goto (tgt := 2) hx hb d_K_hasFriend_25 (by decide) ?_
          exact ih (i + 1) (by omega) (by omega) (fun q => by rcases (memF_succ h1.1).mp q with q | q; exact hno q; exact hne q) H _ (hP.sub [0, 1] rfl) (hD.sub [0, 1] (by decide) rfl) hS ls (lv_sub hl [1, 2, 0] rfl)
        · skip
          have he := c_2
          refine lv_iconst (v := iI 1) hx hb d_K_hasFriend_20 rfl ?_
          have hP9 : va_P G cls0 [(q 1, .inr (1, [.ref (q 4), .ref (q 5), .int (iI pn), .int (iI fn)])), (q 5, .inl (z.1, 16, .inl (aI ffr)))] H := hP.sub [0, 1] rfl
          have hD9 : va_D A [(q 1, .inr (1, [.ref (q 4), .ref (q 5), .int (iI pn), .int (iI fn)])), (q 5, .inl (z.1, 16, .inl (aI ffr)))] := hD.sub [0, 1] (by decide) rfl
          refine rv_iret hx hb hRt nar_b1 hlocks (Nat.le_refl _) (Nat.le_refl _) hP9 hD9 hS d_K_hasFriend_21 ?_
          exact ⟨1, rfl, rfl, (Or.inl ⟨rfl, i, h1.1, by omega, he⟩)⟩
  exact L2 ((fn - 0 : Int).toNat + 1) 0 (Nat.lt_succ_self _) (by omega) memF_0 H _ (hP.sub [0, 1] rfl) (hD.sub [0, 1] (by decide) rfl) hS ls (lv_sub hl [1, 2, 0] rfl)
set_option maxHeartbeats 4000000 in
set_option maxRecDepth 100000 in
theorem k_K_hasRoomForFriend (l : Launch) (G : va_G) (z : tz3) (q : Nat → Nat) (pn : Int) (fn : Int) (hfn : 0 ≤ fn ∧ fn ≤ 16) : Ki l y_K_hasRoomForFriend c_K_hasRoomForFriend 1 (some .boolean) (rmD 0) G z [.ref (q 1)] [(q 1, .inr (1, [.ref (q 4), .ref (q 5), .int (iI pn), .int (iI fn)]))] (fun r9 u9 => ∃ (rb : Int), u9 = [(q 1, .inr (1, [.ref (q 4), .ref (q 5), .int (iI pn), .int (iI fn)]))] ∧ r9 = iI rb ∧ ((rb = 1 ∧ fn < 16) ∨ (rb = 0 ∧ ¬ (fn < 16)))) := by
  refine Ki.of (by decide) (Nat.le_of_ble_eq_true rfl) ?_
  intro p e s m below meth c A hB hP hD ls hl
  obtain ⟨hx, hb, hRt, hml, hown, hlocks, hg, hE, hA, hin⟩ := hB
  have hown : s.vm.findClass R_K = some m.cls := hown
  have hl : lv_has ls 1 [(0, .ref (q 1))] := hl
  obtain ⟨H, hH⟩ : ∃ H, H = s.heap := ⟨_, rfl⟩
  have hS : va_S A s.heap H [] := by rw [hH]; exact va_S.rf
  rw [← hH] at hP
  rw [← hH]
  have hP : va_P G cls0 [(q 1, .inr (1, [.ref (q 4), .ref (q 5), .int (iI pn), .int (iI fn)]))] H := hP
  have hD : va_D A [(q 1, .inr (1, [.ref (q 4), .ref (q 5), .int (iI pn), .int (iI fn)]))] := hD
  refine lv_aload_n hx hb d_K_hasRoomForFriend_0 rfl (lv_at hl 0 rfl) ?_
  refine va_get (D := G) (ci := 1) (v := .int (iI fn)) (C := R_K) (T := T_K) (N := 4) hx hb hg iw_K hown hE.1 hP 0 rfl rfl 3 (by decide) (hg _ fl_K_30) (fun _ h9 => h9) rfl d_K_hasRoomForFriend_1 ?_
  refine lv_bipush (v := iI 16) hx hb d_K_hasRoomForFriend_4 (by decide +kernel) ?_
  refine rv_icmp_ge (tgt := 13) hx hb d_K_hasRoomForFriend_6 (by decide) (by constructor <;> omega) ⟨by decide, by decide⟩ (fun c_1 => ?_) (fun c_1 => ?_)
  · skip
    refine lv_iconst (v := iI 0) hx hb d_K_hasRoomForFriend_13 rfl ?_
    have hP9 : va_P G cls0 [(q 1, .inr (1, [.ref (q 4), .ref (q 5), .int (iI pn), .int (iI fn)]))] H := hP.sub [0] rfl
    have hD9 : va_D A [(q 1, .inr (1, [.ref (q 4), .ref (q 5), .int (iI pn), .int (iI fn)]))] := hD.sub [0] (by decide) rfl
    refine rv_iret hx hb hRt nar_b0 hlocks (Nat.le_refl _) (Nat.le_refl _) hP9 hD9 hS d_K_hasRoomForFriend_14 ?_
    exact ⟨0, rfl, rfl, (by omega)⟩
  · skip
    refine lv_iconst (v := iI 1) hx hb d_K_hasRoomForFriend_9 rfl ?_
    refine lv_goto (tgt := 14) hx hb d_K_hasRoomForFriend_10 (by decide) ?_
    have hP9 : va_P G cls0 [(q 1, .inr (1, [.ref (q 4), .ref (q 5), .int (iI pn), .int (iI fn)]))] H := hP.sub [0] rfl
    have hD9 : va_D A [(q 1, .inr (1, [.ref (q 4), .ref (q 5), .int (iI pn), .int (iI fn)]))] := hD.sub [0] (by decide) rfl
    refine rv_iret hx hb hRt nar_b1 hlocks (Nat.le_refl _) (Nat.le_refl _) hP9 hD9 hS d_K_hasRoomForFriend_14 ?_
    exact ⟨1, rfl, rfl, (by omega)⟩
set_option maxHeartbeats 4000000 in
set_option maxRecDepth 100000 in
theorem k_K_addFriend (l : Launch) (G : va_G) (z : tz3) (q : Nat → Nat) (ffr : Int → Int) (pn : Int) (fn : Int) (step : Int) (rfr : ∀ i : Int, 0 ≤ ffr i ∧ ffr i ≤ 4095) (hfn : 0 ≤ fn ∧ fn ≤ 16) (hst : 0 ≤ step ∧ step ≤ 4095) (hroom : fn < 16) (hs : srt ffr fn) (hm : ¬ memF ffr fn step) : Kv l y_K_addFriend c_K_addFriend 3 (rmD 0) G z [.ref (q 1), .int (iI step)] [(q 1, .inr (1, [.ref (q 4), .ref (q 5), .int (iI pn), .int (iI fn)])), (q 5, .inl (z.1, 16, .inl (aI ffr)))] (fun u9 => ∃ (g : Int → Int), u9 = [(q 1, .inr (1, [.ref (q 4), .ref (q 5), .int (iI pn), .int (iI (fn + 1))])), (q 5, .inl (z.1, 16, .inl (aI g)))] ∧ (∀ i : Int, 0 ≤ g i ∧ g i ≤ 4095) ∧ (srt g (fn + 1)) ∧ (∀ s : Int, memF g (fn + 1) s ↔ (memF ffr fn s ∨ s = step))) := by
  refine Kv.of (by decide) (Nat.le_of_ble_eq_true rfl) ?_
  intro p e s m below meth c A hB hP hD ls hl
  obtain ⟨hx, hb, hRt, hml, hown, hlocks, hg, hE, hA, hin⟩ := hB
  have hown : s.vm.findClass R_K = some m.cls := hown
  have hl : lv_has ls 3 [(0, .ref (q 1)), (1, .int (iI step))] := hl
  obtain ⟨H, hH⟩ : ∃ H, H = s.heap := ⟨_, rfl⟩
  have hS : va_S A s.heap H [] := by rw [hH]; exact va_S.rf
  rw [← hH] at hP
  rw [← hH]
  have hP : va_P G cls0 [(q 1, .inr (1, [.ref (q 4), .ref (q 5), .int (iI pn), .int (iI fn)])), (q 5, .inl (z.1, 16, .inl (aI ffr)))] H := hP
  have hD : va_D A [(q 1, .inr (1, [.ref (q 4), .ref (q 5), .int (iI pn), .int (iI fn)])), (q 5, .inl (z.1, 16, .inl (aI ffr)))] := hD
  refine lv_aload_n hx hb d_K_addFriend_0 rfl (lv_at hl 0 rfl) ?_
  refine va_get (D := G) (ci := 1) (v := .int (iI fn)) (C := R_K) (T := T_K) (N := 4) hx hb hg iw_K hown hE.1 hP 0 rfl rfl 3 (by decide) (hg _ fl_K_30) (fun _ h9 => h9) rfl d_K_addFriend_1 ?_
  refine lv_istore_n (lv' := [(2, .int (iI fn)), (0, .ref (q 1)), (1, .int (iI step))]) hx hb d_K_addFriend_4 rfl hl (by decide) rfl (fun ls hl => ?_)
  have L5 : ∀ n9 : Nat, ∀ (g : Int → Int) (t : Int), (t : Int).toNat < n9 → (∀ i : Int, 0 ≤ g i ∧ g i ≤ 4095) → (adI ffr g step fn t) → (0 ≤ t ∧ t ≤ fn) → ∀ (H : Heap) (locs : List Loc), va_P G cls0 [(q 1, .inr (1, [.ref (q 4), .ref (q 5), .int (iI pn), .int (iI fn)])), (q 5, .inl (z.1, 16, .inl (aI g)))] H → va_D A [(q 1, .inr (1, [.ref (q 4), .ref (q 5), .int (iI pn), .int (iI fn)])), (q 5, .inl (z.1, 16, .inl (aI g)))] → va_S A s.heap H locs → ∀ ls : Array Slot, lv_has ls 3 [(0, .ref (q 1)), (1, .int (iI step)), (2, .int (iI t))] → W p l e (rmD 0) s m [.ref (q 1), .int (iI step)].toArray below meth c H locs 0 0 (Zv below [.ref (q 1), .int (iI step)].toArray s (rmD 0) G A (fun u9 => ∃ (g : Int → Int), u9 = [(q 1, .inr (1, [.ref (q 4), .ref (q 5), .int (iI pn), .int (iI (fn + 1))])), (q 5, .inl (z.1, 16, .inl (aI g)))] ∧ (∀ i : Int, 0 ≤ g i ∧ g i ≤ 4095) ∧ (srt g (fn + 1)) ∧ (∀ s : Int, memF g (fn + 1) s ↔ (memF ffr fn s ∨ s = step)))) (F0 m 5 ls []) := by
    intro n9
    induction n9 with
    | zero => intro g t hmu; exact absurd hmu (Nat.not_lt_zero _)
    | succ n9 ih =>
      intro g t hmu rg hI ht H locs hP hD hS ls hl
      refine lv_iload_n hx hb d_K_addFriend_5 rfl (lv_at hl 2 rfl) ?_
      refine rv_if_le (tgt := 41) hx hb d_K_addFriend_6 (by decide) (by constructor <;> omega) (fun c_1 => ?_) (fun c_1 => ?_)
      · skip
        have hk : t = 0 ∨ g (t - 1) ≤ step := Or.inl (by omega)
        refine lv_aload_n hx hb d_K_addFriend_41 rfl (lv_at hl 0 rfl) ?_
        refine va_get (D := G) (ci := 1) (v := .ref (q 5)) (C := R_K) (T := T_K) (N := 4) hx hb hg iw_K hown hE.1 hP 0 rfl rfl 1 (by decide) (hg _ fl_K_15) (fun _ h9 => h9) rfl d_K_addFriend_42 ?_
        refine lv_iload_n hx hb d_K_addFriend_45 rfl (lv_at hl 2 rfl) ?_
        refine lv_iload_n hx hb d_K_addFriend_46 rfl (lv_at hl 1 rfl) ?_
        refine rv_iast hx hb hE hP hD hS 1 rfl (i := t) (x := step) (by omega) (by omega) (by decide) d_K_addFriend_47 (fun H locs hP hD hS => ?_)
        have hP : va_P G cls0 [(q 1, .inr (1, [.ref (q 4), .ref (q 5), .int (iI pn), .int (iI fn)])), (q 5, .inl (z.1, 16, .inl (aI (uZ g t step))))] H := hP
        have hD : va_D A [(q 1, .inr (1, [.ref (q 4), .ref (q 5), .int (iI pn), .int (iI fn)])), (q 5, .inl (z.1, 16, .inl (aI (uZ g t step))))] := hD
        refine lv_aload_n hx hb d_K_addFriend_48 rfl (lv_at hl 0 rfl) ?_
        refine lv_dup hx hb d_K_addFriend_49 rfl ?_
        refine va_get (D := G) (ci := 1) (v := .int (iI fn)) (C := R_K) (T := T_K) (N := 4) hx hb hg iw_K hown hE.1 hP 0 rfl rfl 3 (by decide) (hg _ fl_K_30) (fun _ h9 => h9) rfl d_K_addFriend_50 ?_
        refine lv_iconst (v := iI 1) hx hb d_K_addFriend_53 rfl ?_
        refine rv_iadd hx hb d_K_addFriend_54 ?_
        refine va_put (D := G) (ci := 1) (v := .int (iI (fn + 1))) (ty := .int) (C := R_K) (T := T_K) (N := 4) hx hb hg iw_K ty_K ty_K_ok nm_K hown hE.1 hP hD hS 0 rfl rfl 3 (by decide) (hg _ fl_K_30) (fun _ h9 => h9) rfl (by decide +kernel) rfl rfl (Nat.le_of_ble_eq_true rfl) d_K_addFriend_55 (fun H locs hP hD hS => ?_)
        have hP : va_P G cls0 [(q 1, .inr (1, [.ref (q 4), .ref (q 5), .int (iI pn), .int (iI (fn + 1))])), (q 5, .inl (z.1, 16, .inl (aI (uZ g t step))))] H := hP
        have hD : va_D A [(q 1, .inr (1, [.ref (q 4), .ref (q 5), .int (iI pn), .int (iI (fn + 1))])), (q 5, .inl (z.1, 16, .inl (aI (uZ g t step))))] := hD
        have hP9 : va_P G cls0 [(q 1, .inr (1, [.ref (q 4), .ref (q 5), .int (iI pn), .int (iI (fn + 1))])), (q 5, .inl (z.1, 16, .inl (aI (uZ g t step))))] H := hP.sub [0, 1] rfl
        have hD9 : va_D A [(q 1, .inr (1, [.ref (q 4), .ref (q 5), .int (iI pn), .int (iI (fn + 1))])), (q 5, .inl (z.1, 16, .inl (aI (uZ g t step))))] := hD.sub [0, 1] (by decide) rfl
        refine rv_vret hx hb hRt hlocks (Nat.le_refl _) (Nat.le_refl _) hP9 hD9 hS d_K_addFriend_58 ?_
        exact ⟨(uZ g t step), rfl, (uZ_rng rg hst), (ad_end hs hm hI hk).1, (ad_end hs hm hI hk).2⟩
      · skip
        refine lv_aload_n hx hb d_K_addFriend_9 rfl (lv_at hl 0 rfl) ?_
        refine va_get (D := G) (ci := 1) (v := .ref (q 5)) (C := R_K) (T := T_K) (N := 4) hx hb hg iw_K hown hE.1 hP 0 rfl rfl 1 (by decide) (hg _ fl_K_15) (fun _ h9 => h9) rfl d_K_addFriend_10 ?_
        refine lv_iload_n hx hb d_K_addFriend_13 rfl (lv_at hl 2 rfl) ?_
        refine lv_iconst (v := iI 1) hx hb d_K_addFriend_14 rfl ?_
        refine rv_isub hx hb d_K_addFriend_15 ?_
        refine rv_iald hx hb hE hP 1 rfl (i := t - 1) (by omega) (by omega) (by decide) d_K_addFriend_16 ?_
        refine lv_iload_n hx hb d_K_addFriend_17 rfl (lv_at hl 1 rfl) ?_
        refine rv_icmp_le (tgt := 41) hx hb d_K_addFriend_18 (by decide) (by have := rg (t - 1); constructor <;> omega) (by constructor <;> omega) (fun c_2 => ?_) (fun c_2 => ?_)
        · skip
          have hk : t = 0 ∨ g (t - 1) ≤ step := Or.inr c_2
          refine lv_aload_n hx hb d_K_addFriend_41 rfl (lv_at hl 0 rfl) ?_
          refine va_get (D := G) (ci := 1) (v := .ref (q 5)) (C := R_K) (T := T_K) (N := 4) hx hb hg iw_K hown hE.1 hP 0 rfl rfl 1 (by decide) (hg _ fl_K_15) (fun _ h9 => h9) rfl d_K_addFriend_42 ?_
          refine lv_iload_n hx hb d_K_addFriend_45 rfl (lv_at hl 2 rfl) ?_
          refine lv_iload_n hx hb d_K_addFriend_46 rfl (lv_at hl 1 rfl) ?_
          refine rv_iast hx hb hE hP hD hS 1 rfl (i := t) (x := step) (by omega) (by omega) (by decide) d_K_addFriend_47 (fun H locs hP hD hS => ?_)
          have hP : va_P G cls0 [(q 1, .inr (1, [.ref (q 4), .ref (q 5), .int (iI pn), .int (iI fn)])), (q 5, .inl (z.1, 16, .inl (aI (uZ g t step))))] H := hP
          have hD : va_D A [(q 1, .inr (1, [.ref (q 4), .ref (q 5), .int (iI pn), .int (iI fn)])), (q 5, .inl (z.1, 16, .inl (aI (uZ g t step))))] := hD
          refine lv_aload_n hx hb d_K_addFriend_48 rfl (lv_at hl 0 rfl) ?_
          refine lv_dup hx hb d_K_addFriend_49 rfl ?_
          refine va_get (D := G) (ci := 1) (v := .int (iI fn)) (C := R_K) (T := T_K) (N := 4) hx hb hg iw_K hown hE.1 hP 0 rfl rfl 3 (by decide) (hg _ fl_K_30) (fun _ h9 => h9) rfl d_K_addFriend_50 ?_
          refine lv_iconst (v := iI 1) hx hb d_K_addFriend_53 rfl ?_
          refine rv_iadd hx hb d_K_addFriend_54 ?_
          refine va_put (D := G) (ci := 1) (v := .int (iI (fn + 1))) (ty := .int) (C := R_K) (T := T_K) (N := 4) hx hb hg iw_K ty_K ty_K_ok nm_K hown hE.1 hP hD hS 0 rfl rfl 3 (by decide) (hg _ fl_K_30) (fun _ h9 => h9) rfl (by decide +kernel) rfl rfl (Nat.le_of_ble_eq_true rfl) d_K_addFriend_55 (fun H locs hP hD hS => ?_)
          have hP : va_P G cls0 [(q 1, .inr (1, [.ref (q 4), .ref (q 5), .int (iI pn), .int (iI (fn + 1))])), (q 5, .inl (z.1, 16, .inl (aI (uZ g t step))))] H := hP
          have hD : va_D A [(q 1, .inr (1, [.ref (q 4), .ref (q 5), .int (iI pn), .int (iI (fn + 1))])), (q 5, .inl (z.1, 16, .inl (aI (uZ g t step))))] := hD
          have hP9 : va_P G cls0 [(q 1, .inr (1, [.ref (q 4), .ref (q 5), .int (iI pn), .int (iI (fn + 1))])), (q 5, .inl (z.1, 16, .inl (aI (uZ g t step))))] H := hP.sub [0, 1] rfl
          have hD9 : va_D A [(q 1, .inr (1, [.ref (q 4), .ref (q 5), .int (iI pn), .int (iI (fn + 1))])), (q 5, .inl (z.1, 16, .inl (aI (uZ g t step))))] := hD.sub [0, 1] (by decide) rfl
          refine rv_vret hx hb hRt hlocks (Nat.le_refl _) (Nat.le_refl _) hP9 hD9 hS d_K_addFriend_58 ?_
          exact ⟨(uZ g t step), rfl, (uZ_rng rg hst), (ad_end hs hm hI hk).1, (ad_end hs hm hI hk).2⟩
        · skip
          have hk : step < g (t - 1) := by omega
          refine lv_aload_n hx hb d_K_addFriend_21 rfl (lv_at hl 0 rfl) ?_
          refine va_get (D := G) (ci := 1) (v := .ref (q 5)) (C := R_K) (T := T_K) (N := 4) hx hb hg iw_K hown hE.1 hP 0 rfl rfl 1 (by decide) (hg _ fl_K_15) (fun _ h9 => h9) rfl d_K_addFriend_22 ?_
          refine lv_iload_n hx hb d_K_addFriend_25 rfl (lv_at hl 2 rfl) ?_
          refine lv_aload_n hx hb d_K_addFriend_26 rfl (lv_at hl 0 rfl) ?_
          refine va_get (D := G) (ci := 1) (v := .ref (q 5)) (C := R_K) (T := T_K) (N := 4) hx hb hg iw_K hown hE.1 hP 0 rfl rfl 1 (by decide) (hg _ fl_K_15) (fun _ h9 => h9) rfl d_K_addFriend_27 ?_
          refine lv_iload_n hx hb d_K_addFriend_30 rfl (lv_at hl 2 rfl) ?_
          refine lv_iconst (v := iI 1) hx hb d_K_addFriend_31 rfl ?_
          refine rv_isub hx hb d_K_addFriend_32 ?_
          refine rv_iald hx hb hE hP 1 rfl (i := t - 1) (by omega) (by omega) (by decide) d_K_addFriend_33 ?_
          refine rv_iast hx hb hE hP hD hS 1 rfl (i := t) (x := g (t - 1)) (by omega) (by omega) (by decide) d_K_addFriend_34 (fun H locs hP hD hS => ?_)
          have hP : va_P G cls0 [(q 1, .inr (1, [.ref (q 4), .ref (q 5), .int (iI pn), .int (iI fn)])), (q 5, .inl (z.1, 16, .inl (aI (uZ g t (g (t - 1))))))] H := hP
          have hD : va_D A [(q 1, .inr (1, [.ref (q 4), .ref (q 5), .int (iI pn), .int (iI fn)])), (q 5, .inl (z.1, 16, .inl (aI (uZ g t (g (t - 1))))))] := hD
          refine lv_iinc (v := iI (t + (-1))) (lv' := [(2, .int (iI (t + (-1)))), (0, .ref (q 1)), (1, .int (iI step))]) hx hb d_K_addFriend_35 hl (k := 2) rfl (iI_add _ _) (by decide) rfl (fun ls hl => ?_)
          refine lv_goto (tgt := 5) hx hb d_K_addFriend_38 (by decide) ?_
          exact ih (uZ g t (g (t - 1))) (t + (-1)) (by omega) (uZ_rng rg (rg _)) (ad_step hI (by omega) hk) (by omega) H _ (hP.sub [0, 1] rfl) (hD.sub [0, 1] (by decide) rfl) hS ls (lv_sub hl [1, 2, 0] rfl)
  exact L5 ((fn : Int).toNat + 1) ffr fn (Nat.lt_succ_self _) rfr (ad_0 hfn.1) (by omega) H _ (hP.sub [0, 1] rfl) (hD.sub [0, 1] (by decide) rfl) hS ls (lv_sub hl [1, 2, 0] rfl)
set_option maxHeartbeats 4000000 in
set_option maxRecDepth 100000 in
theorem k_K_removeFriendsFrom (l : Launch) (G : va_G) (z : tz3) (q : Nat → Nat) (ffr : Int → Int) (pn : Int) (fn : Int) (lo : Int) (hi : Int) (rfr : ∀ i : Int, 0 ≤ ffr i ∧ ffr i ≤ 4095) (hfn : 0 ≤ fn ∧ fn ≤ 16) (hs : srt ffr fn) (hlo : inR lo) (hhi : inR hi) : Kv l y_K_removeFriendsFrom c_K_removeFriendsFrom 6 (rmD 0) G z [.ref (q 1), .int (iI lo), .int (iI hi)] [(q 1, .inr (1, [.ref (q 4), .ref (q 5), .int (iI pn), .int (iI fn)])), (q 5, .inl (z.1, 16, .inl (aI ffr)))] (fun u9 => ∃ (g : Int → Int) (fn2 : Int), u9 = [(q 1, .inr (1, [.ref (q 4), .ref (q 5), .int (iI pn), .int (iI fn2)])), (q 5, .inl (z.1, 16, .inl (aI g)))] ∧ (∀ i : Int, 0 ≤ g i ∧ g i ≤ 4095) ∧ (srt g fn2) ∧ (∀ s : Int, memF g fn2 s ↔ (memF ffr fn s ∧ (s < lo ∨ hi < s))) ∧ (0 ≤ fn2 ∧ fn2 ≤ fn)) := by
  refine Kv.of (by decide) (Nat.le_of_ble_eq_true rfl) ?_
  intro p e s m below meth c A hB hP hD ls hl
  obtain ⟨hx, hb, hRt, hml, hown, hlocks, hg, hE, hA, hin⟩ := hB
  have hown : s.vm.findClass R_K = some m.cls := hown
  have hl : lv_has ls 6 [(0, .ref (q 1)), (1, .int (iI lo)), (2, .int (iI hi))] := hl
  obtain ⟨H, hH⟩ : ∃ H, H = s.heap := ⟨_, rfl⟩
  have hS : va_S A s.heap H [] := by rw [hH]; exact va_S.rf
  rw [← hH] at hP
  rw [← hH]
  have hP : va_P G cls0 [(q 1, .inr (1, [.ref (q 4), .ref (q 5), .int (iI pn), .int (iI fn)])), (q 5, .inl (z.1, 16, .inl (aI ffr)))] H := hP
  have hD : va_D A [(q 1, .inr (1, [.ref (q 4), .ref (q 5), .int (iI pn), .int (iI fn)])), (q 5, .inl (z.1, 16, .inl (aI ffr)))] := hD
  refine lv_iconst (v := iI 0) hx hb d_K_removeFriendsFrom_0 rfl ?_
  refine lv_istore_n (lv' := [(3, .int (iI 0)), (0, .ref (q 1)), (1, .int (iI lo)), (2, .int (iI hi))]) hx hb d_K_removeFriendsFrom_1 rfl hl (by decide) rfl (fun ls hl => ?_)
  refine lv_iconst (v := iI 0) hx hb d_K_removeFriendsFrom_2 rfl ?_
  refine lv_istore (lv' := [(4, .int (iI 0)), (3, .int (iI 0)), (0, .ref (q 1)), (1, .int (iI lo)), (2, .int (iI hi))]) hx hb d_K_removeFriendsFrom_3 hl (by decide) rfl (fun ls hl => ?_)
  have L5 : ∀ n9 : Nat, ∀ (g : Int → Int) (kept : Int) (i : Int), (fn - i : Int).toNat < n9 → (∀ i : Int, 0 ≤ g i ∧ g i ≤ 4095) → (rmI ffr g lo hi i kept) → (0 ≤ i ∧ i ≤ fn ∧ 0 ≤ kept ∧ kept ≤ i) → ∀ (H : Heap) (locs : List Loc), va_P G cls0 [(q 1, .inr (1, [.ref (q 4), .ref (q 5), .int (iI pn), .int (iI fn)])), (q 5, .inl (z.1, 16, .inl (aI g)))] H → va_D A [(q 1, .inr (1, [.ref (q 4), .ref (q 5), .int (iI pn), .int (iI fn)])), (q 5, .inl (z.1, 16, .inl (aI g)))] → va_S A s.heap H locs → ∀ ls : Array Slot, lv_has ls 6 [(0, .ref (q 1)), (1, .int (iI lo)), (2, .int (iI hi)), (3, .int (iI kept)), (4, .int (iI i))] → W p l e (rmD 0) s m [.ref (q 1), .int (iI lo), .int (iI hi)].toArray below meth c H locs 0 0 (Zv below [.ref (q 1), .int (iI lo), .int (iI hi)].toArray s (rmD 0) G A (fun u9 => ∃ (g : Int → Int) (fn2 : Int), u9 = [(q 1, .inr (1, [.ref (q 4), .ref (q 5), .int (iI pn), .int (iI fn2)])), (q 5, .inl (z.1, 16, .inl (aI g)))] ∧ (∀ i : Int, 0 ≤ g i ∧ g i ≤ 4095) ∧ (srt g fn2) ∧ (∀ s : Int, memF g fn2 s ↔ (memF ffr fn s ∧ (s < lo ∨ hi < s))) ∧ (0 ≤ fn2 ∧ fn2 ≤ fn))) (F0 m 5 ls []) := by
    intro n9
    induction n9 with
    | zero => intro g kept i hmu; exact absurd hmu (Nat.not_lt_zero _)
    | succ n9 ih =>
      intro g kept i hmu rg hI h1 H locs hP hD hS ls hl
      refine lv_iload hx hb d_K_removeFriendsFrom_5 (lv_at hl 4 rfl) ?_
      refine lv_aload_n hx hb d_K_removeFriendsFrom_7 rfl (lv_at hl 0 rfl) ?_
      refine va_get (D := G) (ci := 1) (v := .int (iI fn)) (C := R_K) (T := T_K) (N := 4) hx hb hg iw_K hown hE.1 hP 0 rfl rfl 3 (by decide) (hg _ fl_K_30) (fun _ h9 => h9) rfl d_K_removeFriendsFrom_8 ?_
      refine rv_icmp_ge (tgt := 52) hx hb d_K_removeFriendsFrom_11 (by decide) (by constructor <;> omega) (by constructor <;> omega) (fun c_1 => ?_) (fun c_1 => ?_)
      · skip
        refine lv_aload_n hx hb d_K_removeFriendsFrom_52 rfl (lv_at hl 0 rfl) ?_
        refine lv_iload_n hx hb d_K_removeFriendsFrom_53 rfl (lv_at hl 3 rfl) ?_
        refine va_put (D := G) (ci := 1) (v := .int (iI kept)) (ty := .int) (C := R_K) (T := T_K) (N := 4) hx hb hg iw_K ty_K ty_K_ok nm_K hown hE.1 hP hD hS 0 rfl rfl 3 (by decide) (hg _ fl_K_30) (fun _ h9 => h9) rfl (by decide +kernel) rfl rfl (Nat.le_of_ble_eq_true rfl) d_K_removeFriendsFrom_54 (fun H locs hP hD hS => ?_)
        have hP : va_P G cls0 [(q 1, .inr (1, [.ref (q 4), .ref (q 5), .int (iI pn), .int (iI kept)])), (q 5, .inl (z.1, 16, .inl (aI g)))] H := hP
        have hD : va_D A [(q 1, .inr (1, [.ref (q 4), .ref (q 5), .int (iI pn), .int (iI kept)])), (q 5, .inl (z.1, 16, .inl (aI g)))] := hD
        have hP9 : va_P G cls0 [(q 1, .inr (1, [.ref (q 4), .ref (q 5), .int (iI pn), .int (iI kept)])), (q 5, .inl (z.1, 16, .inl (aI g)))] H := hP.sub [0, 1] rfl
        have hD9 : va_D A [(q 1, .inr (1, [.ref (q 4), .ref (q 5), .int (iI pn), .int (iI kept)])), (q 5, .inl (z.1, 16, .inl (aI g)))] := hD.sub [0, 1] (by decide) rfl
        refine rv_vret hx hb hRt hlocks (Nat.le_refl _) (Nat.le_refl _) hP9 hD9 hS d_K_removeFriendsFrom_57 ?_
        exact ⟨g, kept, rfl, rg, hI.2.2.2.1, (by rw [show fn = i by omega]; exact hI.2.2.2.2), (by omega)⟩
      · skip
        refine lv_aload_n hx hb d_K_removeFriendsFrom_14 rfl (lv_at hl 0 rfl) ?_
        refine va_get (D := G) (ci := 1) (v := .ref (q 5)) (C := R_K) (T := T_K) (N := 4) hx hb hg iw_K hown hE.1 hP 0 rfl rfl 1 (by decide) (hg _ fl_K_15) (fun _ h9 => h9) rfl d_K_removeFriendsFrom_15 ?_
        refine lv_iload hx hb d_K_removeFriendsFrom_18 (lv_at hl 4 rfl) ?_
        refine rv_iald hx hb hE hP 1 rfl (i := i) (by omega) (by omega) (by decide) d_K_removeFriendsFrom_20 ?_
        refine lv_istore (lv' := [(5, .int (iI (g i))), (0, .ref (q 1)), (1, .int (iI lo)), (2, .int (iI hi)), (3, .int (iI kept)), (4, .int (iI i))]) hx hb d_K_removeFriendsFrom_21 hl (by decide) rfl (fun ls hl => ?_)
        refine lv_iload hx hb d_K_removeFriendsFrom_23 (lv_at hl 0 rfl) ?_
        refine lv_iload_n hx hb d_K_removeFriendsFrom_25 rfl (lv_at hl 2 rfl) ?_
        refine rv_icmp_lt (tgt := 35) hx hb d_K_removeFriendsFrom_26 (by decide) (by have := rg i; constructor <;> omega) (by constructor <;> omega) (fun c_2 => ?_) (fun c_2 => ?_)
        · skip
          have hk : g i < lo ∨ hi < g i := Or.inl c_2
          refine lv_aload_n hx hb d_K_removeFriendsFrom_35 rfl (lv_at hl 1 rfl) ?_
          refine va_get (D := G) (ci := 1) (v := .ref (q 5)) (C := R_K) (T := T_K) (N := 4) hx hb hg iw_K hown hE.1 hP 0 rfl rfl 1 (by decide) (hg _ fl_K_15) (fun _ h9 => h9) rfl d_K_removeFriendsFrom_36 ?_
          refine lv_iload_n hx hb d_K_removeFriendsFrom_39 rfl (lv_at hl 4 rfl) ?_
          refine lv_iload hx hb d_K_removeFriendsFrom_40 (lv_at hl 0 rfl) ?_
          refine rv_iast hx hb hE hP hD hS 1 rfl (i := kept) (x := g i) (by omega) (by omega) (by decide) d_K_removeFriendsFrom_42 (fun H locs hP hD hS => ?_)
          have hP : va_P G cls0 [(q 1, .inr (1, [.ref (q 4), .ref (q 5), .int (iI pn), .int (iI fn)])), (q 5, .inl (z.1, 16, .inl (aI (uZ g kept (g i)))))] H := hP
          have hD : va_D A [(q 1, .inr (1, [.ref (q 4), .ref (q 5), .int (iI pn), .int (iI fn)])), (q 5, .inl (z.1, 16, .inl (aI (uZ g kept (g i)))))] := hD
          refine lv_iinc (v := iI (kept + 1)) (lv' := [(3, .int (iI (kept + 1))), (5, .int (iI (g i))), (0, .ref (q 1)), (1, .int (iI lo)), (2, .int (iI hi)), (4, .int (iI i))]) hx hb d_K_removeFriendsFrom_43 hl (k := 4) rfl (iI_add _ _) (by decide) rfl (fun ls hl => ?_)
          refine lv_iinc (v := iI (i + 1)) (lv' := [(4, .int (iI (i + 1))), (3, .int (iI (kept + 1))), (5, .int (iI (g i))), (0, .ref (q 1)), (1, .int (iI lo)), (2, .int (iI hi))]) hx hb d_K_removeFriendsFrom_46 hl (k := 5) rfl (iI_add _ _) (by decide) rfl (fun ls hl => ?_)
          refine lv_goto (tgt := 5) hx hb d_K_removeFriendsFrom_49 (by decide) ?_
          exact ih _ _ (i + 1) (by omega) (by first | exact uZ_rng rg (rg _) | exact rg) (by first | exact rm_keep hs h1.1 (by omega) hI hk | exact rm_drop h1.1 hI hk) (by omega) H _ (hP.sub [0, 1] rfl) (hD.sub [0, 1] (by decide) rfl) hS ls (lv_sub hl [3, 4, 5, 1, 0] rfl)
        · skip
          refine lv_iload hx hb d_K_removeFriendsFrom_29 (lv_at hl 0 rfl) ?_
          refine lv_iload_n hx hb d_K_removeFriendsFrom_31 rfl (lv_at hl 3 rfl) ?_
          refine rv_icmp_le (tgt := 46) hx hb d_K_removeFriendsFrom_32 (by decide) (by have := rg i; constructor <;> omega) (by constructor <;> omega) (fun c_3 => ?_) (fun c_3 => ?_)
          · skip
            have hk : ¬ (g i < lo ∨ hi < g i) := by omega
            refine lv_iinc (v := iI (i + 1)) (lv' := [(4, .int (iI (i + 1))), (5, .int (iI (g i))), (0, .ref (q 1)), (1, .int (iI lo)), (2, .int (iI hi)), (3, .int (iI kept))]) hx hb d_K_removeFriendsFrom_46 hl (k := 5) rfl (iI_add _ _) (by decide) rfl (fun ls hl => ?_)
            refine lv_goto (tgt := 5) hx hb d_K_removeFriendsFrom_49 (by decide) ?_
            exact ih _ _ (i + 1) (by omega) (by first | exact uZ_rng rg (rg _) | exact rg) (by first | exact rm_keep hs h1.1 (by omega) hI hk | exact rm_drop h1.1 hI hk) (by omega) H _ (hP.sub [0, 1] rfl) (hD.sub [0, 1] (by decide) rfl) hS ls (lv_sub hl [2, 3, 4, 5, 0] rfl)
          · skip
            have hk : g i < lo ∨ hi < g i := Or.inr (by omega)
            refine lv_aload_n hx hb d_K_removeFriendsFrom_35 rfl (lv_at hl 1 rfl) ?_
            refine va_get (D := G) (ci := 1) (v := .ref (q 5)) (C := R_K) (T := T_K) (N := 4) hx hb hg iw_K hown hE.1 hP 0 rfl rfl 1 (by decide) (hg _ fl_K_15) (fun _ h9 => h9) rfl d_K_removeFriendsFrom_36 ?_
            refine lv_iload_n hx hb d_K_removeFriendsFrom_39 rfl (lv_at hl 4 rfl) ?_
            refine lv_iload hx hb d_K_removeFriendsFrom_40 (lv_at hl 0 rfl) ?_
            refine rv_iast hx hb hE hP hD hS 1 rfl (i := kept) (x := g i) (by omega) (by omega) (by decide) d_K_removeFriendsFrom_42 (fun H locs hP hD hS => ?_)
            have hP : va_P G cls0 [(q 1, .inr (1, [.ref (q 4), .ref (q 5), .int (iI pn), .int (iI fn)])), (q 5, .inl (z.1, 16, .inl (aI (uZ g kept (g i)))))] H := hP
            have hD : va_D A [(q 1, .inr (1, [.ref (q 4), .ref (q 5), .int (iI pn), .int (iI fn)])), (q 5, .inl (z.1, 16, .inl (aI (uZ g kept (g i)))))] := hD
            refine lv_iinc (v := iI (kept + 1)) (lv' := [(3, .int (iI (kept + 1))), (5, .int (iI (g i))), (0, .ref (q 1)), (1, .int (iI lo)), (2, .int (iI hi)), (4, .int (iI i))]) hx hb d_K_removeFriendsFrom_43 hl (k := 4) rfl (iI_add _ _) (by decide) rfl (fun ls hl => ?_)
            refine lv_iinc (v := iI (i + 1)) (lv' := [(4, .int (iI (i + 1))), (3, .int (iI (kept + 1))), (5, .int (iI (g i))), (0, .ref (q 1)), (1, .int (iI lo)), (2, .int (iI hi))]) hx hb d_K_removeFriendsFrom_46 hl (k := 5) rfl (iI_add _ _) (by decide) rfl (fun ls hl => ?_)
            refine lv_goto (tgt := 5) hx hb d_K_removeFriendsFrom_49 (by decide) ?_
            exact ih _ _ (i + 1) (by omega) (by first | exact uZ_rng rg (rg _) | exact rg) (by first | exact rm_keep hs h1.1 (by omega) hI hk | exact rm_drop h1.1 hI hk) (by omega) H _ (hP.sub [0, 1] rfl) (hD.sub [0, 1] (by decide) rfl) hS ls (lv_sub hl [3, 4, 5, 1, 0] rfl)
  exact L5 ((fn - 0 : Int).toNat + 1) ffr 0 0 (Nat.lt_succ_self _) rfr rm_0 (by omega) H _ (hP.sub [0, 1] rfl) (hD.sub [0, 1] (by decide) rfl) hS ls (lv_sub hl [2, 3, 4, 1, 0] rfl)
set_option maxHeartbeats 4000000 in
set_option maxRecDepth 100000 in
theorem k_K_removeFriend (l : Launch) (G : va_G) (z : tz3) (q : Nat → Nat) (ffr : Int → Int) (pn : Int) (fn : Int) (step : Int) (rfr : ∀ i : Int, 0 ≤ ffr i ∧ ffr i ≤ 4095) (hfn : 0 ≤ fn ∧ fn ≤ 16) (hs : srt ffr fn) (hst : inR step) : Kv l y_K_removeFriend c_K_removeFriend 2 (rmD 1) G z [.ref (q 1), .int (iI step)] [(q 1, .inr (1, [.ref (q 4), .ref (q 5), .int (iI pn), .int (iI fn)])), (q 5, .inl (z.1, 16, .inl (aI ffr)))] (fun u9 => ∃ (g : Int → Int) (fn2 : Int), u9 = [(q 1, .inr (1, [.ref (q 4), .ref (q 5), .int (iI pn), .int (iI fn2)])), (q 5, .inl (z.1, 16, .inl (aI g)))] ∧ (∀ i : Int, 0 ≤ g i ∧ g i ≤ 4095) ∧ (srt g fn2) ∧ (∀ s : Int, memF g fn2 s ↔ (memF ffr fn s ∧ (s < step ∨ step < s))) ∧ (0 ≤ fn2 ∧ fn2 ≤ fn)) := by
  refine Kv.of (by decide) (Nat.le_of_ble_eq_true rfl) ?_
  intro p e s m below meth c A hB hP hD ls hl
  obtain ⟨hx, hb, hRt, hml, hown, hlocks, hg, hE, hA, hin⟩ := hB
  have hown : s.vm.findClass R_K = some m.cls := hown
  have hl : lv_has ls 2 [(0, .ref (q 1)), (1, .int (iI step))] := hl
  obtain ⟨H, hH⟩ : ∃ H, H = s.heap := ⟨_, rfl⟩
  have hS : va_S A s.heap H [] := by rw [hH]; exact va_S.rf
  rw [← hH] at hP
  rw [← hH]
  have hP : va_P G cls0 [(q 1, .inr (1, [.ref (q 4), .ref (q 5), .int (iI pn), .int (iI fn)])), (q 5, .inl (z.1, 16, .inl (aI ffr)))] H := hP
  have hD : va_D A [(q 1, .inr (1, [.ref (q 4), .ref (q 5), .int (iI pn), .int (iI fn)])), (q 5, .inl (z.1, 16, .inl (aI ffr)))] := hD
  refine lv_aload_n hx hb d_K_removeFriend_0 rfl (lv_at hl 0 rfl) ?_
  refine lv_iload_n hx hb d_K_removeFriend_1 rfl (lv_at hl 1 rfl) ?_
  refine lv_iload_n hx hb d_K_removeFriend_2 rfl (lv_at hl 1 rfl) ?_
  refine qV_v (As := [.int (iI step), .int (iI step)]) (rest := []) (wr := []) hx hb hml hown hg hE hA hS hP hD (k_K_removeFriendsFrom l G z q ffr pn fn step step (by assumption) (by omega) hs (by omega) (by omega)) [0, 1] [] rfl rfl (by decide) (by decide) (by decide) (q0 := 0) rfl rfl ml_K_33 im_K_removeFriendsFrom se_K_removeFriendsFrom in_K co_K_removeFriendsFrom ok_K_removeFriendsFrom ⟨Nat.le_of_ble_eq_true rfl, Nat.le_of_ble_eq_true rfl⟩ hl.1 rfl (Nat.le_of_ble_eq_true rfl) d_K_removeFriend_3 ⟨Nat.le_of_ble_eq_true rfl, Nat.le_of_ble_eq_true rfl⟩ (fun u9 H locs hw hP hD hS => ?_)
  obtain ⟨g, fn2, rfl, f1, f2, f3, f4⟩ := hw
  have hP : va_P G cls0 [(q 1, .inr (1, [.ref (q 4), .ref (q 5), .int (iI pn), .int (iI fn2)])), (q 5, .inl (z.1, 16, .inl (aI g)))] H := hP
  have hD : va_D A [(q 1, .inr (1, [.ref (q 4), .ref (q 5), .int (iI pn), .int (iI fn2)])), (q 5, .inl (z.1, 16, .inl (aI g)))] := hD
  have hP9 : va_P G cls0 [(q 1, .inr (1, [.ref (q 4), .ref (q 5), .int (iI pn), .int (iI fn2)])), (q 5, .inl (z.1, 16, .inl (aI g)))] H := hP.sub [0, 1] rfl
  have hD9 : va_D A [(q 1, .inr (1, [.ref (q 4), .ref (q 5), .int (iI pn), .int (iI fn2)])), (q 5, .inl (z.1, 16, .inl (aI g)))] := hD.sub [0, 1] (by decide) rfl
  refine rv_vret hx hb hRt hlocks (Nat.le_refl _) (Nat.le_refl _) hP9 hD9 hS d_K_removeFriend_6 ?_
  exact ⟨g, fn2, rfl, f1, f2, f3, f4⟩
set_option maxHeartbeats 4000000 in
set_option maxRecDepth 100000 in
theorem k_K_removeFriendsOn (l : Launch) (G : va_G) (z : tz3) (q : Nat → Nat) (ffr : Int → Int) (pn : Int) (fn : Int) (net : Int) (rfr : ∀ i : Int, 0 ≤ ffr i ∧ ffr i ≤ 4095) (hfn : 0 ≤ fn ∧ fn ≤ 16) (hs : srt ffr fn) (hnet : 0 ≤ net ∧ net < 64) : Kv l y_K_removeFriendsOn c_K_removeFriendsOn 2 (rmD 1) G z [.ref (q 1), .int (iI net)] [(q 1, .inr (1, [.ref (q 4), .ref (q 5), .int (iI pn), .int (iI fn)])), (q 5, .inl (z.1, 16, .inl (aI ffr)))] (fun u9 => ∃ (g : Int → Int) (fn2 : Int), u9 = [(q 1, .inr (1, [.ref (q 4), .ref (q 5), .int (iI pn), .int (iI fn2)])), (q 5, .inl (z.1, 16, .inl (aI g)))] ∧ (∀ i : Int, 0 ≤ g i ∧ g i ≤ 4095) ∧ (srt g fn2) ∧ (∀ s : Int, memF g fn2 s ↔ (memF ffr fn s ∧ (s < 64 * net ∨ 64 * net + 63 < s))) ∧ (0 ≤ fn2 ∧ fn2 ≤ fn)) := by
  refine Kv.of (by decide) (Nat.le_of_ble_eq_true rfl) ?_
  intro p e s m below meth c A hB hP hD ls hl
  obtain ⟨hx, hb, hRt, hml, hown, hlocks, hg, hE, hA, hin⟩ := hB
  have hown : s.vm.findClass R_K = some m.cls := hown
  have hl : lv_has ls 2 [(0, .ref (q 1)), (1, .int (iI net))] := hl
  obtain ⟨H, hH⟩ : ∃ H, H = s.heap := ⟨_, rfl⟩
  have hS : va_S A s.heap H [] := by rw [hH]; exact va_S.rf
  rw [← hH] at hP
  rw [← hH]
  have hP : va_P G cls0 [(q 1, .inr (1, [.ref (q 4), .ref (q 5), .int (iI pn), .int (iI fn)])), (q 5, .inl (z.1, 16, .inl (aI ffr)))] H := hP
  have hD : va_D A [(q 1, .inr (1, [.ref (q 4), .ref (q 5), .int (iI pn), .int (iI fn)])), (q 5, .inl (z.1, 16, .inl (aI ffr)))] := hD
  refine lv_aload_n hx hb d_K_removeFriendsOn_0 rfl (lv_at hl 0 rfl) ?_
  refine lv_iload_n hx hb d_K_removeFriendsOn_1 rfl (lv_at hl 1 rfl) ?_
  refine lv_iconst (v := iI 0) hx hb d_K_removeFriendsOn_2 rfl ?_
  refine qN_i (As := [.int (iI net), .int (iI 0)]) (rest := [.ref (q 1)]) (wr := [(q 1, .inr (1, [.ref (q 4), .ref (q 5), .int (iI pn), .int (iI fn)])), (q 5, .inl (z.1, 16, .inl (aI ffr)))]) hx hb hml hown hg hE hA hS hP hD (k_B_stepOf l G z net 0) [] [0, 1] rfl rfl (by decide) (by decide) (by decide) nl_K_37 st_B_stepOf in_B co_B_stepOf ok_B_stepOf ⟨Nat.le_of_ble_eq_true rfl, Nat.le_of_ble_eq_true rfl⟩ hl.1 rfl (Nat.le_of_ble_eq_true rfl) d_K_removeFriendsOn_3 ⟨Nat.le_of_ble_eq_true rfl, Nat.le_of_ble_eq_true rfl⟩ (fun r9 u9 H locs hw hP hD hS => ?_)
  obtain ⟨rfl, rfl⟩ := hw
  have hP : va_P G cls0 [(q 1, .inr (1, [.ref (q 4), .ref (q 5), .int (iI pn), .int (iI fn)])), (q 5, .inl (z.1, 16, .inl (aI ffr)))] H := hP
  have hD : va_D A [(q 1, .inr (1, [.ref (q 4), .ref (q 5), .int (iI pn), .int (iI fn)])), (q 5, .inl (z.1, 16, .inl (aI ffr)))] := hD
  refine lv_iload_n hx hb d_K_removeFriendsOn_6 rfl (lv_at hl 1 rfl) ?_
  refine lv_bipush (v := iI 63) hx hb d_K_removeFriendsOn_7 (by decide +kernel) ?_
  refine qN_i (As := [.int (iI net), .int (iI 63)]) (rest := [.int (iI (64 * net + 0)), .ref (q 1)]) (wr := [(q 1, .inr (1, [.ref (q 4), .ref (q 5), .int (iI pn), .int (iI fn)])), (q 5, .inl (z.1, 16, .inl (aI ffr)))]) hx hb hml hown hg hE hA hS hP hD (k_B_stepOf l G z net 63) [] [0, 1] rfl rfl (by decide) (by decide) (by decide) nl_K_37 st_B_stepOf in_B co_B_stepOf ok_B_stepOf ⟨Nat.le_of_ble_eq_true rfl, Nat.le_of_ble_eq_true rfl⟩ hl.1 rfl (Nat.le_of_ble_eq_true rfl) d_K_removeFriendsOn_9 ⟨Nat.le_of_ble_eq_true rfl, Nat.le_of_ble_eq_true rfl⟩ (fun r9 u9 H locs hw hP hD hS => ?_)
  obtain ⟨rfl, rfl⟩ := hw
  have hP : va_P G cls0 [(q 1, .inr (1, [.ref (q 4), .ref (q 5), .int (iI pn), .int (iI fn)])), (q 5, .inl (z.1, 16, .inl (aI ffr)))] H := hP
  have hD : va_D A [(q 1, .inr (1, [.ref (q 4), .ref (q 5), .int (iI pn), .int (iI fn)])), (q 5, .inl (z.1, 16, .inl (aI ffr)))] := hD
  refine qV_v (As := [.int (iI (64 * net + 0)), .int (iI (64 * net + 63))]) (rest := []) (wr := []) hx hb hml hown hg hE hA hS hP hD (k_K_removeFriendsFrom l G z q ffr pn fn (64 * net + 0) (64 * net + 63) (by assumption) (by omega) hs (by omega) (by omega)) [0, 1] [] rfl rfl (by decide) (by decide) (by decide) (q0 := 0) rfl rfl ml_K_33 im_K_removeFriendsFrom se_K_removeFriendsFrom in_K co_K_removeFriendsFrom ok_K_removeFriendsFrom ⟨Nat.le_of_ble_eq_true rfl, Nat.le_of_ble_eq_true rfl⟩ hl.1 rfl (Nat.le_of_ble_eq_true rfl) d_K_removeFriendsOn_12 ⟨Nat.le_of_ble_eq_true rfl, Nat.le_of_ble_eq_true rfl⟩ (fun u9 H locs hw hP hD hS => ?_)
  obtain ⟨g, fn2, rfl, f1, f2, f3, f4⟩ := hw
  have hP : va_P G cls0 [(q 1, .inr (1, [.ref (q 4), .ref (q 5), .int (iI pn), .int (iI fn2)])), (q 5, .inl (z.1, 16, .inl (aI g)))] H := hP
  have hD : va_D A [(q 1, .inr (1, [.ref (q 4), .ref (q 5), .int (iI pn), .int (iI fn2)])), (q 5, .inl (z.1, 16, .inl (aI g)))] := hD
  have hP9 : va_P G cls0 [(q 1, .inr (1, [.ref (q 4), .ref (q 5), .int (iI pn), .int (iI fn2)])), (q 5, .inl (z.1, 16, .inl (aI g)))] H := hP.sub [0, 1] rfl
  have hD9 : va_D A [(q 1, .inr (1, [.ref (q 4), .ref (q 5), .int (iI pn), .int (iI fn2)])), (q 5, .inl (z.1, 16, .inl (aI g)))] := hD.sub [0, 1] (by decide) rfl
  refine rv_vret hx hb hRt hlocks (Nat.le_refl _) (Nat.le_refl _) hP9 hD9 hS d_K_removeFriendsOn_15 ?_
  exact ⟨g, fn2, rfl, f1, f2, (fun s => by rw [f3 s]; constructor <;> (rintro ⟨a, b⟩; exact ⟨a, by omega⟩)), f4⟩
end
section
/-- n nets and i friends of what is to be told stand in the row pl; all else as it was -/
def TL (fsz0 frt0 fnt0 fco0 fsz frt fnt fco fpo ffr : Int → Int) (pl n i : Int) : Prop :=
  fsz pl = cI fpo n + i ∧ (∀ j : Int, j ≠ pl → fsz j = fsz0 j) ∧ (∀ a : Int, (a < pl * 24 ∨ pl * 24 + 24 ≤ a) → frt a = frt0 a ∧ fnt a = fnt0 a ∧ fco a = fco0 a) ∧
  (∀ m : Int, 0 ≤ m → m < n → ¬ fpo m = 0 → frt (pl * 24 + cI fpo m) = -1 ∧ fnt (pl * 24 + cI fpo m) = m ∧ fco (pl * 24 + cI fpo m) = fpo m) ∧
  (∀ j : Int, 0 ≤ j → j < i → frt (pl * 24 + (cI fpo n + j)) = ffr j % 64 ∧ fnt (pl * 24 + (cI fpo n + j)) = ffr j / 64 ∧ fco (pl * 24 + (cI fpo n + j)) = fpo (ffr j / 64))
theorem TL_0 {fsz frt fnt fco fpo ffr : Int → Int} {pl : Int} : TL fsz frt fnt fco (uZ fsz pl 0) frt fnt fco fpo ffr pl 0 0 :=
  ⟨by rw [uZ_s, cI_0]; omega, fun j h => uZ_n h, fun _ _ => ⟨rfl, rfl, rfl⟩, fun m h0 h1 => absurd h1 (by omega), fun j h0 h1 => absurd h1 (by omega)⟩
theorem TL_skip {fsz0 frt0 fnt0 fco0 fsz frt fnt fco fpo ffr : Int → Int} {pl n : Int} (h0 : 0 ≤ n) (hz : fpo n = 0) (h : TL fsz0 frt0 fnt0 fco0 fsz frt fnt fco fpo ffr pl n 0) : TL fsz0 frt0 fnt0 fco0 fsz frt fnt fco fpo ffr pl (n + 1) 0 := by
  obtain ⟨a, b, c, d, e⟩ := h
  refine ⟨by rw [cI_s0 h0 hz]; exact a, b, c, fun m m0 m1 mz => ?_, fun j j0 j1 => absurd j1 (by omega)⟩
  by_cases hm : m = n
  · subst hm; exact absurd hz mz
  · exact d m m0 (by omega) mz
theorem TL_port {fsz0 frt0 fnt0 fco0 fsz frt fnt fco fpo ffr : Int → Int} {pl n : Int} (h0 : 0 ≤ n) (hz : ¬ fpo n = 0) (hr : fsz pl < 24) (h : TL fsz0 frt0 fnt0 fco0 fsz frt fnt fco fpo ffr pl n 0) :
    TL fsz0 frt0 fnt0 fco0 (uZ fsz pl (fsz pl + 1)) (uZ frt (pl * 24 + fsz pl) (-1)) (uZ fnt (pl * 24 + fsz pl) n) (uZ fco (pl * 24 + fsz pl) (fpo n)) fpo ffr pl (n + 1) 0 := by
  obtain ⟨a, b, c, d, e⟩ := h
  have hc0 := cI_b fpo h0
  refine ⟨by rw [uZ_s, cI_s1 h0 hz]; omega, fun j hj => by rw [uZ_n hj]; exact b j hj, fun i hi => ?_, fun m m0 m1 mz => ?_, fun j j0 j1 => absurd j1 (by omega)⟩
  · rw [uZ_n (by omega), uZ_n (by omega), uZ_n (by omega)]; exact c i hi
  · by_cases hm : m = n
    · subst hm
      rw [show pl * 24 + cI fpo m = pl * 24 + fsz pl by omega, uZ_s, uZ_s, uZ_s]
      exact ⟨rfl, rfl, rfl⟩
    · have := cI_lt fpo m0 (show m < n by omega) mz
      rw [uZ_n (by omega), uZ_n (by omega), uZ_n (by omega)]
      exact d m m0 (by omega) mz
theorem TL_friend {fsz0 frt0 fnt0 fco0 fsz frt fnt fco fpo ffr : Int → Int} {pl i : Int} (h0 : 0 ≤ i) (hr : fsz pl < 24) (h : TL fsz0 frt0 fnt0 fco0 fsz frt fnt fco fpo ffr pl 64 i) :
    TL fsz0 frt0 fnt0 fco0 (uZ fsz pl (fsz pl + 1)) (uZ frt (pl * 24 + fsz pl) (ffr i % 64)) (uZ fnt (pl * 24 + fsz pl) (ffr i / 64)) (uZ fco (pl * 24 + fsz pl) (fpo (ffr i / 64))) fpo ffr pl 64 (i + 1) := by
  obtain ⟨a, b, c, d, e⟩ := h
  have hc0 := cI_b fpo (show (0 : Int) ≤ 64 by omega)
  refine ⟨by rw [uZ_s]; omega, fun j hj => by rw [uZ_n hj]; exact b j hj, fun j hi => ?_, fun m m0 m1 mz => ?_, fun j j0 j1 => ?_⟩
  · rw [uZ_n (by omega), uZ_n (by omega), uZ_n (by omega)]; exact c j hi
  · have := cI_lt fpo m0 m1 mz
    rw [uZ_n (by omega), uZ_n (by omega), uZ_n (by omega)]
    exact d m m0 m1 mz
  · by_cases hj : j = i
    · subst hj
      rw [show pl * 24 + (cI fpo 64 + j) = pl * 24 + fsz pl by omega, uZ_s, uZ_s, uZ_s]
      exact ⟨rfl, rfl, rfl⟩
    · rw [uZ_n (by omega), uZ_n (by omega), uZ_n (by omega)]
      exact e j j0 (by omega)
end
section
set_option maxHeartbeats 4000000 in
set_option maxRecDepth 100000 in
theorem k_K_setPort (l : Launch) (G : va_G) (z : tz3) (q : Nat → Nat) (fpo : Int → Int) (ffr : Int → Int) (pn : Int) (fn : Int) (net : Int) (cost : Int) (rpo : ∀ i : Int, 0 ≤ fpo i ∧ fpo i ≤ 1000) (rfr : ∀ i : Int, 0 ≤ ffr i ∧ ffr i ≤ 4095) (hfn : 0 ≤ fn ∧ fn ≤ 16) (hpn : 0 ≤ pn ∧ pn ≤ 8) (hs : srt ffr fn) (hnet : 0 ≤ net ∧ net < 64) (hcost : 0 ≤ cost ∧ cost ≤ 1000) : Ki l y_K_setPort c_K_setPort 4 (some .int) (rmD 2) G z [.ref (q 1), .int (iI net), .int (iI cost)] [(q 1, .inr (1, [.ref (q 4), .ref (q 5), .int (iI pn), .int (iI fn)])), (q 4, .inl (z.1, 64, .inl (aI fpo))), (q 5, .inl (z.1, 16, .inl (aI ffr)))] (fun r9 u9 => ∃ (g : Int → Int) (fn2 : Int) (pn2 : Int), u9 = [(q 1, .inr (1, [.ref (q 4), .ref (q 5), .int (iI pn2), .int (iI fn2)])), (q 4, .inl (z.1, 64, .inl (aI (uZ fpo net cost)))), (q 5, .inl (z.1, 16, .inl (aI g)))] ∧ r9 = iI (fpo net) ∧ (∀ i : Int, 0 ≤ g i ∧ g i ≤ 4095) ∧ (srt g fn2) ∧ (∀ s : Int, memF g fn2 s ↔ (memF ffr fn s ∧ ¬ (fpo net ≠ 0 ∧ cost = 0 ∧ 64 * net ≤ s ∧ s ≤ 64 * net + 63))) ∧ (0 ≤ fn2 ∧ fn2 ≤ fn) ∧ ((fpo net = 0 ∧ cost ≠ 0 ∧ pn2 = pn + 1) ∨ (fpo net ≠ 0 ∧ cost = 0 ∧ pn2 = pn - 1) ∨ ((fpo net = 0 ∧ cost = 0 ∨ fpo net ≠ 0 ∧ cost ≠ 0) ∧ pn2 = pn))) := by
  refine Ki.of (by decide) (Nat.le_of_ble_eq_true rfl) ?_
  intro p e s m below meth c A hB hP hD ls hl
  obtain ⟨hx, hb, hRt, hml, hown, hlocks, hg, hE, hA, hin⟩ := hB
  have hown : s.vm.findClass R_K = some m.cls := hown
  have hl : lv_has ls 4 [(0, .ref (q 1)), (1, .int (iI net)), (2, .int (iI cost))] := hl
  obtain ⟨H, hH⟩ : ∃ H, H = s.heap := ⟨_, rfl⟩
  have hS : va_S A s.heap H [] := by rw [hH]; exact va_S.rf
  rw [← hH] at hP
  rw [← hH]
  have hP : va_P G cls0 [(q 1, .inr (1, [.ref (q 4), .ref (q 5), .int (iI pn), .int (iI fn)])), (q 4, .inl (z.1, 64, .inl (aI fpo))), (q 5, .inl (z.1, 16, .inl (aI ffr)))] H := hP
  have hD : va_D A [(q 1, .inr (1, [.ref (q 4), .ref (q 5), .int (iI pn), .int (iI fn)])), (q 4, .inl (z.1, 64, .inl (aI fpo))), (q 5, .inl (z.1, 16, .inl (aI ffr)))] := hD
  refine lv_aload_n hx hb d_K_setPort_0 rfl (lv_at hl 0 rfl) ?_
  refine va_get (D := G) (ci := 1) (v := .ref (q 4)) (C := R_K) (T := T_K) (N := 4) hx hb hg iw_K hown hE.1 hP 0 rfl rfl 0 (by decide) (hg _ fl_K_9) (fun _ h9 => h9) rfl d_K_setPort_1 ?_
  refine lv_iload_n hx hb d_K_setPort_4 rfl (lv_at hl 1 rfl) ?_
  refine rv_iald hx hb hE hP 1 rfl (i := net) (by omega) (by omega) (by decide) d_K_setPort_5 ?_
  refine lv_istore_n (lv' := [(3, .int (iI (fpo net))), (0, .ref (q 1)), (1, .int (iI net)), (2, .int (iI cost))]) hx hb d_K_setPort_6 rfl hl (by decide) rfl (fun ls hl => ?_)
  refine lv_aload_n hx hb d_K_setPort_7 rfl (lv_at hl 1 rfl) ?_
  refine va_get (D := G) (ci := 1) (v := .ref (q 4)) (C := R_K) (T := T_K) (N := 4) hx hb hg iw_K hown hE.1 hP 0 rfl rfl 0 (by decide) (hg _ fl_K_9) (fun _ h9 => h9) rfl d_K_setPort_8 ?_
  refine lv_iload_n hx hb d_K_setPort_11 rfl (lv_at hl 2 rfl) ?_
  refine lv_iload_n hx hb d_K_setPort_12 rfl (lv_at hl 3 rfl) ?_
  refine rv_iast hx hb hE hP hD hS 1 rfl (i := net) (x := cost) (by omega) (by omega) (by decide) d_K_setPort_13 (fun H locs hP hD hS => ?_)
  have hP : va_P G cls0 [(q 1, .inr (1, [.ref (q 4), .ref (q 5), .int (iI pn), .int (iI fn)])), (q 4, .inl (z.1, 64, .inl (aI (uZ fpo net cost)))), (q 5, .inl (z.1, 16, .inl (aI ffr)))] H := hP
  have hD : va_D A [(q 1, .inr (1, [.ref (q 4), .ref (q 5), .int (iI pn), .int (iI fn)])), (q 4, .inl (z.1, 64, .inl (aI (uZ fpo net cost)))), (q 5, .inl (z.1, 16, .inl (aI ffr)))] := hD
  refine lv_iload_n hx hb d_K_setPort_14 rfl (lv_at hl 0 rfl) ?_
  refine rv_if_ne (tgt := 32) hx hb d_K_setPort_15 (by decide) (by have := rpo net; constructor <;> omega) (fun c_1 => ?_) (fun c_1 => ?_)
  · skip
    refine lv_iload_n hx hb d_K_setPort_32 rfl (lv_at hl 0 rfl) ?_
    refine rv_if_eq (tgt := 55) hx hb d_K_setPort_33 (by decide) (by have := rpo net; constructor <;> omega) (fun c_2 => ?_) (fun c_2 => ?_)
    · skip
      refine lv_iload_n hx hb d_K_setPort_55 rfl (lv_at hl 0 rfl) ?_
      have hP9 : va_P G cls0 [(q 1, .inr (1, [.ref (q 4), .ref (q 5), .int (iI pn), .int (iI fn)])), (q 4, .inl (z.1, 64, .inl (aI (uZ fpo net cost)))), (q 5, .inl (z.1, 16, .inl (aI ffr)))] H := hP.sub [0, 1, 2] rfl
      have hD9 : va_D A [(q 1, .inr (1, [.ref (q 4), .ref (q 5), .int (iI pn), .int (iI fn)])), (q 4, .inl (z.1, 64, .inl (aI (uZ fpo net cost)))), (q 5, .inl (z.1, 16, .inl (aI ffr)))] := hD.sub [0, 1, 2] (by decide) rfl
      refine rv_iret hx hb hRt (nar_int _) hlocks (Nat.le_refl _) (Nat.le_refl _) hP9 hD9 hS d_K_setPort_56 ?_
      exact ⟨ffr, fn, pn, rfl, rfl, (by first | exact f1 | exact rfr), (by first | exact f2 | exact hs), (fun s => by first | (rw [f3 s]; constructor <;> (rintro ⟨a, b⟩; exact ⟨a, by omega⟩)) | exact ⟨fun a => ⟨a, by omega⟩, fun a => a.1⟩), (by omega), (by have := rpo net; omega)⟩
    · skip
      refine lv_iload_n hx hb d_K_setPort_36 rfl (lv_at hl 3 rfl) ?_
      refine rv_if_ne (tgt := 55) hx hb d_K_setPort_37 (by decide) (by constructor <;> omega) (fun c_3 => ?_) (fun c_3 => ?_)
      · skip
        refine lv_iload_n hx hb d_K_setPort_55 rfl (lv_at hl 0 rfl) ?_
        have hP9 : va_P G cls0 [(q 1, .inr (1, [.ref (q 4), .ref (q 5), .int (iI pn), .int (iI fn)])), (q 4, .inl (z.1, 64, .inl (aI (uZ fpo net cost)))), (q 5, .inl (z.1, 16, .inl (aI ffr)))] H := hP.sub [0, 1, 2] rfl
        have hD9 : va_D A [(q 1, .inr (1, [.ref (q 4), .ref (q 5), .int (iI pn), .int (iI fn)])), (q 4, .inl (z.1, 64, .inl (aI (uZ fpo net cost)))), (q 5, .inl (z.1, 16, .inl (aI ffr)))] := hD.sub [0, 1, 2] (by decide) rfl
        refine rv_iret hx hb hRt (nar_int _) hlocks (Nat.le_refl _) (Nat.le_refl _) hP9 hD9 hS d_K_setPort_56 ?_
        exact ⟨ffr, fn, pn, rfl, rfl, (by first | exact f1 | exact rfr), (by first | exact f2 | exact hs), (fun s => by first | (rw [f3 s]; constructor <;> (rintro ⟨a, b⟩; exact ⟨a, by omega⟩)) | exact ⟨fun a => ⟨a, by omega⟩, fun a => a.1⟩), (by omega), (by have := rpo net; omega)⟩
      · skip
        refine lv_aload_n hx hb d_K_setPort_40 rfl (lv_at hl 1 rfl) ?_
        refine lv_dup hx hb d_K_setPort_41 rfl ?_
        refine va_get (D := G) (ci := 1) (v := .int (iI pn)) (C := R_K) (T := T_K) (N := 4) hx hb hg iw_K hown hE.1 hP 0 rfl rfl 2 (by decide) (hg _ fl_K_22) (fun _ h9 => h9) rfl d_K_setPort_42 ?_
        refine lv_iconst (v := iI 1) hx hb d_K_setPort_45 rfl ?_
        refine rv_isub hx hb d_K_setPort_46 ?_
        refine va_put (D := G) (ci := 1) (v := .int (iI (pn - 1))) (ty := .int) (C := R_K) (T := T_K) (N := 4) hx hb hg iw_K ty_K ty_K_ok nm_K hown hE.1 hP hD hS 0 rfl rfl 2 (by decide) (hg _ fl_K_22) (fun _ h9 => h9) rfl (by decide +kernel) rfl rfl (Nat.le_of_ble_eq_true rfl) d_K_setPort_47 (fun H locs hP hD hS => ?_)
        have hP : va_P G cls0 [(q 1, .inr (1, [.ref (q 4), .ref (q 5), .int (iI (pn - 1)), .int (iI fn)])), (q 4, .inl (z.1, 64, .inl (aI (uZ fpo net cost)))), (q 5, .inl (z.1, 16, .inl (aI ffr)))] H := hP
        have hD : va_D A [(q 1, .inr (1, [.ref (q 4), .ref (q 5), .int (iI (pn - 1)), .int (iI fn)])), (q 4, .inl (z.1, 64, .inl (aI (uZ fpo net cost)))), (q 5, .inl (z.1, 16, .inl (aI ffr)))] := hD
        refine lv_aload_n hx hb d_K_setPort_50 rfl (lv_at hl 1 rfl) ?_
        refine lv_iload_n hx hb d_K_setPort_51 rfl (lv_at hl 2 rfl) ?_
        refine qV_v (As := [.int (iI net)]) (rest := []) (wr := [(q 4, .inl (z.1, 64, .inl (aI (uZ fpo net cost))))]) hx hb hml hown hg hE hA hS hP hD (k_K_removeFriendsOn l G z q ffr (pn - 1) fn net (by assumption) (by omega) hs (by omega)) [0, 2] [1] rfl rfl (by decide) (by decide) (by decide) (q0 := 0) rfl rfl ml_K_26 im_K_removeFriendsOn se_K_removeFriendsOn in_K co_K_removeFriendsOn ok_K_removeFriendsOn ⟨Nat.le_of_ble_eq_true rfl, Nat.le_of_ble_eq_true rfl⟩ hl.1 rfl (Nat.le_of_ble_eq_true rfl) d_K_setPort_52 ⟨Nat.le_of_ble_eq_true rfl, Nat.le_of_ble_eq_true rfl⟩ (fun u9 H locs hw hP hD hS => ?_)
        obtain ⟨g, fn2, rfl, f1, f2, f3, f4⟩ := hw
        have hP : va_P G cls0 [(q 4, .inl (z.1, 64, .inl (aI (uZ fpo net cost)))), (q 1, .inr (1, [.ref (q 4), .ref (q 5), .int (iI ((pn - 1))), .int (iI fn2)])), (q 5, .inl (z.1, 16, .inl (aI g)))] H := hP
        have hD : va_D A [(q 4, .inl (z.1, 64, .inl (aI (uZ fpo net cost)))), (q 1, .inr (1, [.ref (q 4), .ref (q 5), .int (iI ((pn - 1))), .int (iI fn2)])), (q 5, .inl (z.1, 16, .inl (aI g)))] := hD
        refine lv_iload_n hx hb d_K_setPort_55 rfl (lv_at hl 0 rfl) ?_
        have hP9 : va_P G cls0 [(q 1, .inr (1, [.ref (q 4), .ref (q 5), .int (iI ((pn - 1))), .int (iI fn2)])), (q 4, .inl (z.1, 64, .inl (aI (uZ fpo net cost)))), (q 5, .inl (z.1, 16, .inl (aI g)))] H := hP.sub [1, 0, 2] rfl
        have hD9 : va_D A [(q 1, .inr (1, [.ref (q 4), .ref (q 5), .int (iI ((pn - 1))), .int (iI fn2)])), (q 4, .inl (z.1, 64, .inl (aI (uZ fpo net cost)))), (q 5, .inl (z.1, 16, .inl (aI g)))] := hD.sub [1, 0, 2] (by decide) rfl
        refine rv_iret hx hb hRt (nar_int _) hlocks (Nat.le_refl _) (Nat.le_refl _) hP9 hD9 hS d_K_setPort_56 ?_
        exact ⟨g, fn2, ((pn - 1)), rfl, rfl, (by first | exact f1 | exact rfr), (by first | exact f2 | exact hs), (fun s => by first | (rw [f3 s]; constructor <;> (rintro ⟨a, b⟩; exact ⟨a, by omega⟩)) | exact ⟨fun a => ⟨a, by omega⟩, fun a => a.1⟩), (by omega), (by have := rpo net; omega)⟩
  · skip
    refine lv_iload_n hx hb d_K_setPort_18 rfl (lv_at hl 3 rfl) ?_
    refine rv_if_eq (tgt := 32) hx hb d_K_setPort_19 (by decide) (by constructor <;> omega) (fun c_4 => ?_) (fun c_4 => ?_)
    · skip
      refine lv_iload_n hx hb d_K_setPort_32 rfl (lv_at hl 0 rfl) ?_
      refine rv_if_eq (tgt := 55) hx hb d_K_setPort_33 (by decide) (by have := rpo net; constructor <;> omega) (fun c_5 => ?_) (fun c_5 => ?_)
      · skip
        refine lv_iload_n hx hb d_K_setPort_55 rfl (lv_at hl 0 rfl) ?_
        have hP9 : va_P G cls0 [(q 1, .inr (1, [.ref (q 4), .ref (q 5), .int (iI pn), .int (iI fn)])), (q 4, .inl (z.1, 64, .inl (aI (uZ fpo net cost)))), (q 5, .inl (z.1, 16, .inl (aI ffr)))] H := hP.sub [0, 1, 2] rfl
        have hD9 : va_D A [(q 1, .inr (1, [.ref (q 4), .ref (q 5), .int (iI pn), .int (iI fn)])), (q 4, .inl (z.1, 64, .inl (aI (uZ fpo net cost)))), (q 5, .inl (z.1, 16, .inl (aI ffr)))] := hD.sub [0, 1, 2] (by decide) rfl
        refine rv_iret hx hb hRt (nar_int _) hlocks (Nat.le_refl _) (Nat.le_refl _) hP9 hD9 hS d_K_setPort_56 ?_
        exact ⟨ffr, fn, pn, rfl, rfl, (by first | exact f1 | exact rfr), (by first | exact f2 | exact hs), (fun s => by first | (rw [f3 s]; constructor <;> (rintro ⟨a, b⟩; exact ⟨a, by omega⟩)) | exact ⟨fun a => ⟨a, by omega⟩, fun a => a.1⟩), (by omega), (by have := rpo net; omega)⟩
      · skip
        refine lv_iload_n hx hb d_K_setPort_36 rfl (lv_at hl 3 rfl) ?_
        refine rv_if_ne (tgt := 55) hx hb d_K_setPort_37 (by decide) (by constructor <;> omega) (fun c_6 => ?_) (fun c_6 => ?_)
        · skip
          refine lv_iload_n hx hb d_K_setPort_55 rfl (lv_at hl 0 rfl) ?_
          have hP9 : va_P G cls0 [(q 1, .inr (1, [.ref (q 4), .ref (q 5), .int (iI pn), .int (iI fn)])), (q 4, .inl (z.1, 64, .inl (aI (uZ fpo net cost)))), (q 5, .inl (z.1, 16, .inl (aI ffr)))] H := hP.sub [0, 1, 2] rfl
          have hD9 : va_D A [(q 1, .inr (1, [.ref (q 4), .ref (q 5), .int (iI pn), .int (iI fn)])), (q 4, .inl (z.1, 64, .inl (aI (uZ fpo net cost)))), (q 5, .inl (z.1, 16, .inl (aI ffr)))] := hD.sub [0, 1, 2] (by decide) rfl
          refine rv_iret hx hb hRt (nar_int _) hlocks (Nat.le_refl _) (Nat.le_refl _) hP9 hD9 hS d_K_setPort_56 ?_
          exact ⟨ffr, fn, pn, rfl, rfl, (by first | exact f1 | exact rfr), (by first | exact f2 | exact hs), (fun s => by first | (rw [f3 s]; constructor <;> (rintro ⟨a, b⟩; exact ⟨a, by omega⟩)) | exact ⟨fun a => ⟨a, by omega⟩, fun a => a.1⟩), (by omega), (by have := rpo net; omega)⟩
        · skip
          refine lv_aload_n hx hb d_K_setPort_40 rfl (lv_at hl 1 rfl) ?_
          refine lv_dup hx hb d_K_setPort_41 rfl ?_
          refine va_get (D := G) (ci := 1) (v := .int (iI pn)) (C := R_K) (T := T_K) (N := 4) hx hb hg iw_K hown hE.1 hP 0 rfl rfl 2 (by decide) (hg _ fl_K_22) (fun _ h9 => h9) rfl d_K_setPort_42 ?_
          refine lv_iconst (v := iI 1) hx hb d_K_setPort_45 rfl ?_
          refine rv_isub hx hb d_K_setPort_46 ?_
          refine va_put (D := G) (ci := 1) (v := .int (iI (pn - 1))) (ty := .int) (C := R_K) (T := T_K) (N := 4) hx hb hg iw_K ty_K ty_K_ok nm_K hown hE.1 hP hD hS 0 rfl rfl 2 (by decide) (hg _ fl_K_22) (fun _ h9 => h9) rfl (by decide +kernel) rfl rfl (Nat.le_of_ble_eq_true rfl) d_K_setPort_47 (fun H locs hP hD hS => ?_)
          have hP : va_P G cls0 [(q 1, .inr (1, [.ref (q 4), .ref (q 5), .int (iI (pn - 1)), .int (iI fn)])), (q 4, .inl (z.1, 64, .inl (aI (uZ fpo net cost)))), (q 5, .inl (z.1, 16, .inl (aI ffr)))] H := hP
          have hD : va_D A [(q 1, .inr (1, [.ref (q 4), .ref (q 5), .int (iI (pn - 1)), .int (iI fn)])), (q 4, .inl (z.1, 64, .inl (aI (uZ fpo net cost)))), (q 5, .inl (z.1, 16, .inl (aI ffr)))] := hD
          refine lv_aload_n hx hb d_K_setPort_50 rfl (lv_at hl 1 rfl) ?_
          refine lv_iload_n hx hb d_K_setPort_51 rfl (lv_at hl 2 rfl) ?_
          refine qV_v (As := [.int (iI net)]) (rest := []) (wr := [(q 4, .inl (z.1, 64, .inl (aI (uZ fpo net cost))))]) hx hb hml hown hg hE hA hS hP hD (k_K_removeFriendsOn l G z q ffr (pn - 1) fn net (by assumption) (by omega) hs (by omega)) [0, 2] [1] rfl rfl (by decide) (by decide) (by decide) (q0 := 0) rfl rfl ml_K_26 im_K_removeFriendsOn se_K_removeFriendsOn in_K co_K_removeFriendsOn ok_K_removeFriendsOn ⟨Nat.le_of_ble_eq_true rfl, Nat.le_of_ble_eq_true rfl⟩ hl.1 rfl (Nat.le_of_ble_eq_true rfl) d_K_setPort_52 ⟨Nat.le_of_ble_eq_true rfl, Nat.le_of_ble_eq_true rfl⟩ (fun u9 H locs hw hP hD hS => ?_)
          obtain ⟨g, fn2, rfl, f1, f2, f3, f4⟩ := hw
          have hP : va_P G cls0 [(q 4, .inl (z.1, 64, .inl (aI (uZ fpo net cost)))), (q 1, .inr (1, [.ref (q 4), .ref (q 5), .int (iI ((pn - 1))), .int (iI fn2)])), (q 5, .inl (z.1, 16, .inl (aI g)))] H := hP
          have hD : va_D A [(q 4, .inl (z.1, 64, .inl (aI (uZ fpo net cost)))), (q 1, .inr (1, [.ref (q 4), .ref (q 5), .int (iI ((pn - 1))), .int (iI fn2)])), (q 5, .inl (z.1, 16, .inl (aI g)))] := hD
          refine lv_iload_n hx hb d_K_setPort_55 rfl (lv_at hl 0 rfl) ?_
          have hP9 : va_P G cls0 [(q 1, .inr (1, [.ref (q 4), .ref (q 5), .int (iI ((pn - 1))), .int (iI fn2)])), (q 4, .inl (z.1, 64, .inl (aI (uZ fpo net cost)))), (q 5, .inl (z.1, 16, .inl (aI g)))] H := hP.sub [1, 0, 2] rfl
          have hD9 : va_D A [(q 1, .inr (1, [.ref (q 4), .ref (q 5), .int (iI ((pn - 1))), .int (iI fn2)])), (q 4, .inl (z.1, 64, .inl (aI (uZ fpo net cost)))), (q 5, .inl (z.1, 16, .inl (aI g)))] := hD.sub [1, 0, 2] (by decide) rfl
          refine rv_iret hx hb hRt (nar_int _) hlocks (Nat.le_refl _) (Nat.le_refl _) hP9 hD9 hS d_K_setPort_56 ?_
          exact ⟨g, fn2, ((pn - 1)), rfl, rfl, (by first | exact f1 | exact rfr), (by first | exact f2 | exact hs), (fun s => by first | (rw [f3 s]; constructor <;> (rintro ⟨a, b⟩; exact ⟨a, by omega⟩)) | exact ⟨fun a => ⟨a, by omega⟩, fun a => a.1⟩), (by omega), (by have := rpo net; omega)⟩
    · skip
      refine lv_aload_n hx hb d_K_setPort_22 rfl (lv_at hl 1 rfl) ?_
      refine lv_dup hx hb d_K_setPort_23 rfl ?_
      refine va_get (D := G) (ci := 1) (v := .int (iI pn)) (C := R_K) (T := T_K) (N := 4) hx hb hg iw_K hown hE.1 hP 0 rfl rfl 2 (by decide) (hg _ fl_K_22) (fun _ h9 => h9) rfl d_K_setPort_24 ?_
      refine lv_iconst (v := iI 1) hx hb d_K_setPort_27 rfl ?_
      refine rv_iadd hx hb d_K_setPort_28 ?_
      refine va_put (D := G) (ci := 1) (v := .int (iI (pn + 1))) (ty := .int) (C := R_K) (T := T_K) (N := 4) hx hb hg iw_K ty_K ty_K_ok nm_K hown hE.1 hP hD hS 0 rfl rfl 2 (by decide) (hg _ fl_K_22) (fun _ h9 => h9) rfl (by decide +kernel) rfl rfl (Nat.le_of_ble_eq_true rfl) d_K_setPort_29 (fun H locs hP hD hS => ?_)
      have hP : va_P G cls0 [(q 1, .inr (1, [.ref (q 4), .ref (q 5), .int (iI (pn + 1)), .int (iI fn)])), (q 4, .inl (z.1, 64, .inl (aI (uZ fpo net cost)))), (q 5, .inl (z.1, 16, .inl (aI ffr)))] H := hP
      have hD : va_D A [(q 1, .inr (1, [.ref (q 4), .ref (q 5), .int (iI (pn + 1)), .int (iI fn)])), (q 4, .inl (z.1, 64, .inl (aI (uZ fpo net cost)))), (q 5, .inl (z.1, 16, .inl (aI ffr)))] := hD
      refine lv_iload_n hx hb d_K_setPort_32 rfl (lv_at hl 0 rfl) ?_
      refine rv_if_eq (tgt := 55) hx hb d_K_setPort_33 (by decide) (by have := rpo net; constructor <;> omega) (fun c_7 => ?_) (fun c_7 => ?_)
      · skip
        refine lv_iload_n hx hb d_K_setPort_55 rfl (lv_at hl 0 rfl) ?_
        have hP9 : va_P G cls0 [(q 1, .inr (1, [.ref (q 4), .ref (q 5), .int (iI (pn + 1)), .int (iI fn)])), (q 4, .inl (z.1, 64, .inl (aI (uZ fpo net cost)))), (q 5, .inl (z.1, 16, .inl (aI ffr)))] H := hP.sub [0, 1, 2] rfl
        have hD9 : va_D A [(q 1, .inr (1, [.ref (q 4), .ref (q 5), .int (iI (pn + 1)), .int (iI fn)])), (q 4, .inl (z.1, 64, .inl (aI (uZ fpo net cost)))), (q 5, .inl (z.1, 16, .inl (aI ffr)))] := hD.sub [0, 1, 2] (by decide) rfl
        refine rv_iret hx hb hRt (nar_int _) hlocks (Nat.le_refl _) (Nat.le_refl _) hP9 hD9 hS d_K_setPort_56 ?_
        exact ⟨ffr, fn, (pn + 1), rfl, rfl, (by first | exact f1 | exact rfr), (by first | exact f2 | exact hs), (fun s => by first | (rw [f3 s]; constructor <;> (rintro ⟨a, b⟩; exact ⟨a, by omega⟩)) | exact ⟨fun a => ⟨a, by omega⟩, fun a => a.1⟩), (by omega), (by have := rpo net; omega)⟩
      · skip
        refine lv_iload_n hx hb d_K_setPort_36 rfl (lv_at hl 3 rfl) ?_
        refine rv_if_ne (tgt := 55) hx hb d_K_setPort_37 (by decide) (by constructor <;> omega) (fun c_8 => ?_) (fun c_8 => ?_)
        · skip
          refine lv_iload_n hx hb d_K_setPort_55 rfl (lv_at hl 0 rfl) ?_
          have hP9 : va_P G cls0 [(q 1, .inr (1, [.ref (q 4), .ref (q 5), .int (iI (pn + 1)), .int (iI fn)])), (q 4, .inl (z.1, 64, .inl (aI (uZ fpo net cost)))), (q 5, .inl (z.1, 16, .inl (aI ffr)))] H := hP.sub [0, 1, 2] rfl
          have hD9 : va_D A [(q 1, .inr (1, [.ref (q 4), .ref (q 5), .int (iI (pn + 1)), .int (iI fn)])), (q 4, .inl (z.1, 64, .inl (aI (uZ fpo net cost)))), (q 5, .inl (z.1, 16, .inl (aI ffr)))] := hD.sub [0, 1, 2] (by decide) rfl
          refine rv_iret hx hb hRt (nar_int _) hlocks (Nat.le_refl _) (Nat.le_refl _) hP9 hD9 hS d_K_setPort_56 ?_
          exact ⟨ffr, fn, (pn + 1), rfl, rfl, (by first | exact f1 | exact rfr), (by first | exact f2 | exact hs), (fun s => by first | (rw [f3 s]; constructor <;> (rintro ⟨a, b⟩; exact ⟨a, by omega⟩)) | exact ⟨fun a => ⟨a, by omega⟩, fun a => a.1⟩), (by omega), (by have := rpo net; omega)⟩
        · skip
          refine lv_aload_n hx hb d_K_setPort_40 rfl (lv_at hl 1 rfl) ?_
          refine lv_dup hx hb d_K_setPort_41 rfl ?_
          refine va_get (D := G) (ci := 1) (v := .int (iI (pn + 1))) (C := R_K) (T := T_K) (N := 4) hx hb hg iw_K hown hE.1 hP 0 rfl rfl 2 (by decide) (hg _ fl_K_22) (fun _ h9 => h9) rfl d_K_setPort_42 ?_
          refine lv_iconst (v := iI 1) hx hb d_K_setPort_45 rfl ?_
          refine rv_isub hx hb d_K_setPort_46 ?_
          refine va_put (D := G) (ci := 1) (v := .int (iI ((pn + 1) - 1))) (ty := .int) (C := R_K) (T := T_K) (N := 4) hx hb hg iw_K ty_K ty_K_ok nm_K hown hE.1 hP hD hS 0 rfl rfl 2 (by decide) (hg _ fl_K_22) (fun _ h9 => h9) rfl (by decide +kernel) rfl rfl (Nat.le_of_ble_eq_true rfl) d_K_setPort_47 (fun H locs hP hD hS => ?_)
          have hP : va_P G cls0 [(q 1, .inr (1, [.ref (q 4), .ref (q 5), .int (iI ((pn + 1) - 1)), .int (iI fn)])), (q 4, .inl (z.1, 64, .inl (aI (uZ fpo net cost)))), (q 5, .inl (z.1, 16, .inl (aI ffr)))] H := hP
          have hD : va_D A [(q 1, .inr (1, [.ref (q 4), .ref (q 5), .int (iI ((pn + 1) - 1)), .int (iI fn)])), (q 4, .inl (z.1, 64, .inl (aI (uZ fpo net cost)))), (q 5, .inl (z.1, 16, .inl (aI ffr)))] := hD
          refine lv_aload_n hx hb d_K_setPort_50 rfl (lv_at hl 1 rfl) ?_
          refine lv_iload_n hx hb d_K_setPort_51 rfl (lv_at hl 2 rfl) ?_
          refine qV_v (As := [.int (iI net)]) (rest := []) (wr := [(q 4, .inl (z.1, 64, .inl (aI (uZ fpo net cost))))]) hx hb hml hown hg hE hA hS hP hD (k_K_removeFriendsOn l G z q ffr ((pn + 1) - 1) fn net (by assumption) (by omega) hs (by omega)) [0, 2] [1] rfl rfl (by decide) (by decide) (by decide) (q0 := 0) rfl rfl ml_K_26 im_K_removeFriendsOn se_K_removeFriendsOn in_K co_K_removeFriendsOn ok_K_removeFriendsOn ⟨Nat.le_of_ble_eq_true rfl, Nat.le_of_ble_eq_true rfl⟩ hl.1 rfl (Nat.le_of_ble_eq_true rfl) d_K_setPort_52 ⟨Nat.le_of_ble_eq_true rfl, Nat.le_of_ble_eq_true rfl⟩ (fun u9 H locs hw hP hD hS => ?_)
          obtain ⟨g, fn2, rfl, f1, f2, f3, f4⟩ := hw
          have hP : va_P G cls0 [(q 4, .inl (z.1, 64, .inl (aI (uZ fpo net cost)))), (q 1, .inr (1, [.ref (q 4), .ref (q 5), .int (iI (((pn + 1) - 1))), .int (iI fn2)])), (q 5, .inl (z.1, 16, .inl (aI g)))] H := hP
          have hD : va_D A [(q 4, .inl (z.1, 64, .inl (aI (uZ fpo net cost)))), (q 1, .inr (1, [.ref (q 4), .ref (q 5), .int (iI (((pn + 1) - 1))), .int (iI fn2)])), (q 5, .inl (z.1, 16, .inl (aI g)))] := hD
          refine lv_iload_n hx hb d_K_setPort_55 rfl (lv_at hl 0 rfl) ?_
          have hP9 : va_P G cls0 [(q 1, .inr (1, [.ref (q 4), .ref (q 5), .int (iI (((pn + 1) - 1))), .int (iI fn2)])), (q 4, .inl (z.1, 64, .inl (aI (uZ fpo net cost)))), (q 5, .inl (z.1, 16, .inl (aI g)))] H := hP.sub [1, 0, 2] rfl
          have hD9 : va_D A [(q 1, .inr (1, [.ref (q 4), .ref (q 5), .int (iI (((pn + 1) - 1))), .int (iI fn2)])), (q 4, .inl (z.1, 64, .inl (aI (uZ fpo net cost)))), (q 5, .inl (z.1, 16, .inl (aI g)))] := hD.sub [1, 0, 2] (by decide) rfl
          refine rv_iret hx hb hRt (nar_int _) hlocks (Nat.le_refl _) (Nat.le_refl _) hP9 hD9 hS d_K_setPort_56 ?_
          exact ⟨g, fn2, (((pn + 1) - 1)), rfl, rfl, (by first | exact f1 | exact rfr), (by first | exact f2 | exact hs), (fun s => by first | (rw [f3 s]; constructor <;> (rintro ⟨a, b⟩; exact ⟨a, by omega⟩)) | exact ⟨fun a => ⟨a, by omega⟩, fun a => a.1⟩), (by omega), (by have := rpo net; omega)⟩
set_option maxHeartbeats 4000000 in
set_option maxRecDepth 100000 in
theorem k_K_tellInto (l : Launch) (G : va_G) (z : tz3) (q : Nat → Nat) (fpo : Int → Int) (ffr : Int → Int) (pn : Int) (fn : Int) (fnu : Int → Int) (fsz : Int → Int) (frt : Int → Int) (fnt : Int → Int) (fco : Int → Int) (place : Int) (rpo : ∀ i : Int, 0 ≤ fpo i ∧ fpo i ≤ 1000) (rfr : ∀ i : Int, 0 ≤ ffr i ∧ ffr i ≤ 4095) (hfn : 0 ≤ fn ∧ fn ≤ 16) (hpl : 0 ≤ place ∧ place < 66) (rsz : ∀ i : Int, 0 ≤ fsz i ∧ fsz i ≤ 24) (rrt : ∀ i : Int, -1 ≤ frt i ∧ frt i ≤ 63) (rnt : ∀ i : Int, 0 ≤ fnt i ∧ fnt i ≤ 63) (rco : ∀ i : Int, 0 ≤ fco i ∧ fco i ≤ 1000) (hcp : cI fpo 64 ≤ 8) : Kv l y_K_tellInto c_K_tellInto 5 (rmD 2) G z [.ref (q 1), .ref (q 2), .int (iI place)] [(q 1, .inr (1, [.ref (q 4), .ref (q 5), .int (iI pn), .int (iI fn)])), (q 4, .inl (z.1, 64, .inl (aI fpo))), (q 5, .inl (z.1, 16, .inl (aI ffr))), (q 2, .inr (0, [.ref (q 6), .ref (q 7), .ref (q 8), .ref (q 9), .ref (q 10), .ref (q 11)])), (q 6, .inl (z.1, 66, .inl (aI fnu))), (q 8, .inl (z.1, 66, .inl (aI fsz))), (q 9, .inl (z.1, 1584, .inl (aI frt))), (q 10, .inl (z.1, 1584, .inl (aI fnt))), (q 11, .inl (z.1, 1584, .inl (aI fco)))] (fun u9 => ∃ (gsz : Int → Int) (grt : Int → Int) (gnt : Int → Int) (gco : Int → Int), u9 = [(q 1, .inr (1, [.ref (q 4), .ref (q 5), .int (iI pn), .int (iI fn)])), (q 4, .inl (z.1, 64, .inl (aI fpo))), (q 5, .inl (z.1, 16, .inl (aI ffr))), (q 2, .inr (0, [.ref (q 6), .ref (q 7), .ref (q 8), .ref (q 9), .ref (q 10), .ref (q 11)])), (q 6, .inl (z.1, 66, .inl (aI (uZ fnu place (-1))))), (q 8, .inl (z.1, 66, .inl (aI gsz))), (q 9, .inl (z.1, 1584, .inl (aI grt))), (q 10, .inl (z.1, 1584, .inl (aI gnt))), (q 11, .inl (z.1, 1584, .inl (aI gco)))] ∧ (∀ i : Int, 0 ≤ gsz i ∧ gsz i ≤ 24) ∧ (∀ i : Int, -1 ≤ grt i ∧ grt i ≤ 63) ∧ (∀ i : Int, 0 ≤ gnt i ∧ gnt i ≤ 63) ∧ (∀ i : Int, 0 ≤ gco i ∧ gco i ≤ 1000) ∧ (TL fsz frt fnt fco gsz grt gnt gco fpo ffr place 64 fn)) := by
  refine Kv.of (by decide) (Nat.le_of_ble_eq_true rfl) ?_
  intro p e s m below meth c A hB hP hD ls hl
  obtain ⟨hx, hb, hRt, hml, hown, hlocks, hg, hE, hA, hin⟩ := hB
  have hown : s.vm.findClass R_K = some m.cls := hown
  have hl : lv_has ls 5 [(0, .ref (q 1)), (1, .ref (q 2)), (2, .int (iI place))] := hl
  obtain ⟨H, hH⟩ : ∃ H, H = s.heap := ⟨_, rfl⟩
  have hS : va_S A s.heap H [] := by rw [hH]; exact va_S.rf
  rw [← hH] at hP
  rw [← hH]
  have hP : va_P G cls0 [(q 1, .inr (1, [.ref (q 4), .ref (q 5), .int (iI pn), .int (iI fn)])), (q 4, .inl (z.1, 64, .inl (aI fpo))), (q 5, .inl (z.1, 16, .inl (aI ffr))), (q 2, .inr (0, [.ref (q 6), .ref (q 7), .ref (q 8), .ref (q 9), .ref (q 10), .ref (q 11)])), (q 6, .inl (z.1, 66, .inl (aI fnu))), (q 8, .inl (z.1, 66, .inl (aI fsz))), (q 9, .inl (z.1, 1584, .inl (aI frt))), (q 10, .inl (z.1, 1584, .inl (aI fnt))), (q 11, .inl (z.1, 1584, .inl (aI fco)))] H := hP
  have hD : va_D A [(q 1, .inr (1, [.ref (q 4), .ref (q 5), .int (iI pn), .int (iI fn)])), (q 4, .inl (z.1, 64, .inl (aI fpo))), (q 5, .inl (z.1, 16, .inl (aI ffr))), (q 2, .inr (0, [.ref (q 6), .ref (q 7), .ref (q 8), .ref (q 9), .ref (q 10), .ref (q 11)])), (q 6, .inl (z.1, 66, .inl (aI fnu))), (q 8, .inl (z.1, 66, .inl (aI fsz))), (q 9, .inl (z.1, 1584, .inl (aI frt))), (q 10, .inl (z.1, 1584, .inl (aI fnt))), (q 11, .inl (z.1, 1584, .inl (aI fco)))] := hD
  refine lv_aload_n hx hb d_K_tellInto_0 rfl (lv_at hl 1 rfl) ?_
  refine lv_iload_n hx hb d_K_tellInto_1 rfl (lv_at hl 2 rfl) ?_
  refine qV_v (As := [.int (iI place)]) (rest := []) (wr := [(q 1, .inr (1, [.ref (q 4), .ref (q 5), .int (iI pn), .int (iI fn)])), (q 4, .inl (z.1, 64, .inl (aI fpo))), (q 5, .inl (z.1, 16, .inl (aI ffr))), (q 9, .inl (z.1, 1584, .inl (aI frt))), (q 10, .inl (z.1, 1584, .inl (aI fnt))), (q 11, .inl (z.1, 1584, .inl (aI fco)))]) hx hb hml hown hg hE hA hS hP hD (k_A_clear l G z q fnu fsz place (by omega)) [3, 4, 5] [0, 1, 2, 6, 7, 8] rfl rfl (by decide) (by decide) (by decide) (q0 := 0) rfl rfl ml_K_41 im_A_clear se_A_clear in_A co_A_clear ok_A_clear ⟨Nat.le_of_ble_eq_true rfl, Nat.le_of_ble_eq_true rfl⟩ hl.1 rfl (Nat.le_of_ble_eq_true rfl) d_K_tellInto_2 ⟨Nat.le_of_ble_eq_true rfl, Nat.le_of_ble_eq_true rfl⟩ (fun u9 H locs hw hP hD hS => ?_)
  subst hw
  have hP : va_P G cls0 [(q 1, .inr (1, [.ref (q 4), .ref (q 5), .int (iI pn), .int (iI fn)])), (q 4, .inl (z.1, 64, .inl (aI fpo))), (q 5, .inl (z.1, 16, .inl (aI ffr))), (q 9, .inl (z.1, 1584, .inl (aI frt))), (q 10, .inl (z.1, 1584, .inl (aI fnt))), (q 11, .inl (z.1, 1584, .inl (aI fco))), (q 2, .inr (0, [.ref (q 6), .ref (q 7), .ref (q 8), .ref (q 9), .ref (q 10), .ref (q 11)])), (q 6, .inl (z.1, 66, .inl (aI (uZ fnu place (-1))))), (q 8, .inl (z.1, 66, .inl (aI (uZ fsz place 0))))] H := hP
  have hD : va_D A [(q 1, .inr (1, [.ref (q 4), .ref (q 5), .int (iI pn), .int (iI fn)])), (q 4, .inl (z.1, 64, .inl (aI fpo))), (q 5, .inl (z.1, 16, .inl (aI ffr))), (q 9, .inl (z.1, 1584, .inl (aI frt))), (q 10, .inl (z.1, 1584, .inl (aI fnt))), (q 11, .inl (z.1, 1584, .inl (aI fco))), (q 2, .inr (0, [.ref (q 6), .ref (q 7), .ref (q 8), .ref (q 9), .ref (q 10), .ref (q 11)])), (q 6, .inl (z.1, 66, .inl (aI (uZ fnu place (-1))))), (q 8, .inl (z.1, 66, .inl (aI (uZ fsz place 0))))] := hD
  refine lv_iconst (v := iI 0) hx hb d_K_tellInto_5 rfl ?_
  refine lv_istore_n (lv' := [(3, .int (iI 0)), (0, .ref (q 1)), (1, .ref (q 2)), (2, .int (iI place))]) hx hb d_K_tellInto_6 rfl hl (by decide) rfl (fun ls hl => ?_)
  have L7 : ∀ n9 : Nat, ∀ (gsz : Int → Int) (grt : Int → Int) (gnt : Int → Int) (gco : Int → Int) (n : Int), (64 - n : Int).toNat < n9 → (∀ i : Int, 0 ≤ gsz i ∧ gsz i ≤ 24) → (∀ i : Int, -1 ≤ grt i ∧ grt i ≤ 63) → (∀ i : Int, 0 ≤ gnt i ∧ gnt i ≤ 63) → (∀ i : Int, 0 ≤ gco i ∧ gco i ≤ 1000) → (0 ≤ n ∧ n ≤ 64) → (TL fsz frt fnt fco gsz grt gnt gco fpo ffr place n 0) → ∀ (H : Heap) (locs : List Loc), va_P G cls0 [(q 1, .inr (1, [.ref (q 4), .ref (q 5), .int (iI pn), .int (iI fn)])), (q 4, .inl (z.1, 64, .inl (aI fpo))), (q 5, .inl (z.1, 16, .inl (aI ffr))), (q 9, .inl (z.1, 1584, .inl (aI grt))), (q 10, .inl (z.1, 1584, .inl (aI gnt))), (q 11, .inl (z.1, 1584, .inl (aI gco))), (q 2, .inr (0, [.ref (q 6), .ref (q 7), .ref (q 8), .ref (q 9), .ref (q 10), .ref (q 11)])), (q 6, .inl (z.1, 66, .inl (aI (uZ fnu place (-1))))), (q 8, .inl (z.1, 66, .inl (aI gsz)))] H → va_D A [(q 1, .inr (1, [.ref (q 4), .ref (q 5), .int (iI pn), .int (iI fn)])), (q 4, .inl (z.1, 64, .inl (aI fpo))), (q 5, .inl (z.1, 16, .inl (aI ffr))), (q 9, .inl (z.1, 1584, .inl (aI grt))), (q 10, .inl (z.1, 1584, .inl (aI gnt))), (q 11, .inl (z.1, 1584, .inl (aI gco))), (q 2, .inr (0, [.ref (q 6), .ref (q 7), .ref (q 8), .ref (q 9), .ref (q 10), .ref (q 11)])), (q 6, .inl (z.1, 66, .inl (aI (uZ fnu place (-1))))), (q 8, .inl (z.1, 66, .inl (aI gsz)))] → va_S A s.heap H locs → ∀ ls : Array Slot, lv_has ls 5 [(0, .ref (q 1)), (1, .ref (q 2)), (2, .int (iI place)), (3, .int (iI n))] → W p l e (rmD 2) s m [.ref (q 1), .ref (q 2), .int (iI place)].toArray below meth c H locs 0 0 (Zv below [.ref (q 1), .ref (q 2), .int (iI place)].toArray s (rmD 2) G A (fun u9 => ∃ (gsz : Int → Int) (grt : Int → Int) (gnt : Int → Int) (gco : Int → Int), u9 = [(q 1, .inr (1, [.ref (q 4), .ref (q 5), .int (iI pn), .int (iI fn)])), (q 4, .inl (z.1, 64, .inl (aI fpo))), (q 5, .inl (z.1, 16, .inl (aI ffr))), (q 2, .inr (0, [.ref (q 6), .ref (q 7), .ref (q 8), .ref (q 9), .ref (q 10), .ref (q 11)])), (q 6, .inl (z.1, 66, .inl (aI (uZ fnu place (-1))))), (q 8, .inl (z.1, 66, .inl (aI gsz))), (q 9, .inl (z.1, 1584, .inl (aI grt))), (q 10, .inl (z.1, 1584, .inl (aI gnt))), (q 11, .inl (z.1, 1584, .inl (aI gco)))] ∧ (∀ i : Int, 0 ≤ gsz i ∧ gsz i ≤ 24) ∧ (∀ i : Int, -1 ≤ grt i ∧ grt i ≤ 63) ∧ (∀ i : Int, 0 ≤ gnt i ∧ gnt i ≤ 63) ∧ (∀ i : Int, 0 ≤ gco i ∧ gco i ≤ 1000) ∧ (TL fsz frt fnt fco gsz grt gnt gco fpo ffr place 64 fn))) (F0 m 7 ls []) := by
    intro n9
    induction n9 with
    | zero => intro gsz grt gnt gco n hmu; exact absurd hmu (Nat.not_lt_zero _)
    | succ n9 ih =>
      intro gsz grt gnt gco n hmu rgsz rgrt rgnt rgco hn hT H locs hP hD hS ls hl
      refine lv_iload_n hx hb d_K_tellInto_7 rfl (lv_at hl 3 rfl) ?_
      refine lv_bipush (v := iI 64) hx hb d_K_tellInto_8 (by decide +kernel) ?_
      refine rv_icmp_ge (tgt := 40) hx hb d_K_tellInto_10 (by decide) (by constructor <;> omega) ⟨by decide, by decide⟩ (fun c_1 => ?_) (fun c_1 => ?_)
      · skip
        refine lv_iconst (v := iI 0) hx hb d_K_tellInto_40 rfl ?_
        refine lv_istore_n (lv' := [(3, .int (iI 0)), (0, .ref (q 1)), (1, .ref (q 2)), (2, .int (iI place))]) hx hb d_K_tellInto_41 rfl hl (by decide) rfl (fun ls hl => ?_)
        have L42 : ∀ n9 : Nat, ∀ (gsz : Int → Int) (grt : Int → Int) (gnt : Int → Int) (gco : Int → Int) (i : Int), (fn - i : Int).toNat < n9 → (∀ i : Int, 0 ≤ gsz i ∧ gsz i ≤ 24) → (∀ i : Int, -1 ≤ grt i ∧ grt i ≤ 63) → (∀ i : Int, 0 ≤ gnt i ∧ gnt i ≤ 63) → (∀ i : Int, 0 ≤ gco i ∧ gco i ≤ 1000) → (0 ≤ i ∧ i ≤ fn) → (TL fsz frt fnt fco gsz grt gnt gco fpo ffr place 64 i) → ∀ (H : Heap) (locs : List Loc), va_P G cls0 [(q 1, .inr (1, [.ref (q 4), .ref (q 5), .int (iI pn), .int (iI fn)])), (q 4, .inl (z.1, 64, .inl (aI fpo))), (q 5, .inl (z.1, 16, .inl (aI ffr))), (q 9, .inl (z.1, 1584, .inl (aI grt))), (q 10, .inl (z.1, 1584, .inl (aI gnt))), (q 11, .inl (z.1, 1584, .inl (aI gco))), (q 2, .inr (0, [.ref (q 6), .ref (q 7), .ref (q 8), .ref (q 9), .ref (q 10), .ref (q 11)])), (q 6, .inl (z.1, 66, .inl (aI (uZ fnu place (-1))))), (q 8, .inl (z.1, 66, .inl (aI gsz)))] H → va_D A [(q 1, .inr (1, [.ref (q 4), .ref (q 5), .int (iI pn), .int (iI fn)])), (q 4, .inl (z.1, 64, .inl (aI fpo))), (q 5, .inl (z.1, 16, .inl (aI ffr))), (q 9, .inl (z.1, 1584, .inl (aI grt))), (q 10, .inl (z.1, 1584, .inl (aI gnt))), (q 11, .inl (z.1, 1584, .inl (aI gco))), (q 2, .inr (0, [.ref (q 6), .ref (q 7), .ref (q 8), .ref (q 9), .ref (q 10), .ref (q 11)])), (q 6, .inl (z.1, 66, .inl (aI (uZ fnu place (-1))))), (q 8, .inl (z.1, 66, .inl (aI gsz)))] → va_S A s.heap H locs → ∀ ls : Array Slot, lv_has ls 5 [(0, .ref (q 1)), (1, .ref (q 2)), (2, .int (iI place)), (3, .int (iI i))] → W p l e (rmD 2) s m [.ref (q 1), .ref (q 2), .int (iI place)].toArray below meth c H locs 0 0 (Zv below [.ref (q 1), .ref (q 2), .int (iI place)].toArray s (rmD 2) G A (fun u9 => ∃ (gsz : Int → Int) (grt : Int → Int) (gnt : Int → Int) (gco : Int → Int), u9 = [(q 1, .inr (1, [.ref (q 4), .ref (q 5), .int (iI pn), .int (iI fn)])), (q 4, .inl (z.1, 64, .inl (aI fpo))), (q 5, .inl (z.1, 16, .inl (aI ffr))), (q 2, .inr (0, [.ref (q 6), .ref (q 7), .ref (q 8), .ref (q 9), .ref (q 10), .ref (q 11)])), (q 6, .inl (z.1, 66, .inl (aI (uZ fnu place (-1))))), (q 8, .inl (z.1, 66, .inl (aI gsz))), (q 9, .inl (z.1, 1584, .inl (aI grt))), (q 10, .inl (z.1, 1584, .inl (aI gnt))), (q 11, .inl (z.1, 1584, .inl (aI gco)))] ∧ (∀ i : Int, 0 ≤ gsz i ∧ gsz i ≤ 24) ∧ (∀ i : Int, -1 ≤ grt i ∧ grt i ≤ 63) ∧ (∀ i : Int, 0 ≤ gnt i ∧ gnt i ≤ 63) ∧ (∀ i : Int, 0 ≤ gco i ∧ gco i ≤ 1000) ∧ (TL fsz frt fnt fco gsz grt gnt gco fpo ffr place 64 fn))) (F0 m 42 ls []) := by
          intro n9
          induction n9 with
          | zero => intro gsz grt gnt gco i hmu; exact absurd hmu (Nat.not_lt_zero _)
          | succ n9 ih =>
            intro gsz grt gnt gco i hmu rgsz rgrt rgnt rgco hi hT H locs hP hD hS ls hl
            refine lv_iload_n hx hb d_K_tellInto_42 rfl (lv_at hl 3 rfl) ?_
            refine lv_aload_n hx hb d_K_tellInto_43 rfl (lv_at hl 0 rfl) ?_
            refine va_get (D := G) (ci := 1) (v := .int (iI fn)) (C := R_K) (T := T_K) (N := 4) hx hb hg iw_K hown hE.1 hP 0 rfl rfl 3 (by decide) (hg _ fl_K_30) (fun _ h9 => h9) rfl d_K_tellInto_44 ?_
            refine rv_icmp_ge (tgt := 90) hx hb d_K_tellInto_47 (by decide) (by constructor <;> omega) (by constructor <;> omega) (fun c_2 => ?_) (fun c_2 => ?_)
            · skip
              have hP9 : va_P G cls0 [(q 1, .inr (1, [.ref (q 4), .ref (q 5), .int (iI pn), .int (iI fn)])), (q 4, .inl (z.1, 64, .inl (aI fpo))), (q 5, .inl (z.1, 16, .inl (aI ffr))), (q 2, .inr (0, [.ref (q 6), .ref (q 7), .ref (q 8), .ref (q 9), .ref (q 10), .ref (q 11)])), (q 6, .inl (z.1, 66, .inl (aI (uZ fnu place (-1))))), (q 8, .inl (z.1, 66, .inl (aI gsz))), (q 9, .inl (z.1, 1584, .inl (aI grt))), (q 10, .inl (z.1, 1584, .inl (aI gnt))), (q 11, .inl (z.1, 1584, .inl (aI gco)))] H := hP.sub [0, 1, 2, 6, 7, 8, 3, 4, 5] rfl
              have hD9 : va_D A [(q 1, .inr (1, [.ref (q 4), .ref (q 5), .int (iI pn), .int (iI fn)])), (q 4, .inl (z.1, 64, .inl (aI fpo))), (q 5, .inl (z.1, 16, .inl (aI ffr))), (q 2, .inr (0, [.ref (q 6), .ref (q 7), .ref (q 8), .ref (q 9), .ref (q 10), .ref (q 11)])), (q 6, .inl (z.1, 66, .inl (aI (uZ fnu place (-1))))), (q 8, .inl (z.1, 66, .inl (aI gsz))), (q 9, .inl (z.1, 1584, .inl (aI grt))), (q 10, .inl (z.1, 1584, .inl (aI gnt))), (q 11, .inl (z.1, 1584, .inl (aI gco)))] := hD.sub [0, 1, 2, 6, 7, 8, 3, 4, 5] (by decide) rfl
              refine rv_vret hx hb hRt hlocks (Nat.le_refl _) (Nat.le_refl _) hP9 hD9 hS d_K_tellInto_90 ?_
              exact ⟨gsz, grt, gnt, gco, rfl, rgsz, rgrt, rgnt, rgco, (by rw [show fn = i by omega]; exact hT)⟩
            · skip
              have hr : gsz place < 24 := by have ha := hT.1; omega
              have hf := rfr i
              refine lv_aload_n hx hb d_K_tellInto_50 rfl (lv_at hl 0 rfl) ?_
              refine va_get (D := G) (ci := 1) (v := .ref (q 5)) (C := R_K) (T := T_K) (N := 4) hx hb hg iw_K hown hE.1 hP 0 rfl rfl 1 (by decide) (hg _ fl_K_15) (fun _ h9 => h9) rfl d_K_tellInto_51 ?_
              refine lv_iload_n hx hb d_K_tellInto_54 rfl (lv_at hl 3 rfl) ?_
              refine rv_iald hx hb hE hP 2 rfl (i := i) (by omega) (by omega) (by decide) d_K_tellInto_55 ?_
              refine lv_bipush (v := iI 64) hx hb d_K_tellInto_56 (by decide +kernel) ?_
              refine rv_idiv hx hb d_K_tellInto_58 (by have := rfr i; omega) (by have := rfr i; constructor <;> omega) (by omega) ⟨by decide, by decide⟩ ?_
              refine lv_istore (lv' := [(4, .int (iI ((ffr i) / 64))), (0, .ref (q 1)), (1, .ref (q 2)), (2, .int (iI place)), (3, .int (iI i))]) hx hb d_K_tellInto_59 hl (by decide) rfl (fun ls hl => ?_)
              refine lv_aload_n hx hb d_K_tellInto_61 rfl (lv_at hl 2 rfl) ?_
              refine lv_iload_n hx hb d_K_tellInto_62 rfl (lv_at hl 3 rfl) ?_
              refine lv_aload_n hx hb d_K_tellInto_63 rfl (lv_at hl 1 rfl) ?_
              refine va_get (D := G) (ci := 1) (v := .ref (q 5)) (C := R_K) (T := T_K) (N := 4) hx hb hg iw_K hown hE.1 hP 0 rfl rfl 1 (by decide) (hg _ fl_K_15) (fun _ h9 => h9) rfl d_K_tellInto_64 ?_
              refine lv_iload_n hx hb d_K_tellInto_67 rfl (lv_at hl 4 rfl) ?_
              refine rv_iald hx hb hE hP 2 rfl (i := i) (by omega) (by omega) (by decide) d_K_tellInto_68 ?_
              refine lv_bipush (v := iI 64) hx hb d_K_tellInto_69 (by decide +kernel) ?_
              refine rv_irem hx hb d_K_tellInto_71 (by have := rfr i; omega) (by have := rfr i; constructor <;> omega) (by omega) ⟨by decide, by decide⟩ ?_
              refine lv_iload hx hb d_K_tellInto_72 (lv_at hl 0 rfl) ?_
              refine lv_aload_n hx hb d_K_tellInto_74 rfl (lv_at hl 1 rfl) ?_
              refine va_get (D := G) (ci := 1) (v := .ref (q 4)) (C := R_K) (T := T_K) (N := 4) hx hb hg iw_K hown hE.1 hP 0 rfl rfl 0 (by decide) (hg _ fl_K_9) (fun _ h9 => h9) rfl d_K_tellInto_75 ?_
              refine lv_iload hx hb d_K_tellInto_78 (lv_at hl 0 rfl) ?_
              refine rv_iald hx hb hE hP 1 rfl (i := (ffr i) / 64) (by have := rfr i; omega) (by have := rfr i; omega) (by decide) d_K_tellInto_80 ?_
              refine qV_v (As := [.int (iI place), .int (iI ((ffr i) % 64)), .int (iI ((ffr i) / 64)), .int (iI (fpo ((ffr i) / 64)))]) (rest := []) (wr := [(q 1, .inr (1, [.ref (q 4), .ref (q 5), .int (iI pn), .int (iI fn)])), (q 4, .inl (z.1, 64, .inl (aI fpo))), (q 5, .inl (z.1, 16, .inl (aI ffr))), (q 6, .inl (z.1, 66, .inl (aI (uZ fnu place (-1)))))]) hx hb hml hown hg hE hA hS hP hD (k_A_append l G z q gsz grt gnt gco place ((ffr i) % 64) ((ffr i) / 64) (fpo ((ffr i) / 64)) (by have ha := hT.1; omega) (by assumption) (by have ha := hT.1; have := rgsz place; omega)) [6, 8, 3, 4, 5] [0, 1, 2, 7] rfl rfl (by decide) (by decide) (by decide) (q0 := 0) rfl rfl ml_K_46 im_A_append se_A_append in_A co_A_append ok_A_append ⟨Nat.le_of_ble_eq_true rfl, Nat.le_of_ble_eq_true rfl⟩ hl.1 rfl (Nat.le_of_ble_eq_true rfl) d_K_tellInto_81 ⟨Nat.le_of_ble_eq_true rfl, Nat.le_of_ble_eq_true rfl⟩ (fun u9 H locs hw hP hD hS => ?_)
              subst hw
              have hP : va_P G cls0 [(q 1, .inr (1, [.ref (q 4), .ref (q 5), .int (iI pn), .int (iI fn)])), (q 4, .inl (z.1, 64, .inl (aI fpo))), (q 5, .inl (z.1, 16, .inl (aI ffr))), (q 6, .inl (z.1, 66, .inl (aI (uZ fnu place (-1))))), (q 2, .inr (0, [.ref (q 6), .ref (q 7), .ref (q 8), .ref (q 9), .ref (q 10), .ref (q 11)])), (q 8, .inl (z.1, 66, .inl (aI (uZ gsz place (gsz place + 1))))), (q 9, .inl (z.1, 1584, .inl (aI (uZ grt (place * 24 + gsz place) ((ffr i) % 64))))), (q 10, .inl (z.1, 1584, .inl (aI (uZ gnt (place * 24 + gsz place) ((ffr i) / 64))))), (q 11, .inl (z.1, 1584, .inl (aI (uZ gco (place * 24 + gsz place) (fpo ((ffr i) / 64))))))] H := hP
              have hD : va_D A [(q 1, .inr (1, [.ref (q 4), .ref (q 5), .int (iI pn), .int (iI fn)])), (q 4, .inl (z.1, 64, .inl (aI fpo))), (q 5, .inl (z.1, 16, .inl (aI ffr))), (q 6, .inl (z.1, 66, .inl (aI (uZ fnu place (-1))))), (q 2, .inr (0, [.ref (q 6), .ref (q 7), .ref (q 8), .ref (q 9), .ref (q 10), .ref (q 11)])), (q 8, .inl (z.1, 66, .inl (aI (uZ gsz place (gsz place + 1))))), (q 9, .inl (z.1, 1584, .inl (aI (uZ grt (place * 24 + gsz place) ((ffr i) % 64))))), (q 10, .inl (z.1, 1584, .inl (aI (uZ gnt (place * 24 + gsz place) ((ffr i) / 64))))), (q 11, .inl (z.1, 1584, .inl (aI (uZ gco (place * 24 + gsz place) (fpo ((ffr i) / 64))))))] := hD
              refine lv_iinc (v := iI (i + 1)) (lv' := [(3, .int (iI (i + 1))), (4, .int (iI ((ffr i) / 64))), (0, .ref (q 1)), (1, .ref (q 2)), (2, .int (iI place))]) hx hb d_K_tellInto_84 hl (k := 4) rfl (iI_add _ _) (by decide) rfl (fun ls hl => ?_)
              refine lv_goto (tgt := 42) hx hb d_K_tellInto_87 (by decide) ?_
              exact ih _ _ _ _ (i + 1) (by omega) (uZ_rng rgsz (by have := rgsz place; omega)) (uZ_rng rgrt (by omega)) (uZ_rng rgnt (by omega)) (uZ_rng rgco (rpo _)) (by omega) (TL_friend hi.1 hr hT) H _ (hP.sub [0, 1, 2, 6, 7, 8, 4, 3, 5] rfl) (hD.sub [0, 1, 2, 6, 7, 8, 4, 3, 5] (by decide) rfl) hS ls (lv_sub hl [2, 3, 4, 0] rfl)
        exact L42 ((fn - 0 : Int).toNat + 1) gsz grt gnt gco 0 (Nat.lt_succ_self _) rgsz rgrt rgnt rgco (by omega) (by rw [show (64 : Int) = n by omega]; exact hT) H _ (hP.sub [0, 1, 2, 3, 4, 5, 6, 7, 8] rfl) (hD.sub [0, 1, 2, 3, 4, 5, 6, 7, 8] (by decide) rfl) hS ls (lv_sub hl [1, 2, 3, 0] rfl)
      · skip
        refine lv_aload_n hx hb d_K_tellInto_13 rfl (lv_at hl 0 rfl) ?_
        refine lv_iload_n hx hb d_K_tellInto_14 rfl (lv_at hl 3 rfl) ?_
        refine qV_i (As := [.int (iI n)]) (rest := []) (wr := [(q 5, .inl (z.1, 16, .inl (aI ffr))), (q 9, .inl (z.1, 1584, .inl (aI grt))), (q 10, .inl (z.1, 1584, .inl (aI gnt))), (q 11, .inl (z.1, 1584, .inl (aI gco))), (q 2, .inr (0, [.ref (q 6), .ref (q 7), .ref (q 8), .ref (q 9), .ref (q 10), .ref (q 11)])), (q 6, .inl (z.1, 66, .inl (aI (uZ fnu place (-1))))), (q 8, .inl (z.1, 66, .inl (aI gsz)))]) hx hb hml hown hg hE hA hS hP hD (k_K_hasPort l G z q fpo pn fn n (by omega) (by assumption)) [0, 1] [2, 3, 4, 5, 6, 7, 8] rfl rfl (by decide) (by decide) (by decide) (q0 := 0) rfl rfl ml_K_18 im_K_hasPort se_K_hasPort in_K co_K_hasPort ok_K_hasPort ⟨Nat.le_of_ble_eq_true rfl, Nat.le_of_ble_eq_true rfl⟩ hl.1 rfl (Nat.le_of_ble_eq_true rfl) d_K_tellInto_15 ⟨Nat.le_of_ble_eq_true rfl, Nat.le_of_ble_eq_true rfl⟩ (fun r9 u9 H locs hw hP hD hS => ?_)
        obtain ⟨rb_3, rfl, rfl, fb_4⟩ := hw
        have hP : va_P G cls0 [(q 5, .inl (z.1, 16, .inl (aI ffr))), (q 9, .inl (z.1, 1584, .inl (aI grt))), (q 10, .inl (z.1, 1584, .inl (aI gnt))), (q 11, .inl (z.1, 1584, .inl (aI gco))), (q 2, .inr (0, [.ref (q 6), .ref (q 7), .ref (q 8), .ref (q 9), .ref (q 10), .ref (q 11)])), (q 6, .inl (z.1, 66, .inl (aI (uZ fnu place (-1))))), (q 8, .inl (z.1, 66, .inl (aI gsz))), (q 1, .inr (1, [.ref (q 4), .ref (q 5), .int (iI pn), .int (iI fn)])), (q 4, .inl (z.1, 64, .inl (aI fpo)))] H := hP
        have hD : va_D A [(q 5, .inl (z.1, 16, .inl (aI ffr))), (q 9, .inl (z.1, 1584, .inl (aI grt))), (q 10, .inl (z.1, 1584, .inl (aI gnt))), (q 11, .inl (z.1, 1584, .inl (aI gco))), (q 2, .inr (0, [.ref (q 6), .ref (q 7), .ref (q 8), .ref (q 9), .ref (q 10), .ref (q 11)])), (q 6, .inl (z.1, 66, .inl (aI (uZ fnu place (-1))))), (q 8, .inl (z.1, 66, .inl (aI gsz))), (q 1, .inr (1, [.ref (q 4), .ref (q 5), .int (iI pn), .int (iI fn)])), (q 4, .inl (z.1, 64, .inl (aI fpo)))] := hD
        refine rv_if_eq (tgt := 34) hx hb d_K_tellInto_18 (by decide) (by constructor <;> omega) (fun c_5 => ?_) (fun c_5 => ?_)
        · skip
          have hz : fpo n = 0 := by omega
          refine lv_iinc (v := iI (n + 1)) (lv' := [(3, .int (iI (n + 1))), (0, .ref (q 1)), (1, .ref (q 2)), (2, .int (iI place))]) hx hb d_K_tellInto_34 hl (k := 3) rfl (iI_add _ _) (by decide) rfl (fun ls hl => ?_)
          refine lv_goto (tgt := 7) hx hb d_K_tellInto_37 (by decide) ?_
          exact ih _ _ _ _ (n + 1) (by omega) (by first | exact uZ_rng rgsz (by have := rgsz place; omega) | exact rgsz) (by first | exact uZ_rng rgrt (by omega) | exact rgrt) (by first | exact uZ_rng rgnt (by omega) | exact rgnt) (by first | exact uZ_rng rgco (rpo n) | exact rgco) (by omega) (by first | exact TL_port hn.1 hz hr hT | exact TL_skip hn.1 hz hT) H _ (hP.sub [7, 8, 0, 1, 2, 3, 4, 5, 6] rfl) (hD.sub [7, 8, 0, 1, 2, 3, 4, 5, 6] (by decide) rfl) hS ls (lv_sub hl [1, 2, 3, 0] rfl)
        · skip
          have hz : ¬ fpo n = 0 := by omega
          have hr : gsz place < 24 := by have hm := cI_mono fpo (show n ≤ 64 by omega); have ha := hT.1; omega
          refine lv_aload_n hx hb d_K_tellInto_21 rfl (lv_at hl 1 rfl) ?_
          refine lv_iload_n hx hb d_K_tellInto_22 rfl (lv_at hl 2 rfl) ?_
          refine lv_iconst (v := iI (-1)) hx hb d_K_tellInto_23 rfl ?_
          refine lv_iload_n hx hb d_K_tellInto_24 rfl (lv_at hl 3 rfl) ?_
          refine lv_aload_n hx hb d_K_tellInto_25 rfl (lv_at hl 0 rfl) ?_
          refine va_get (D := G) (ci := 1) (v := .ref (q 4)) (C := R_K) (T := T_K) (N := 4) hx hb hg iw_K hown hE.1 hP 7 rfl rfl 0 (by decide) (hg _ fl_K_9) (fun _ h9 => h9) rfl d_K_tellInto_26 ?_
          refine lv_iload_n hx hb d_K_tellInto_29 rfl (lv_at hl 3 rfl) ?_
          refine rv_iald hx hb hE hP 8 rfl (i := n) (by omega) (by omega) (by decide) d_K_tellInto_30 ?_
          refine qV_v (As := [.int (iI place), .int (iI ((-1))), .int (iI n), .int (iI (fpo n))]) (rest := []) (wr := [(q 5, .inl (z.1, 16, .inl (aI ffr))), (q 6, .inl (z.1, 66, .inl (aI (uZ fnu place (-1))))), (q 1, .inr (1, [.ref (q 4), .ref (q 5), .int (iI pn), .int (iI fn)])), (q 4, .inl (z.1, 64, .inl (aI fpo)))]) hx hb hml hown hg hE hA hS hP hD (k_A_append l G z q gsz grt gnt gco place ((-1)) n (fpo n) (by have hm := cI_mono fpo (show n ≤ 64 by omega); have ha := hT.1; omega) (by assumption) (by have hm := cI_mono fpo (show n ≤ 64 by omega); have ha := hT.1; have := rgsz place; omega)) [4, 6, 1, 2, 3] [0, 5, 7, 8] rfl rfl (by decide) (by decide) (by decide) (q0 := 0) rfl rfl ml_K_46 im_A_append se_A_append in_A co_A_append ok_A_append ⟨Nat.le_of_ble_eq_true rfl, Nat.le_of_ble_eq_true rfl⟩ hl.1 rfl (Nat.le_of_ble_eq_true rfl) d_K_tellInto_31 ⟨Nat.le_of_ble_eq_true rfl, Nat.le_of_ble_eq_true rfl⟩ (fun u9 H locs hw hP hD hS => ?_)
          subst hw
          have hP : va_P G cls0 [(q 5, .inl (z.1, 16, .inl (aI ffr))), (q 6, .inl (z.1, 66, .inl (aI (uZ fnu place (-1))))), (q 1, .inr (1, [.ref (q 4), .ref (q 5), .int (iI pn), .int (iI fn)])), (q 4, .inl (z.1, 64, .inl (aI fpo))), (q 2, .inr (0, [.ref (q 6), .ref (q 7), .ref (q 8), .ref (q 9), .ref (q 10), .ref (q 11)])), (q 8, .inl (z.1, 66, .inl (aI (uZ gsz place (gsz place + 1))))), (q 9, .inl (z.1, 1584, .inl (aI (uZ grt (place * 24 + gsz place) ((-1)))))), (q 10, .inl (z.1, 1584, .inl (aI (uZ gnt (place * 24 + gsz place) n)))), (q 11, .inl (z.1, 1584, .inl (aI (uZ gco (place * 24 + gsz place) (fpo n)))))] H := hP
          have hD : va_D A [(q 5, .inl (z.1, 16, .inl (aI ffr))), (q 6, .inl (z.1, 66, .inl (aI (uZ fnu place (-1))))), (q 1, .inr (1, [.ref (q 4), .ref (q 5), .int (iI pn), .int (iI fn)])), (q 4, .inl (z.1, 64, .inl (aI fpo))), (q 2, .inr (0, [.ref (q 6), .ref (q 7), .ref (q 8), .ref (q 9), .ref (q 10), .ref (q 11)])), (q 8, .inl (z.1, 66, .inl (aI (uZ gsz place (gsz place + 1))))), (q 9, .inl (z.1, 1584, .inl (aI (uZ grt (place * 24 + gsz place) ((-1)))))), (q 10, .inl (z.1, 1584, .inl (aI (uZ gnt (place * 24 + gsz place) n)))), (q 11, .inl (z.1, 1584, .inl (aI (uZ gco (place * 24 + gsz place) (fpo n)))))] := hD
          refine lv_iinc (v := iI (n + 1)) (lv' := [(3, .int (iI (n + 1))), (0, .ref (q 1)), (1, .ref (q 2)), (2, .int (iI place))]) hx hb d_K_tellInto_34 hl (k := 3) rfl (iI_add _ _) (by decide) rfl (fun ls hl => ?_)
          refine lv_goto (tgt := 7) hx hb d_K_tellInto_37 (by decide) ?_
          exact ih _ _ _ _ (n + 1) (by omega) (by first | exact uZ_rng rgsz (by have := rgsz place; omega) | exact rgsz) (by first | exact uZ_rng rgrt (by omega) | exact rgrt) (by first | exact uZ_rng rgnt (by omega) | exact rgnt) (by first | exact uZ_rng rgco (rpo n) | exact rgco) (by omega) (by first | exact TL_port hn.1 hz hr hT | exact TL_skip hn.1 hz hT) H _ (hP.sub [2, 3, 0, 6, 7, 8, 4, 1, 5] rfl) (hD.sub [2, 3, 0, 6, 7, 8, 4, 1, 5] (by decide) rfl) hS ls (lv_sub hl [1, 2, 3, 0] rfl)
  exact L7 ((64 - 0 : Int).toNat + 1) (uZ fsz place 0) frt fnt fco 0 (Nat.lt_succ_self _) (uZ_rng rsz (by omega)) rrt rnt rco (by omega) TL_0 H _ (hP.sub [0, 1, 2, 3, 4, 5, 6, 7, 8] rfl) (hD.sub [0, 1, 2, 3, 4, 5, 6, 7, 8] (by decide) rfl) hS ls (lv_sub hl [1, 2, 3, 0] rfl)
end
section
/-! Bits of a mask, by whole numbers. -/
def tb (x k : Int) : Prop := x.toNat.testBit k.toNat = true
def lorI (x y : Int) : Int := ((x.toNat ||| y.toNat : Nat) : Int)
def bI (k : Int) : Int := ((2 ^ k.toNat : Nat) : Int)
theorem tb_lor {x y k : Int} : tb (lorI x y) k ↔ (tb x k ∨ tb y k) := by
  unfold tb lorI
  rw [Int.toNat_natCast, Nat.testBit_or, Bool.or_eq_true]
theorem tb_bI {j k : Int} (hj : 0 ≤ j) (hk : 0 ≤ k) : tb (bI j) k ↔ k = j := by
  unfold tb bI
  rw [Int.toNat_natCast, Nat.testBit_two_pow]
  simp only [decide_eq_true_eq]
  omega
theorem tb_0 {k : Int} : ¬ tb 0 k := by simp [tb]
theorem lorI_b {x y : Int} (hx : 0 ≤ x ∧ x < 16777216) (hy : 0 ≤ y ∧ y < 16777216) : 0 ≤ lorI x y ∧ lorI x y < 16777216 := by
  unfold lorI
  have h : x.toNat ||| y.toNat < 2 ^ 24 := Nat.or_lt_two_pow (by omega) (by omega)
  omega
theorem bI_b {k : Int} (h0 : 0 ≤ k) (h : k < 24) : 0 ≤ bI k ∧ bI k < 16777216 := by
  unfold bI
  have h1 : (2 : Nat) ^ k.toNat < 2 ^ 24 := Nat.pow_lt_pow_right (by omega) (by omega)
  generalize (2 : Nat) ^ k.toNat = w at h1 ⊢
  omega
theorem bI_0 (k : Int) : 0 ≤ bI k := Int.natCast_nonneg _
theorem iI_nI {x : Int} (h : 0 ≤ x) : iI x = nI x.toNat := by
  unfold iI nI
  rw [← Int32.ofInt_eq_ofNat, Int.toNat_of_nonneg h]
theorem nI_or (a b : Nat) : nI a ||| nI b = nI (a ||| b) := by
  apply Int32.toBitVec_inj.mp
  show (Int32.ofNat a ||| Int32.ofNat b).toBitVec = (Int32.ofNat (a ||| b)).toBitVec
  rw [Int32.toBitVec_or, Int32.toBitVec_ofNat', Int32.toBitVec_ofNat', Int32.toBitVec_ofNat', BitVec.ofNat_or]
theorem iI_or {x y : Int} (hx : 0 ≤ x) (hy : 0 ≤ y) : iI x ||| iI y = iI (lorI x y) := by
  rw [iI_nI hx, iI_nI hy, nI_or, iI_nI (by unfold lorI; omega)]
  unfold lorI
  rw [Int.toNat_natCast]
theorem nI_shl1 : ∀ k : Nat, k < 24 → (nI 1) <<< (nI k &&& 31) = nI (2 ^ k) := by decide +kernel
theorem iI_shl1 {k : Int} (h0 : 0 ≤ k) (h : k < 24) : iI 1 <<< (iI k &&& 31) = iI (bI k) := by
  rw [iI_nI (bI_0 k), iI_nI h0]
  unfold bI
  rw [Int.toNat_natCast]
  exact nI_shl1 _ (by omega)
section RV3
variable {p : Program} {l : Launch} {e : Env} {R : Room} {s : State} {m : MethodId} {args : Array Value} {below : List Frame} {meth : Method} {c : Code} {H : Heap} {locs : List Loc} {cells slots : Nat} {Q : State → Prop}
variable {cc : ByteArray} {pc : Nat} {ls : Array Slot} {rest : List Value}
theorem rv_ior (hexec : p.tables.exec = Jvm.exec) (hb : c.code = cc) {x y : Int} (hdg : decode cc pc = .ok (.ior, 1)) (hx : 0 ≤ x) (hy : 0 ≤ y)
    (k : W p l e R s m args below meth c H locs cells slots Q (F0 m (pc + 1) ls (.int (iI (lorI x y)) :: rest))) : W p l e R s m args below meth c H locs cells slots Q (F0 m pc ls (.int (iI y) :: .int (iI x) :: rest)) :=
  lv_ior hexec hb hdg (by rw [iI_or hx hy]; exact k)
theorem rv_ishl1 (hexec : p.tables.exec = Jvm.exec) (hb : c.code = cc) {y : Int} (hdg : decode cc pc = .ok (.ishl, 1)) (h0 : 0 ≤ y) (h1 : y < 24)
    (k : W p l e R s m args below meth c H locs cells slots Q (F0 m (pc + 1) ls (.int (iI (bI y)) :: rest))) : W p l e R s m args below meth c H locs cells slots Q (F0 m pc ls (.int (iI y) :: .int (iI 1) :: rest)) :=
  lv_ishl hexec hb hdg (by rw [iI_shl1 h0 h1]; exact k)
end RV3
/-! Ways. -/
def hasE (sz rt nt : Int → Int) (p r n : Int) : Prop := ∃ k : Int, 0 ≤ k ∧ k < sz p ∧ rt (p * 24 + k) = r ∧ nt (p * 24 + k) = n
def usb (sz rt nt : Int → Int) (r k : Int) : Prop := 0 ≤ k ∧ k < sz r ∧ ¬ rt (r * 24 + k) = -1 ∧ hasE sz rt nt (rt (r * 24 + k)) r (nt (r * 24 + k))
def eg (sz rt nt co : Int → Int) (p t c : Int) : Prop := ∃ k : Int, usb sz rt nt p k ∧ rt (p * 24 + k) = t ∧ co (p * 24 + k) = c
/-- in n steps over edges E from src to t, at the cost d -/
def Rc (E : Int → Int → Int → Prop) (src : Int) : Nat → Int → Int → Prop
  | 0, t, d => t = src ∧ d = 0
  | n + 1, t, d => ∃ p d0 c : Int, Rc E src n p d0 ∧ E p t c ∧ d = d0 + c
/-- f is the least cost from src, -1 where no way leads -/
def isD (E : Int → Int → Int → Prop) (src : Int) (f : Int → Int) : Prop := ∀ t : Int, 0 ≤ t → t < 64 → (f t = -1 ∧ ∀ n d, ¬ Rc E src n t d) ∨ (0 ≤ f t ∧ (∃ n, Rc E src n t (f t)) ∧ ∀ n d, Rc E src n t d → f t ≤ d)
theorem isD_uniq {E : Int → Int → Int → Prop} {src : Int} {f g : Int → Int} (hf : isD E src f) (hg : isD E src g) {t : Int} (h0 : 0 ≤ t) (h1 : t < 64) : f t = g t := by
  rcases hf t h0 h1 with ⟨a, b⟩ | ⟨a, ⟨n, b⟩, c⟩ <;> rcases hg t h0 h1 with ⟨a', b'⟩ | ⟨a', ⟨n', b'⟩, c'⟩
  · rw [a, a']
  · exact absurd b' (b _ _)
  · exact absurd b (b' _ _)
  · have := c _ _ b'
    have := c' _ _ b
    omega
/-- entry b of self begins a way to t of cost d -/
def FS (sz rt nt co : Int → Int) (self b t d : Int) : Prop := usb sz rt nt self b ∧ ∃ (n : Nat) (d0 : Int), Rc (eg sz rt nt co) (rt (self * 24 + b)) n t d0 ∧ d = co (self * 24 + b) + d0
def WAYS (sz rt nt co : Int → Int) (self : Int) (su sr : Int → Int) : Prop := isD (eg sz rt nt co) self su ∧ ∀ t : Int, 0 ≤ t → t < 64 → t ≠ self → su t ≠ -1 → ∀ b : Int, 0 ≤ b → b < 24 → (tb (sr t) b ↔ FS sz rt nt co self b t (su t))
def bgn (sr : Int → Int) (self r k b : Int) : Prop := (r = self ∧ b = k) ∨ (r ≠ self ∧ tb (sr r) b)
/-- the entries below j of router r are gone over: su, sr before, sv, sx now -/
def GO (sz rt nt co : Int → Int) (self r : Int) (su sr sv sx : Int → Int) (j : Int) : Prop :=
  (∀ t : Int, 0 ≤ t → t < 64 → (sv t = su t ∨ ∃ k : Int, k < j ∧ usb sz rt nt r k ∧ rt (r * 24 + k) = t ∧ sv t = su r + co (r * 24 + k))) ∧
  (∀ t : Int, 0 ≤ t → t < 64 → su t ≠ -1 → sv t ≠ -1 ∧ sv t ≤ su t) ∧
  (∀ k : Int, k < j → usb sz rt nt r k → sv (rt (r * 24 + k)) ≠ -1 ∧ sv (rt (r * 24 + k)) ≤ su r + co (r * 24 + k)) ∧
  (∀ t b : Int, 0 ≤ t → t < 64 → 0 ≤ b → b < 24 → (tb (sx t) b ↔ ((sv t = su t ∧ tb (sr t) b) ∨ ∃ k : Int, k < j ∧ usb sz rt nt r k ∧ rt (r * 24 + k) = t ∧ su r + co (r * 24 + k) = sv t ∧ bgn sr self r k b))) ∧
  (∀ t : Int, 0 ≤ t → t < 64 → su t ≠ -1 → su t ≤ su r → sv t = su t ∧ sx t = sr t)
theorem GO_0 {sz rt nt co : Int → Int} {self r : Int} {su sr : Int → Int} : GO sz rt nt co self r su sr su sr 0 := by
  refine ⟨fun t _ _ => Or.inl rfl, fun t _ _ h => ⟨h, Int.le_refl _⟩, fun k hk hu => absurd hu.1 (by omega), fun t b _ _ _ _ => ⟨fun h => Or.inl ⟨rfl, h⟩, ?_⟩, fun t _ _ _ _ => ⟨rfl, rfl⟩⟩
  rintro (h | ⟨k, hk, hu, -⟩)
  · exact h.2
  · exact absurd hu.1 (by omega)
theorem GO_skip {sz rt nt co : Int → Int} {self r : Int} {su sr sv sx : Int → Int} {j : Int} (hu : ¬ usb sz rt nt r j) (h : GO sz rt nt co self r su sr sv sx j) : GO sz rt nt co self r su sr sv sx (j + 1) := by
  obtain ⟨a, b, c, d, e⟩ := h
  have low : ∀ k : Int, k < j + 1 → usb sz rt nt r k → k < j := fun k hk q => by
    by_cases hj : k = j
    · subst hj; exact absurd q hu
    · omega
  refine ⟨fun t t0 t1 => ?_, b, fun k hk q => c k (low k hk q) q, fun t b' t0 t1 b0 b1 => ?_, e⟩
  · rcases a t t0 t1 with h | ⟨k, h1, h2⟩
    · exact Or.inl h
    · exact Or.inr ⟨k, by omega, h2⟩
  · rw [d t b' t0 t1 b0 b1]
    constructor
    · rintro (h | ⟨k, h1, h2⟩)
      · exact Or.inl h
      · exact Or.inr ⟨k, by omega, h2⟩
    · rintro (h | ⟨k, h1, h2, h3⟩)
      · exact Or.inl h
      · exact Or.inr ⟨k, low k h1 h2, h2, h3⟩
/-- what Ways.reach does -/
def RCH (sv sx sv2 sx2 : Int → Int) (t sum bg : Int) : Prop :=
  ((sv t = -1 ∨ sum < sv t) ∧ sv2 = uZ sv t sum ∧ sx2 = uZ sx t bg) ∨ (¬ (sv t = -1 ∨ sum < sv t) ∧ sum = sv t ∧ sv2 = sv ∧ sx2 = uZ sx t (lorI (sx t) bg)) ∨ (¬ (sv t = -1 ∨ sum < sv t) ∧ ¬ sum = sv t ∧ sv2 = sv ∧ sx2 = sx)
theorem GO_edge {sz rt nt co : Int → Int} {self r : Int} {su sr sv sx sv2 sx2 : Int → Int} {j bg : Int} (hr : 0 ≤ r ∧ r < 64) (hsr : 0 ≤ su r) (hc : 1 ≤ co (r * 24 + j)) (hu : usb sz rt nt r j) (ht : 0 ≤ rt (r * 24 + j) ∧ rt (r * 24 + j) < 64)
    (hb : ∀ b : Int, 0 ≤ b → b < 24 → (tb bg b ↔ bgn sr self r j b)) (hR : RCH sv sx sv2 sx2 (rt (r * 24 + j)) (su r + co (r * 24 + j)) bg) (h : GO sz rt nt co self r su sr sv sx j) : GO sz rt nt co self r su sr sv2 sx2 (j + 1) := by
  obtain ⟨a, b, c, d, e⟩ := h
  generalize hte : rt (r * 24 + j) = t0 at *
  have up : ∀ {P : Int → Prop}, (∃ k : Int, k < j ∧ P k) → ∃ k : Int, k < j + 1 ∧ P k := fun ⟨k, h1, h2⟩ => ⟨k, by omega, h2⟩
  have split1 : ∀ {P : Int → Prop}, (∃ k : Int, k < j + 1 ∧ P k) → (∃ k : Int, k < j ∧ P k) ∨ P j := by
    rintro P ⟨k, h1, h2⟩
    by_cases hk : k = j
    · subst hk; exact Or.inr h2
    · exact Or.inl ⟨k, by omega, h2⟩
  rcases hR with ⟨hlt, rfl, rfl⟩ | ⟨hnl, heq, rfl, rfl⟩ | ⟨hnl, hne, rfl, rfl⟩
  · -- a new least sum
    have hold : ∀ t : Int, t ≠ t0 → uZ sv t0 (su r + co (r * 24 + j)) t = sv t ∧ uZ sx t0 bg t = sx t := fun t h => ⟨uZ_n h, uZ_n h⟩
    have hsu : su t0 = -1 ∨ su r + co (r * 24 + j) < su t0 := by
      rcases hlt with h | h
      · by_cases q : su t0 = -1
        · exact Or.inl q
        · exact absurd h (b t0 ht.1 ht.2 q).1
      · by_cases q : su t0 = -1
        · exact Or.inl q
        · have := (b t0 ht.1 ht.2 q).2
          exact Or.inr (by omega)
    refine ⟨fun t h0 h1 => ?_, fun t h0 h1 hn => ?_, fun k hk q => ?_, fun t b' h0 h1 b0 b1 => ?_, fun t h0 h1 hn hl => ?_⟩
    · by_cases q : t = t0
      · subst q; exact Or.inr ⟨j, by omega, hu, hte, uZ_s⟩
      · rw [(hold t q).1]
        rcases a t h0 h1 with h | h
        · exact Or.inl h
        · exact Or.inr (up h)
    · by_cases q : t = t0
      · subst q
        rw [uZ_s]
        rcases hsu with h | h
        · exact absurd h hn
        · exact ⟨by omega, by omega⟩
      · rw [(hold t q).1]; exact b t h0 h1 hn
    · by_cases hk2 : k = j
      · subst hk2; rw [hte, uZ_s]; exact ⟨by omega, Int.le_refl _⟩
      · by_cases q2 : rt (r * 24 + k) = t0
        · rw [q2, uZ_s]
          have h3 := c k (by omega) q
          rw [q2] at h3
          rcases hlt with h | h
          · exact absurd h h3.1
          · exact ⟨by omega, by omega⟩
        · rw [(hold _ q2).1]; exact c k (by omega) q
    · by_cases q : t = t0
      · subst q
        rw [uZ_s, uZ_s, hb b' b0 b1]
        constructor
        · intro h; exact Or.inr ⟨j, by omega, hu, hte, rfl, h⟩
        · rintro (⟨h1, h2⟩ | h)
          · rcases hsu with h | h
            · omega
            · omega
          · rcases split1 h with ⟨k, k1, k2, k3, k4, k5⟩ | ⟨-, -, -, h⟩
            · have h3 := c k k1 k2
              rw [k3] at h3
              rcases hlt with h | h
              · exact absurd h h3.1
              · omega
            · exact h
      · rw [(hold t q).1, (hold t q).2, d t b' h0 h1 b0 b1]
        constructor
        · rintro (h | h)
          · exact Or.inl h
          · exact Or.inr (up h)
        · rintro (h | h)
          · exact Or.inl h
          · rcases split1 h with h | ⟨-, h2, -⟩
            · exact Or.inr h
            · exact absurd (hte.symm.trans h2).symm q
    · have q : t ≠ t0 := by
        intro q; subst q
        rcases hsu with h | h
        · exact hn h
        · omega
      rw [(hold t q).1, (hold t q).2]
      exact e t h0 h1 hn hl
  · -- the same sum
    have hold : ∀ t : Int, t ≠ t0 → uZ sx t0 (lorI (sx t0) bg) t = sx t := fun t h => uZ_n h
    refine ⟨fun t h0 h1 => ?_, b, fun k hk q => ?_, fun t b' h0 h1 b0 b1 => ?_, fun t h0 h1 hn hl => ?_⟩
    · rcases a t h0 h1 with h | h
      · exact Or.inl h
      · exact Or.inr (up h)
    · by_cases hk2 : k = j
      · subst hk2; rw [hte]; exact ⟨fun h => hnl (Or.inl h), by omega⟩
      · exact c k (by omega) q
    · by_cases q : t = t0
      · subst q
        rw [uZ_s, tb_lor, d t b' h0 h1 b0 b1, hb b' b0 b1]
        constructor
        · rintro ((h | h) | h)
          · exact Or.inl h
          · exact Or.inr (up h)
          · exact Or.inr ⟨j, by omega, hu, hte, heq, h⟩
        · rintro (h | h)
          · exact Or.inl (Or.inl h)
          · rcases split1 h with h | ⟨-, -, -, h⟩
            · exact Or.inl (Or.inr h)
            · exact Or.inr h
      · rw [hold t q, d t b' h0 h1 b0 b1]
        constructor
        · rintro (h | h)
          · exact Or.inl h
          · exact Or.inr (up h)
        · rintro (h | h)
          · exact Or.inl h
          · rcases split1 h with h | ⟨-, h2, -⟩
            · exact Or.inr h
            · exact absurd (hte.symm.trans h2).symm q
    · have q : t ≠ t0 := by
        intro q; subst q
        have := (e t h0 h1 hn hl).1
        omega
      rw [hold t q]
      exact e t h0 h1 hn hl
  · -- a greater sum
    refine ⟨fun t h0 h1 => ?_, b, fun k hk q => ?_, fun t b' h0 h1 b0 b1 => ?_, e⟩
    · rcases a t h0 h1 with h | h
      · exact Or.inl h
      · exact Or.inr (up h)
    · by_cases hk2 : k = j
      · subst hk2; rw [hte]; exact ⟨fun h => hnl (Or.inl h), by omega⟩
      · exact c k (by omega) q
    · rw [d t b' h0 h1 b0 b1]
      constructor
      · rintro (h | h)
        · exact Or.inl h
        · exact Or.inr (up h)
      · rintro (h | h)
        · exact Or.inl h
        · rcases split1 h with h | ⟨-, h2, h3, -⟩
          · exact Or.inr h
          · exact absurd (by rw [h3, ← h2, hte]) hne
end
section
theorem cN_upd {f : Int → Int} {r v : Int} (h0 : 0 ≤ r) (hz : f r = 0) (hv : v ≠ 0) : ∀ n : Nat, cN (uZ f r v) n = cN f n + (if r < n then 1 else 0)
  | 0 => by simp [cN]; omega
  | n + 1 => by
    have ih := cN_upd h0 hz hv n
    unfold cN
    rw [ih]
    by_cases e : (n : Int) = r
    · subst e
      rw [uZ_s, if_neg (show ¬ ((n : Int) < (n : Int)) by omega), if_neg hv, if_pos hz, if_pos (show (n : Int) < ((n + 1 : Nat) : Int) by omega)]
      try omega
    · rw [uZ_n e]
      by_cases h : r < (n : Int)
      · rw [if_pos h, if_pos (show r < ((n + 1 : Nat) : Int) by omega)]; omega
      · rw [if_neg h, if_neg (show ¬ r < ((n + 1 : Nat) : Int) by omega)]; omega
theorem cI_upd {f : Int → Int} {r v k : Int} (h0 : 0 ≤ r) (h1 : r < k) (hz : f r = 0) (hv : v ≠ 0) : cI (uZ f r v) k = cI f k + 1 := by
  unfold cI
  rw [cN_upd h0 hz hv, if_pos (by omega)]
theorem cI_full {f : Int → Int} {k : Int} (hk : 0 ≤ k) (h : cI f k = k) : ∀ j : Int, 0 ≤ j → j < k → f j ≠ 0 := by
  intro j h0 h1 hz
  have a := cI_s0 h0 hz
  have b := cI_b f h0
  have c : ∀ d : Nat, cI f (j + 1 + d) ≤ cI f (j + 1) + d := by
    intro d
    induction d with
    | zero => simp
    | succ d ih =>
      have := cI_s (f := f) (show 0 ≤ j + 1 + (d : Int) by omega)
      rw [show j + 1 + ((d + 1 : Nat) : Int) = j + 1 + (d : Int) + 1 by omega, this]
      split <;> omega
  have d := c (k - (j + 1)).toNat
  rw [show j + 1 + ((k - (j + 1)).toNat : Int) = k by omega] at d
  omega
def DJ (sz rt nt co : Int → Int) (self : Int) (su sr se : Int → Int) (rd : Int) : Prop :=
  su self = 0 ∧ (∀ t : Int, 0 ≤ t → t < 64 → su t = -1 ∨ (0 ≤ su t ∧ su t ≤ 1000 * rd)) ∧
  (∀ t : Int, 0 ≤ t → t < 64 → su t ≠ -1 → ∃ n, Rc (eg sz rt nt co) self n t (su t)) ∧
  (∀ r : Int, 0 ≤ r → r < 64 → se r = 1 → su r ≠ -1) ∧
  (∀ r t : Int, 0 ≤ r → r < 64 → 0 ≤ t → t < 64 → se r = 1 → se t = 0 → su t ≠ -1 → su r ≤ su t) ∧
  (∀ r k : Int, 0 ≤ r → r < 64 → se r = 1 → usb sz rt nt r k → su (rt (r * 24 + k)) ≠ -1 ∧ su (rt (r * 24 + k)) ≤ su r + co (r * 24 + k)) ∧
  (∀ t b : Int, 0 ≤ t → t < 64 → t ≠ self → 0 ≤ b → b < 24 → (tb (sr t) b ↔ ∃ r k : Int, 0 ≤ r ∧ r < 64 ∧ se r = 1 ∧ usb sz rt nt r k ∧ rt (r * 24 + k) = t ∧ su r + co (r * 24 + k) = su t ∧ bgn sr self r k b)) ∧
  cI se 64 = rd
/-- the rows as far as the ways need them -/
def AOK (sz rt co : Int → Int) : Prop := (∀ i : Int, -1 ≤ rt i ∧ rt i ≤ 63) ∧ (∀ i : Int, 0 ≤ co i ∧ co i ≤ 1000) ∧ ∀ r k : Int, 0 ≤ r → r < 64 → 0 ≤ k → k < sz r → 1 ≤ co (r * 24 + k)
theorem usb_t {sz rt nt co : Int → Int} (hA : AOK sz rt co) {r k : Int} (hu : usb sz rt nt r k) : 0 ≤ rt (r * 24 + k) ∧ rt (r * 24 + k) < 64 := by
  have := hA.1 (r * 24 + k)
  have := hu.2.2.1
  omega
theorem usb_c {sz rt nt co : Int → Int} (hA : AOK sz rt co) {r k : Int} (h0 : 0 ≤ r) (h1 : r < 64) (hu : usb sz rt nt r k) : 1 ≤ co (r * 24 + k) := hA.2.2 r k h0 h1 hu.1 hu.2.1
theorem DJ_0 {sz rt nt co : Int → Int} {self : Int} {su sr se : Int → Int} (hs : 0 ≤ self ∧ self < 64) (h1 : su self = 0) (h2 : ∀ t : Int, 0 ≤ t → t < 64 → t ≠ self → su t = -1) (h3 : ∀ t : Int, 0 ≤ t → t < 64 → sr t = 0) (h4 : ∀ t : Int, 0 ≤ t → t < 64 → se t = 0) : DJ sz rt nt co self su sr se 0 := by
  refine ⟨h1, fun t a b => ?_, fun t a b c => ?_, fun r a b c => ?_, fun r t a b _ _ c => ?_, fun r k a b c => ?_, fun t b' a b c _ _ => ?_, ?_⟩
  · by_cases e : t = self
    · rw [e, h1]; exact Or.inr ⟨by omega, by omega⟩
    · exact Or.inl (h2 t a b e)
  · by_cases e : t = self
    · rw [e, h1]; exact ⟨0, rfl, rfl⟩
    · exact absurd (h2 t a b e) c
  · rw [h4 r a b] at c; omega
  · rw [h4 r a b] at c; omega
  · rw [h4 r a b] at c; omega
  · rw [h3 t a b]
    constructor
    · intro h; exact absurd h tb_0
    · rintro ⟨r, k, r0, r1, h, -⟩; rw [h4 r r0 r1] at h; omega
  · rw [cI_congr (g := fun _ => 0) (fun j a b => by simp [h4 j a b])]
    decide
theorem DJ_step {sz rt nt co : Int → Int} {self : Int} {su sr se sv sx : Int → Int} {rd r : Int} (hA : AOK sz rt co) (hs : 0 ≤ self ∧ self < 64) (hr : 0 ≤ r ∧ r < 64) (hse : ∀ t : Int, se t = 0 ∨ se t = 1) (hun : se r = 0) (hre : su r ≠ -1) (hnear : ∀ t : Int, 0 ≤ t → t < 64 → se t = 0 → su t ≠ -1 → su r ≤ su t)
    (hD : DJ sz rt nt co self su sr se rd) (hG : GO sz rt nt co self r su sr sv sx (sz r)) : DJ sz rt nt co self sv sx (uZ se r 1) (rd + 1) := by
  obtain ⟨d1, d2, d3, d4, d5, d6, d7, d8⟩ := hD
  obtain ⟨g1, g2, g3, g4, g5⟩ := hG
  have hr0 : 0 ≤ su r ∧ su r ≤ 1000 * rd := by rcases d2 r hr.1 hr.2 with h | h; exact absurd h hre; exact h
  have hset : ∀ x : Int, 0 ≤ x → x < 64 → se x = 1 → sv x = su x ∧ sx x = sr x ∧ su x ≤ su r := by
    intro x x0 x1 hx
    have h1 := d5 x r x0 x1 hr.1 hr.2 hx hun hre
    have h2 := g5 x x0 x1 (d4 x x0 x1 hx) h1
    exact ⟨h2.1, h2.2, h1⟩
  have hrr := g5 r hr.1 hr.2 hre (Int.le_refl _)
  have hset2 : ∀ x : Int, 0 ≤ x → x < 64 → uZ se r 1 x = 1 → sv x = su x ∧ sx x = sr x ∧ su x ≤ su r ∧ (x = r ∨ se x = 1) := by
    intro x x0 x1 hx
    by_cases e : x = r
    · subst e; exact ⟨hrr.1, hrr.2, Int.le_refl _, Or.inl rfl⟩
    · rw [uZ_n e] at hx
      have := hset x x0 x1 hx
      exact ⟨this.1, this.2.1, this.2.2, Or.inr hx⟩
  have hself : sv self = su self := (g5 self hs.1 hs.2 (by rw [d1]; omega) (by rw [d1]; omega)).1
  refine ⟨by rw [hself]; exact d1, fun t t0 t1 => ?_, fun t t0 t1 ht => ?_, fun x x0 x1 hx => ?_, fun x t x0 x1 t0 t1 hx ht hn => ?_, fun x k x0 x1 hx hu => ?_, fun t b t0 t1 hts b0 b1 => ?_, ?_⟩
  · rcases g1 t t0 t1 with h | ⟨k, -, hu, -, h⟩
    · rw [h]
      rcases d2 t t0 t1 with q | q
      · exact Or.inl q
      · exact Or.inr ⟨q.1, by omega⟩
    · have := hA.2.1 (r * 24 + k)
      rw [h]
      exact Or.inr ⟨by omega, by omega⟩
  · rcases g1 t t0 t1 with h | ⟨k, -, hu, hk, h⟩
    · rw [h] at ht ⊢; exact d3 t t0 t1 ht
    · obtain ⟨n, hn⟩ := d3 r hr.1 hr.2 hre
      exact ⟨n + 1, r, su r, co (r * 24 + k), hn, ⟨k, hu, hk, rfl⟩, h⟩
  · obtain ⟨a, -, -, b⟩ := hset2 x x0 x1 hx
    rw [a]
    rcases b with rfl | b
    · exact hre
    · exact d4 x x0 x1 b
  · obtain ⟨a, -, hle, -⟩ := hset2 x x0 x1 hx
    rw [a]
    have hte : t ≠ r := by intro q; subst q; rw [uZ_s] at ht; omega
    rw [uZ_n hte] at ht
    rcases g1 t t0 t1 with h | ⟨k, -, hu, -, h⟩
    · rw [h] at hn ⊢
      have := hnear t t0 t1 ht hn
      omega
    · have := usb_c hA hr.1 hr.2 hu
      omega
  · obtain ⟨a, -, -, b⟩ := hset2 x x0 x1 hx
    have ht := usb_t hA hu
    rw [a]
    by_cases e : x = r
    · subst e; exact g3 k hu.2.1 hu
    · have hx1 : se x = 1 := by rcases b with b | b; exact absurd b e; exact b
      have h1 := d6 x k x0 x1 hx1 hu
      have h2 := g2 _ ht.1 ht.2 h1.1
      exact ⟨h2.1, by omega⟩
  · rw [g4 t b t0 t1 b0 b1]
    constructor
    · rintro (⟨h1, h2⟩ | ⟨k, -, hu, hk, he, hb⟩)
      · obtain ⟨x, k, x0, x1, hx, hu, hk, he, hb⟩ := (d7 t b t0 t1 hts b0 b1).mp h2
        have hq := hset x x0 x1 hx
        have hxr : x ≠ r := by intro q; subst q; omega
        refine ⟨x, k, x0, x1, by rw [uZ_n hxr]; exact hx, hu, hk, by rw [hq.1, h1]; exact he, ?_⟩
        rcases hb with hb | ⟨hb1, hb2⟩
        · exact Or.inl hb
        · exact Or.inr ⟨hb1, by rw [hq.2.1]; exact hb2⟩
      · refine ⟨r, k, hr.1, hr.2, uZ_s, hu, hk, by rw [hrr.1]; exact he, ?_⟩
        rcases hb with hb | ⟨hb1, hb2⟩
        · exact Or.inl hb
        · exact Or.inr ⟨hb1, by rw [hrr.2]; exact hb2⟩
    · rintro ⟨x, k, x0, x1, hx, hu, hk, he, hb⟩
      obtain ⟨a1, a2, -, b'⟩ := hset2 x x0 x1 hx
      have hb' : bgn sr self x k b := by
        rcases hb with hb | ⟨hb1, hb2⟩
        · exact Or.inl hb
        · exact Or.inr ⟨hb1, by rw [← a2]; exact hb2⟩
      by_cases e : x = r
      · subst e
        exact Or.inr ⟨k, hu.2.1, hu, hk, by rw [← a1]; exact he, hb'⟩
      · have hx1 : se x = 1 := by rcases b' with q | q; exact absurd q e; exact q
        have h1 := d6 x k x0 x1 hx1 hu
        rw [hk] at h1
        have h2 := g2 t t0 t1 h1.1
        have h3 : sv t = su t := by omega
        refine Or.inl ⟨h3, (d7 t b t0 t1 hts b0 b1).mpr ⟨x, k, x0, x1, hx1, hu, hk, by omega, hb'⟩⟩
  · rw [cI_upd hr.1 hr.2 hun (by omega), d8]
theorem Rc_in {sz rt nt co : Int → Int} (hA : AOK sz rt co) {src : Int} (hs : 0 ≤ src ∧ src < 64) : ∀ (n : Nat) (t d : Int), Rc (eg sz rt nt co) src n t d → 0 ≤ t ∧ t < 64
  | 0, t, d, h => by rw [h.1]; exact hs
  | n + 1, t, d, ⟨p, d0, c, _, ⟨k, hu, hk, _⟩, _⟩ => by rw [← hk]; exact usb_t hA hu
theorem Rc_nn {sz rt nt co : Int → Int} (hA : AOK sz rt co) {src : Int} (hs : 0 ≤ src ∧ src < 64) : ∀ (n : Nat) (t d : Int), Rc (eg sz rt nt co) src n t d → 0 ≤ d
  | 0, t, d, h => by rw [h.2]; omega
  | n + 1, t, d, ⟨p, d0, c, h1, ⟨k, hu, hk, hc⟩, h3⟩ => by
    have := Rc_nn hA hs n p d0 h1
    have := hA.2.1 (p * 24 + k)
    omega
/-- a step more at the front -/
theorem Rc_cons {E : Int → Int → Int → Prop} {src x c : Int} (h : E src x c) : ∀ (n : Nat) (t d : Int), Rc E x n t d → Rc E src (n + 1) t (c + d)
  | 0, t, d, ⟨h1, h2⟩ => by subst h1; subst h2; exact ⟨src, 0, c, ⟨rfl, rfl⟩, h, by omega⟩
  | n + 1, t, d, ⟨p, d0, c', h1, h2, h3⟩ => ⟨p, c + d0, c', Rc_cons h n p d0 h1, h2, by omega⟩
theorem DJ_end {sz rt nt co : Int → Int} {self : Int} {su sr se : Int → Int} {rd : Int} (hA : AOK sz rt co) (hs : 0 ≤ self ∧ self < 64) (hall : ∀ t : Int, 0 ≤ t → t < 64 → su t ≠ -1 → se t = 1) (hD : DJ sz rt nt co self su sr se rd) : WAYS sz rt nt co self su sr := by
  obtain ⟨d1, d2, d3, d4, d5, d6, d7, d8⟩ := hD
  have least : ∀ (n : Nat) (t d : Int), Rc (eg sz rt nt co) self n t d → su t ≠ -1 ∧ su t ≤ d := by
    intro n
    induction n with
    | zero => rintro t d ⟨rfl, rfl⟩; rw [d1]; exact ⟨by omega, by omega⟩
    | succ n ih =>
      rintro t d ⟨p, d0, c, h1, ⟨k, hu, hk, hc⟩, h3⟩
      have hp := Rc_in hA hs n p d0 h1
      have h4 := ih p d0 h1
      have h5 := d6 p k hp.1 hp.2 (hall p hp.1 hp.2 h4.1) hu
      rw [hk] at h5
      exact ⟨h5.1, by omega⟩
  have hdist : isD (eg sz rt nt co) self su := by
    intro t t0 t1
    rcases d2 t t0 t1 with h | h
    · exact Or.inl ⟨h, fun n d q => (least n t d q).1 h⟩
    · exact Or.inr ⟨h.1, d3 t t0 t1 (by omega), fun n d q => (least n t d q).2⟩
  refine ⟨hdist, ?_⟩
  have fwd : ∀ (m : Nat) (t b : Int), 0 ≤ t → t < 64 → t ≠ self → su t ≠ -1 → 0 ≤ b → b < 24 → (su t).toNat ≤ m → tb (sr t) b → FS sz rt nt co self b t (su t) := by
    intro m
    induction m with
    | zero =>
      intro t b t0 t1 ts tn b0 b1 hm ht
      obtain ⟨r, k, r0, r1, hr, hu, hk, he, hb⟩ := (d7 t b t0 t1 ts b0 b1).mp ht
      have h1 := usb_c hA r0 r1 hu
      have h2 := d2 r r0 r1
      have h3 := d4 r r0 r1 hr
      omega
    | succ m ih =>
      intro t b t0 t1 ts tn b0 b1 hm ht
      obtain ⟨r, k, r0, r1, hr, hu, hk, he, hb⟩ := (d7 t b t0 t1 ts b0 b1).mp ht
      have h1 := usb_c hA r0 r1 hu
      have h2 := d2 r r0 r1
      have h3 := d4 r r0 r1 hr
      rcases hb with ⟨rfl, rfl⟩ | ⟨hrs, hb⟩
      · exact ⟨hu, 0, 0, ⟨hk.symm, rfl⟩, by omega⟩
      · obtain ⟨hu2, n, d0, hn, hd⟩ := ih r b r0 r1 hrs h3 b0 b1 (by omega) hb
        exact ⟨hu2, n + 1, d0 + co (r * 24 + k), ⟨r, d0, co (r * 24 + k), hn, ⟨k, hu, hk, rfl⟩, rfl⟩, by omega⟩
  have bwd : ∀ (n : Nat) (t b d0 : Int), 0 ≤ b → b < 24 → t ≠ self → usb sz rt nt self b → Rc (eg sz rt nt co) (rt (self * 24 + b)) n t d0 → su t = co (self * 24 + b) + d0 → tb (sr t) b := by
    intro n
    induction n with
    | zero =>
      rintro t b d0 b0 b1 ts hu ⟨rfl, rfl⟩ hd
      have ht := usb_t hA hu
      refine (d7 _ b ht.1 ht.2 ts b0 b1).mpr ⟨self, b, hs.1, hs.2, hall self hs.1 hs.2 (by omega), hu, rfl, by omega, Or.inl ⟨rfl, rfl⟩⟩
    | succ n ih =>
      rintro t b d0 b0 b1 ts hu ⟨p, d1', c, h1, ⟨k, hu2, hk, hc⟩, h3⟩ hd
      have hx := usb_t hA hu
      have hp := Rc_in hA hx n p d1' h1
      have ht := usb_t hA hu2
      rw [hk] at ht
      have hpath := Rc_cons (E := eg sz rt nt co) (src := self) (x := rt (self * 24 + b)) (c := co (self * 24 + b)) ⟨b, hu, rfl, rfl⟩ n p d1' h1
      have h4 := least _ _ _ hpath
      have hps := hall p hp.1 hp.2 h4.1
      have h5 := d6 p k hp.1 hp.2 hps hu2
      rw [hk] at h5
      have h6 : su p = co (self * 24 + b) + d1' := by omega
      have hcb := usb_c hA hs.1 hs.2 hu
      have hnn := Rc_nn hA hx n p d1' h1
      have hpse : p ≠ self := by intro q; subst q; omega
      have h7 := ih p b d1' b0 b1 hpse hu h1 h6
      exact (d7 t b ht.1 ht.2 ts b0 b1).mpr ⟨p, k, hp.1, hp.2, hps, hu2, hk, by omega, Or.inr ⟨hpse, h7⟩⟩
  intro t t0 t1 ts tn b b0 b1
  constructor
  · exact fwd _ t b t0 t1 ts tn b0 b1 (Nat.le_refl _)
  · rintro ⟨hu, n, d0, hn, hd⟩
    exact bwd n t b d0 b0 b1 ts hu hn hd
end
section
def NRS (su se : Int → Int) (i rv : Int) : Prop := (rv = -1 ∧ ∀ t : Int, 0 ≤ t → t < i → ¬ (se t = 0 ∧ su t ≠ -1)) ∨ (0 ≤ rv ∧ rv < i ∧ se rv = 0 ∧ su rv ≠ -1 ∧ ∀ t : Int, 0 ≤ t → t < i → se t = 0 → su t ≠ -1 → su rv ≤ su t)
theorem NRS_0 {su se : Int → Int} : NRS su se 0 (-1) := Or.inl ⟨rfl, fun t h0 h1 => absurd h1 (by omega)⟩
theorem NRS_skip {su se : Int → Int} {i rv : Int} (hi : 0 ≤ i) (h : NRS su se i rv) (hk : ¬ (se i = 0 ∧ su i ≠ -1) ∨ (rv ≠ -1 ∧ su rv ≤ su i)) : NRS su se (i + 1) rv := by
  rcases h with ⟨a, b⟩ | ⟨a, b, c, d, e⟩
  · refine Or.inl ⟨a, fun t t0 t1 => ?_⟩
    by_cases q : t = i
    · subst q; rcases hk with hk | hk; exact hk; exact absurd a hk.1
    · exact b t t0 (by omega)
  · refine Or.inr ⟨a, by omega, c, d, fun t t0 t1 h1 h2 => ?_⟩
    by_cases q : t = i
    · subst q; rcases hk with hk | hk; exact absurd ⟨h1, h2⟩ hk; exact hk.2
    · exact e t t0 (by omega) h1 h2
theorem NRS_take {su se : Int → Int} {i rv : Int} (hi : 0 ≤ i) (h : NRS su se i rv) (h1 : se i = 0) (h2 : su i ≠ -1) (hk : rv = -1 ∨ su i < su rv) : NRS su se (i + 1) i := by
  refine Or.inr ⟨hi, by omega, h1, h2, fun t t0 t1 q1 q2 => ?_⟩
  by_cases q : t = i
  · subst q; omega
  · rcases h with ⟨a, b⟩ | ⟨a, b, c, d, e⟩
    · exact absurd ⟨q1, q2⟩ (b t t0 (by omega))
    · have := e t t0 (by omega) q1 q2
      rcases hk with hk | hk
      · omega
      · omega
/-- router r tells a port on net n: v is the sum over it -/
def ps (sz rt nt co su : Int → Int) (r n v : Int) : Prop := su r ≠ -1 ∧ ∃ k : Int, 0 ≤ k ∧ k < sz r ∧ rt (r * 24 + k) = -1 ∧ nt (r * 24 + k) = n ∧ v = su r + co (r * 24 + k)
def PSO (sz rt nt co su : Int → Int) (r n v : Int) : Prop := (v = -1 ∧ ∀ w : Int, ¬ ps sz rt nt co su r n w) ∨ ps sz rt nt co su r n v
def UNQ (sz rt nt : Int → Int) : Prop := ∀ r a b : Int, 0 ≤ r → r < 64 → 0 ≤ a → a < sz r → 0 ≤ b → b < sz r → rt (r * 24 + a) = rt (r * 24 + b) → nt (r * 24 + a) = nt (r * 24 + b) → a = b
theorem ps_uniq {sz rt nt co su : Int → Int} (hU : UNQ sz rt nt) {r n v w : Int} (h0 : 0 ≤ r) (h1 : r < 64) (hv : ps sz rt nt co su r n v) (hw : ps sz rt nt co su r n w) : v = w := by
  obtain ⟨-, k, a, b, c, d, e⟩ := hv
  obtain ⟨-, k', a', b', c', d', e'⟩ := hw
  have := hU r k k' h0 h1 a b a' b' (by rw [c, c']) (by rw [d, d'])
  subst this
  rw [e, e']
theorem ps_pos {sz rt nt co su : Int → Int} (hA : AOK sz rt co) (hs : ∀ i : Int, -1 ≤ su i ∧ su i ≤ 64000) {r n v : Int} (h0 : 0 ≤ r) (h1 : r < 64) (hv : ps sz rt nt co su r n v) : 1 ≤ v ∧ v ≤ 65000 := by
  obtain ⟨q, k, a, b, c, d, e⟩ := hv
  have := hA.2.2 r k h0 h1 a b
  have := hA.2.1 (r * 24 + k)
  have := hs r
  omega
def LST (sz rt nt co su : Int → Int) (n i rv : Int) : Prop := (rv = -1 ∧ ∀ r w : Int, 0 ≤ r → r < i → ¬ ps sz rt nt co su r n w) ∨ (0 ≤ rv ∧ (∃ r : Int, 0 ≤ r ∧ r < i ∧ ps sz rt nt co su r n rv) ∧ ∀ r w : Int, 0 ≤ r → r < i → ps sz rt nt co su r n w → rv ≤ w)
theorem LST_0 {sz rt nt co su : Int → Int} {n : Int} : LST sz rt nt co su n 0 (-1) := Or.inl ⟨rfl, fun r w h0 h1 => absurd h1 (by omega)⟩
theorem LST_none {sz rt nt co su : Int → Int} {n i rv v : Int} (h : LST sz rt nt co su n i rv) (hv : PSO sz rt nt co su i n v) (hn : v = -1) (hp : ¬ ps sz rt nt co su i n (-1)) : LST sz rt nt co su n (i + 1) rv := by
  have hno : ∀ w : Int, ¬ ps sz rt nt co su i n w := by
    rcases hv with ⟨-, h⟩ | h
    · exact h
    · rw [hn] at h; exact absurd h hp
  rcases h with ⟨a, b⟩ | ⟨a, ⟨r, c⟩, d⟩
  · refine Or.inl ⟨a, fun r w h0 h1 => ?_⟩
    by_cases q : r = i
    · subst q; exact hno w
    · exact b r w h0 (by omega)
  · refine Or.inr ⟨a, ⟨r, c.1, by omega, c.2.2⟩, fun r w h0 h1 hw => ?_⟩
    by_cases q : r = i
    · subst q; exact absurd hw (hno w)
    · exact d r w h0 (by omega) hw
theorem LST_keep {sz rt nt co su : Int → Int} {n i rv v : Int} (hU : UNQ sz rt nt) (hi : 0 ≤ i ∧ i < 64) (h : LST sz rt nt co su n i rv) (hv : ps sz rt nt co su i n v) (hn : rv ≠ -1) (hle : rv ≤ v) : LST sz rt nt co su n (i + 1) rv := by
  rcases h with ⟨a, b⟩ | ⟨a, ⟨r, c⟩, d⟩
  · exact absurd a hn
  · refine Or.inr ⟨a, ⟨r, c.1, by omega, c.2.2⟩, fun r w h0 h1 hw => ?_⟩
    by_cases q : r = i
    · subst q; rw [ps_uniq hU hi.1 hi.2 hw hv]; exact hle
    · exact d r w h0 (by omega) hw
theorem LST_take {sz rt nt co su : Int → Int} {n i rv v : Int} (hU : UNQ sz rt nt) (hi : 0 ≤ i ∧ i < 64) (h : LST sz rt nt co su n i rv) (hv : ps sz rt nt co su i n v) (h0 : 0 ≤ v) (hlt : rv = -1 ∨ v < rv) : LST sz rt nt co su n (i + 1) v := by
  refine Or.inr ⟨h0, ⟨i, hi.1, by omega, hv⟩, fun r w r0 r1 hw => ?_⟩
  by_cases q : r = i
  · subst q; rw [ps_uniq hU hi.1 hi.2 hw hv]; omega
  · rcases h with ⟨a, b⟩ | ⟨a, ⟨r', c⟩, d⟩
    · exact absurd hw (b r w r0 (by omega))
    · have := d r w r0 (by omega) hw
      rcases hlt with hlt | hlt
      · omega
      · omega
/-- the mask of the routers below i at which the net is least -/
def MSK (sz rt nt co su sr : Int → Int) (n L i m : Int) : Prop := (0 ≤ m ∧ m ≤ 16777215) ∧ ∀ b : Int, 0 ≤ b → b < 24 → (tb m b ↔ ∃ r : Int, 0 ≤ r ∧ r < i ∧ ps sz rt nt co su r n L ∧ tb (sr r) b)
theorem MSK_0 {sz rt nt co su sr : Int → Int} {n L : Int} : MSK sz rt nt co su sr n L 0 0 := ⟨by omega, fun b _ _ => ⟨fun h => absurd h tb_0, fun ⟨r, h0, h1, _⟩ => absurd h1 (by omega)⟩⟩
theorem MSK_skip {sz rt nt co su sr : Int → Int} {n L i m : Int} (h : MSK sz rt nt co su sr n L i m) (hno : ¬ ps sz rt nt co su i n L) : MSK sz rt nt co su sr n L (i + 1) m := by
  refine ⟨h.1, fun b b0 b1 => ?_⟩
  rw [h.2 b b0 b1]
  constructor
  · rintro ⟨r, h0, h1, h2⟩; exact ⟨r, h0, by omega, h2⟩
  · rintro ⟨r, h0, h1, h2, h3⟩
    by_cases q : r = i
    · subst q; exact absurd h2 hno
    · exact ⟨r, h0, by omega, h2, h3⟩
theorem MSK_or {sz rt nt co su sr : Int → Int} {n L i m : Int} (hi : 0 ≤ i) (hs : 0 ≤ sr i ∧ sr i ≤ 16777215) (h : MSK sz rt nt co su sr n L i m) (hp : ps sz rt nt co su i n L) : MSK sz rt nt co su sr n L (i + 1) (lorI m (sr i)) := by
  have hb := lorI_b (x := m) (y := sr i) ⟨h.1.1, by have := h.1.2; omega⟩ ⟨hs.1, by omega⟩
  refine ⟨⟨hb.1, by omega⟩, fun b b0 b1 => ?_⟩
  rw [tb_lor, h.2 b b0 b1]
  constructor
  · rintro (⟨r, h0, h1, h2⟩ | h2)
    · exact ⟨r, h0, by omega, h2⟩
    · exact ⟨i, hi, by omega, hp, h2⟩
  · rintro ⟨r, h0, h1, h2, h3⟩
    by_cases q : r = i
    · subst q; exact Or.inr h3
    · exact Or.inl ⟨r, h0, by omega, h2, h3⟩
end
section
set_option maxHeartbeats 4000000 in
set_option maxRecDepth 100000 in
theorem k_Y_forget (l : Launch) (G : va_G) (z : tz3) (q : Nat → Nat) (self : Int) (fresh : Int)  : Kv l y_Y_forget c_Y_forget 1 (rmD 0) G z [.ref (q 3)] [(q 3, .inr (2, [.ref (q 2), .int (iI self), .ref (q 12), .ref (q 13), .ref (q 14), .int (iI fresh)]))] (fun u9 => u9 = [(q 3, .inr (2, [.ref (q 2), .int (iI self), .ref (q 12), .ref (q 13), .ref (q 14), .int (iI 0)]))]) := by
  refine Kv.of (by decide) (Nat.le_of_ble_eq_true rfl) ?_
  intro p e s m below meth c A hB hP hD ls hl
  obtain ⟨hx, hb, hRt, hml, hown, hlocks, hg, hE, hA, hin⟩ := hB
  have hown : s.vm.findClass R_Y = some m.cls := hown
  have hl : lv_has ls 1 [(0, .ref (q 3))] := hl
  obtain ⟨H, hH⟩ : ∃ H, H = s.heap := ⟨_, rfl⟩
  have hS : va_S A s.heap H [] := by rw [hH]; exact va_S.rf
  rw [← hH] at hP
  rw [← hH]
  have hP : va_P G cls0 [(q 3, .inr (2, [.ref (q 2), .int (iI self), .ref (q 12), .ref (q 13), .ref (q 14), .int (iI fresh)]))] H := hP
  have hD : va_D A [(q 3, .inr (2, [.ref (q 2), .int (iI self), .ref (q 12), .ref (q 13), .ref (q 14), .int (iI fresh)]))] := hD
  refine lv_aload_n hx hb d_Y_forget_0 rfl (lv_at hl 0 rfl) ?_
  refine lv_iconst (v := iI 0) hx hb d_Y_forget_1 rfl ?_
  refine va_put (D := G) (ci := 2) (v := .int (iI 0)) (ty := .boolean) (C := R_Y) (T := T_Y) (N := 6) hx hb hg iw_Y ty_Y ty_Y_ok nm_Y hown hE.1 hP hD hS 0 rfl rfl 5 (by decide) (hg _ fl_Y_30) (fun _ h9 => h9) rfl (by decide +kernel) nar_b0 (by decide +kernel) (Nat.le_of_ble_eq_true rfl) d_Y_forget_2 (fun H locs hP hD hS => ?_)
  have hP : va_P G cls0 [(q 3, .inr (2, [.ref (q 2), .int (iI self), .ref (q 12), .ref (q 13), .ref (q 14), .int (iI 0)]))] H := hP
  have hD : va_D A [(q 3, .inr (2, [.ref (q 2), .int (iI self), .ref (q 12), .ref (q 13), .ref (q 14), .int (iI 0)]))] := hD
  have hP9 : va_P G cls0 [(q 3, .inr (2, [.ref (q 2), .int (iI self), .ref (q 12), .ref (q 13), .ref (q 14), .int (iI 0)]))] H := hP.sub [0] rfl
  have hD9 : va_D A [(q 3, .inr (2, [.ref (q 2), .int (iI self), .ref (q 12), .ref (q 13), .ref (q 14), .int (iI 0)]))] := hD.sub [0] (by decide) rfl
  refine rv_vret hx hb hRt hlocks (Nat.le_refl _) (Nat.le_refl _) hP9 hD9 hS d_Y_forget_5 ?_
  exact rfl
set_option maxHeartbeats 4000000 in
set_option maxRecDepth 100000 in
theorem k_Y_beginAnew (l : Launch) (G : va_G) (z : tz3) (q : Nat → Nat) (self : Int) (fresh : Int) (fsu : Int → Int) (fsr : Int → Int) (fse : Int → Int) (rsu : ∀ i : Int, -1 ≤ fsu i ∧ fsu i ≤ 64000) (rsr : ∀ i : Int, 0 ≤ fsr i ∧ fsr i ≤ 16777215) (rse : ∀ i : Int, 0 ≤ fse i ∧ fse i ≤ 1) (hself : 0 ≤ self ∧ self < 64) : Kv l y_Y_beginAnew c_Y_beginAnew 2 (rmD 0) G z [.ref (q 3)] [(q 3, .inr (2, [.ref (q 2), .int (iI self), .ref (q 12), .ref (q 13), .ref (q 14), .int (iI fresh)])), (q 12, .inl (z.1, 64, .inl (aI fsu))), (q 13, .inl (z.1, 64, .inl (aI fsr))), (q 14, .inl (z.2.1, 64, .inl (aI fse)))] (fun u9 => ∃ (gsu : Int → Int) (gsr : Int → Int) (gse : Int → Int), u9 = [(q 3, .inr (2, [.ref (q 2), .int (iI self), .ref (q 12), .ref (q 13), .ref (q 14), .int (iI fresh)])), (q 12, .inl (z.1, 64, .inl (aI gsu))), (q 13, .inl (z.1, 64, .inl (aI gsr))), (q 14, .inl (z.2.1, 64, .inl (aI gse)))] ∧ (∀ i : Int, -1 ≤ gsu i ∧ gsu i ≤ 64000) ∧ (∀ i : Int, 0 ≤ gsr i ∧ gsr i ≤ 16777215) ∧ (∀ i : Int, 0 ≤ gse i ∧ gse i ≤ 1) ∧ (gsu self = 0) ∧ (∀ t : Int, 0 ≤ t → t < 64 → t ≠ self → gsu t = -1) ∧ (∀ t : Int, 0 ≤ t → t < 64 → gsr t = 0) ∧ (∀ t : Int, 0 ≤ t → t < 64 → gse t = 0)) := by
  refine Kv.of (by decide) (Nat.le_of_ble_eq_true rfl) ?_
  intro p e s m below meth c A hB hP hD ls hl
  obtain ⟨hx, hb, hRt, hml, hown, hlocks, hg, hE, hA, hin⟩ := hB
  have hown : s.vm.findClass R_Y = some m.cls := hown
  have hl : lv_has ls 2 [(0, .ref (q 3))] := hl
  obtain ⟨H, hH⟩ : ∃ H, H = s.heap := ⟨_, rfl⟩
  have hS : va_S A s.heap H [] := by rw [hH]; exact va_S.rf
  rw [← hH] at hP
  rw [← hH]
  have hP : va_P G cls0 [(q 3, .inr (2, [.ref (q 2), .int (iI self), .ref (q 12), .ref (q 13), .ref (q 14), .int (iI fresh)])), (q 12, .inl (z.1, 64, .inl (aI fsu))), (q 13, .inl (z.1, 64, .inl (aI fsr))), (q 14, .inl (z.2.1, 64, .inl (aI fse)))] H := hP
  have hD : va_D A [(q 3, .inr (2, [.ref (q 2), .int (iI self), .ref (q 12), .ref (q 13), .ref (q 14), .int (iI fresh)])), (q 12, .inl (z.1, 64, .inl (aI fsu))), (q 13, .inl (z.1, 64, .inl (aI fsr))), (q 14, .inl (z.2.1, 64, .inl (aI fse)))] := hD
  refine lv_iconst (v := iI 0) hx hb d_Y_beginAnew_0 rfl ?_
  refine lv_istore_n (lv' := [(1, .int (iI 0)), (0, .ref (q 3))]) hx hb d_Y_beginAnew_1 rfl hl (by decide) rfl (fun ls hl => ?_)
  have L2 : ∀ n9 : Nat, ∀ (gsu : Int → Int) (gsr : Int → Int) (gse : Int → Int) (i : Int), (64 - i : Int).toNat < n9 → (∀ i : Int, -1 ≤ gsu i ∧ gsu i ≤ 64000) → (∀ i : Int, 0 ≤ gsr i ∧ gsr i ≤ 16777215) → (∀ i : Int, 0 ≤ gse i ∧ gse i ≤ 1) → (0 ≤ i ∧ i ≤ 64) → (∀ t : Int, 0 ≤ t → t < i → gsu t = -1 ∧ gsr t = 0 ∧ gse t = 0) → ∀ (H : Heap) (locs : List Loc), va_P G cls0 [(q 3, .inr (2, [.ref (q 2), .int (iI self), .ref (q 12), .ref (q 13), .ref (q 14), .int (iI fresh)])), (q 12, .inl (z.1, 64, .inl (aI gsu))), (q 13, .inl (z.1, 64, .inl (aI gsr))), (q 14, .inl (z.2.1, 64, .inl (aI gse)))] H → va_D A [(q 3, .inr (2, [.ref (q 2), .int (iI self), .ref (q 12), .ref (q 13), .ref (q 14), .int (iI fresh)])), (q 12, .inl (z.1, 64, .inl (aI gsu))), (q 13, .inl (z.1, 64, .inl (aI gsr))), (q 14, .inl (z.2.1, 64, .inl (aI gse)))] → va_S A s.heap H locs → ∀ ls : Array Slot, lv_has ls 2 [(0, .ref (q 3)), (1, .int (iI i))] → W p l e (rmD 0) s m [.ref (q 3)].toArray below meth c H locs 0 0 (Zv below [.ref (q 3)].toArray s (rmD 0) G A (fun u9 => ∃ (gsu : Int → Int) (gsr : Int → Int) (gse : Int → Int), u9 = [(q 3, .inr (2, [.ref (q 2), .int (iI self), .ref (q 12), .ref (q 13), .ref (q 14), .int (iI fresh)])), (q 12, .inl (z.1, 64, .inl (aI gsu))), (q 13, .inl (z.1, 64, .inl (aI gsr))), (q 14, .inl (z.2.1, 64, .inl (aI gse)))] ∧ (∀ i : Int, -1 ≤ gsu i ∧ gsu i ≤ 64000) ∧ (∀ i : Int, 0 ≤ gsr i ∧ gsr i ≤ 16777215) ∧ (∀ i : Int, 0 ≤ gse i ∧ gse i ≤ 1) ∧ (gsu self = 0) ∧ (∀ t : Int, 0 ≤ t → t < 64 → t ≠ self → gsu t = -1) ∧ (∀ t : Int, 0 ≤ t → t < 64 → gsr t = 0) ∧ (∀ t : Int, 0 ≤ t → t < 64 → gse t = 0))) (F0 m 2 ls []) := by
    intro n9
    induction n9 with
    | zero => intro gsu gsr gse i hmu; exact absurd hmu (Nat.not_lt_zero _)
    | succ n9 ih =>
      intro gsu gsr gse i hmu rgsu rgsr rgse hi h0 H locs hP hD hS ls hl
      refine lv_iload_n hx hb d_Y_beginAnew_2 rfl (lv_at hl 1 rfl) ?_
      refine lv_bipush (v := iI 64) hx hb d_Y_beginAnew_3 (by decide +kernel) ?_
      refine rv_icmp_ge (tgt := 35) hx hb d_Y_beginAnew_5 (by decide) (by constructor <;> omega) ⟨by decide, by decide⟩ (fun c_1 => ?_) (fun c_1 => ?_)
      · skip
        refine lv_aload_n hx hb d_Y_beginAnew_35 rfl (lv_at hl 0 rfl) ?_
        refine va_get (D := G) (ci := 2) (v := .ref (q 12)) (C := R_Y) (T := T_Y) (N := 6) hx hb hg iw_Y hown hE.1 hP 0 rfl rfl 2 (by decide) (hg _ fl_Y_9) (fun _ h9 => h9) rfl d_Y_beginAnew_36 ?_
        refine lv_aload_n hx hb d_Y_beginAnew_39 rfl (lv_at hl 0 rfl) ?_
        refine va_get (D := G) (ci := 2) (v := .int (iI self)) (C := R_Y) (T := T_Y) (N := 6) hx hb hg iw_Y hown hE.1 hP 0 rfl rfl 1 (by decide) (hg _ fl_Y_26) (fun _ h9 => h9) rfl d_Y_beginAnew_40 ?_
        refine lv_iconst (v := iI 0) hx hb d_Y_beginAnew_43 rfl ?_
        refine rv_iast hx hb hE hP hD hS 1 rfl (i := self) (x := 0) (by omega) (by omega) (by decide) d_Y_beginAnew_44 (fun H locs hP hD hS => ?_)
        have hP : va_P G cls0 [(q 3, .inr (2, [.ref (q 2), .int (iI self), .ref (q 12), .ref (q 13), .ref (q 14), .int (iI fresh)])), (q 12, .inl (z.1, 64, .inl (aI (uZ gsu self 0)))), (q 13, .inl (z.1, 64, .inl (aI gsr))), (q 14, .inl (z.2.1, 64, .inl (aI gse)))] H := hP
        have hD : va_D A [(q 3, .inr (2, [.ref (q 2), .int (iI self), .ref (q 12), .ref (q 13), .ref (q 14), .int (iI fresh)])), (q 12, .inl (z.1, 64, .inl (aI (uZ gsu self 0)))), (q 13, .inl (z.1, 64, .inl (aI gsr))), (q 14, .inl (z.2.1, 64, .inl (aI gse)))] := hD
        have hP9 : va_P G cls0 [(q 3, .inr (2, [.ref (q 2), .int (iI self), .ref (q 12), .ref (q 13), .ref (q 14), .int (iI fresh)])), (q 12, .inl (z.1, 64, .inl (aI (uZ gsu self 0)))), (q 13, .inl (z.1, 64, .inl (aI gsr))), (q 14, .inl (z.2.1, 64, .inl (aI gse)))] H := hP.sub [0, 1, 2, 3] rfl
        have hD9 : va_D A [(q 3, .inr (2, [.ref (q 2), .int (iI self), .ref (q 12), .ref (q 13), .ref (q 14), .int (iI fresh)])), (q 12, .inl (z.1, 64, .inl (aI (uZ gsu self 0)))), (q 13, .inl (z.1, 64, .inl (aI gsr))), (q 14, .inl (z.2.1, 64, .inl (aI gse)))] := hD.sub [0, 1, 2, 3] (by decide) rfl
        refine rv_vret hx hb hRt hlocks (Nat.le_refl _) (Nat.le_refl _) hP9 hD9 hS d_Y_beginAnew_45 ?_
        exact ⟨(uZ gsu self 0), gsr, gse, rfl, (uZ_rng rgsu (by omega)), rgsr, rgse, uZ_s, (fun t t0 t1 ts => by rw [uZ_n ts]; exact (h0 t t0 (by omega)).1), (fun t t0 t1 => (h0 t t0 (by omega)).2.1), (fun t t0 t1 => (h0 t t0 (by omega)).2.2)⟩
      · skip
        refine lv_aload_n hx hb d_Y_beginAnew_8 rfl (lv_at hl 0 rfl) ?_
        refine va_get (D := G) (ci := 2) (v := .ref (q 12)) (C := R_Y) (T := T_Y) (N := 6) hx hb hg iw_Y hown hE.1 hP 0 rfl rfl 2 (by decide) (hg _ fl_Y_9) (fun _ h9 => h9) rfl d_Y_beginAnew_9 ?_
        refine lv_iload_n hx hb d_Y_beginAnew_12 rfl (lv_at hl 1 rfl) ?_
        refine lv_iconst (v := iI (-1)) hx hb d_Y_beginAnew_13 rfl ?_
        refine rv_iast hx hb hE hP hD hS 1 rfl (i := i) (x := (-1)) (by omega) (by omega) (by decide) d_Y_beginAnew_14 (fun H locs hP hD hS => ?_)
        have hP : va_P G cls0 [(q 3, .inr (2, [.ref (q 2), .int (iI self), .ref (q 12), .ref (q 13), .ref (q 14), .int (iI fresh)])), (q 12, .inl (z.1, 64, .inl (aI (uZ gsu i ((-1)))))), (q 13, .inl (z.1, 64, .inl (aI gsr))), (q 14, .inl (z.2.1, 64, .inl (aI gse)))] H := hP
        have hD : va_D A [(q 3, .inr (2, [.ref (q 2), .int (iI self), .ref (q 12), .ref (q 13), .ref (q 14), .int (iI fresh)])), (q 12, .inl (z.1, 64, .inl (aI (uZ gsu i ((-1)))))), (q 13, .inl (z.1, 64, .inl (aI gsr))), (q 14, .inl (z.2.1, 64, .inl (aI gse)))] := hD
        refine lv_aload_n hx hb d_Y_beginAnew_15 rfl (lv_at hl 0 rfl) ?_
        refine va_get (D := G) (ci := 2) (v := .ref (q 13)) (C := R_Y) (T := T_Y) (N := 6) hx hb hg iw_Y hown hE.1 hP 0 rfl rfl 3 (by decide) (hg _ fl_Y_15) (fun _ h9 => h9) rfl d_Y_beginAnew_16 ?_
        refine lv_iload_n hx hb d_Y_beginAnew_19 rfl (lv_at hl 1 rfl) ?_
        refine lv_iconst (v := iI 0) hx hb d_Y_beginAnew_20 rfl ?_
        refine rv_iast hx hb hE hP hD hS 2 rfl (i := i) (x := 0) (by omega) (by omega) (by decide) d_Y_beginAnew_21 (fun H locs hP hD hS => ?_)
        have hP : va_P G cls0 [(q 3, .inr (2, [.ref (q 2), .int (iI self), .ref (q 12), .ref (q 13), .ref (q 14), .int (iI fresh)])), (q 12, .inl (z.1, 64, .inl (aI (uZ gsu i ((-1)))))), (q 13, .inl (z.1, 64, .inl (aI (uZ gsr i 0)))), (q 14, .inl (z.2.1, 64, .inl (aI gse)))] H := hP
        have hD : va_D A [(q 3, .inr (2, [.ref (q 2), .int (iI self), .ref (q 12), .ref (q 13), .ref (q 14), .int (iI fresh)])), (q 12, .inl (z.1, 64, .inl (aI (uZ gsu i ((-1)))))), (q 13, .inl (z.1, 64, .inl (aI (uZ gsr i 0)))), (q 14, .inl (z.2.1, 64, .inl (aI gse)))] := hD
        refine lv_aload_n hx hb d_Y_beginAnew_22 rfl (lv_at hl 0 rfl) ?_
        refine va_get (D := G) (ci := 2) (v := .ref (q 14)) (C := R_Y) (T := T_Y) (N := 6) hx hb hg iw_Y hown hE.1 hP 0 rfl rfl 4 (by decide) (hg _ fl_Y_18) (fun _ h9 => h9) rfl d_Y_beginAnew_23 ?_
        refine lv_iload_n hx hb d_Y_beginAnew_26 rfl (lv_at hl 1 rfl) ?_
        refine lv_iconst (v := iI 0) hx hb d_Y_beginAnew_27 rfl ?_
        refine rv_zast hx hb hE hP hD hS 3 rfl (i := i) (x := 0) (by omega) (by omega) (by decide) (Or.inl rfl) d_Y_beginAnew_28 (fun H locs hP hD hS => ?_)
        have hP : va_P G cls0 [(q 3, .inr (2, [.ref (q 2), .int (iI self), .ref (q 12), .ref (q 13), .ref (q 14), .int (iI fresh)])), (q 12, .inl (z.1, 64, .inl (aI (uZ gsu i ((-1)))))), (q 13, .inl (z.1, 64, .inl (aI (uZ gsr i 0)))), (q 14, .inl (z.2.1, 64, .inl (aI (uZ gse i 0))))] H := hP
        have hD : va_D A [(q 3, .inr (2, [.ref (q 2), .int (iI self), .ref (q 12), .ref (q 13), .ref (q 14), .int (iI fresh)])), (q 12, .inl (z.1, 64, .inl (aI (uZ gsu i ((-1)))))), (q 13, .inl (z.1, 64, .inl (aI (uZ gsr i 0)))), (q 14, .inl (z.2.1, 64, .inl (aI (uZ gse i 0))))] := hD
        refine lv_iinc (v := iI (i + 1)) (lv' := [(1, .int (iI (i + 1))), (0, .ref (q 3))]) hx hb d_Y_beginAnew_29 hl (k := 1) rfl (iI_add _ _) (by decide) rfl (fun ls hl => ?_)
        refine lv_goto (tgt := 2) hx hb d_Y_beginAnew_32 (by decide) ?_
        exact ih _ _ _ (i + 1) (by omega) (uZ_rng rgsu (by omega)) (uZ_rng rgsr (by omega)) (uZ_rng rgse (by omega)) (by omega) (fun t t0 t1 => if e : t = i then (by subst e; exact ⟨uZ_s, uZ_s, uZ_s⟩) else (by rw [uZ_n e, uZ_n e, uZ_n e]; exact h0 t t0 (by omega))) H _ (hP.sub [0, 1, 2, 3] rfl) (hD.sub [0, 1, 2, 3] (by decide) rfl) hS ls (lv_sub hl [1, 0] rfl)
  exact L2 ((64 - 0 : Int).toNat + 1) fsu fsr fse 0 (Nat.lt_succ_self _) rsu rsr rse (by omega) (fun t h0 h1 => absurd h1 (by omega)) H _ (hP.sub [0, 1, 2, 3] rfl) (hD.sub [0, 1, 2, 3] (by decide) rfl) hS ls (lv_sub hl [1, 0] rfl)
set_option maxHeartbeats 4000000 in
set_option maxRecDepth 100000 in
theorem k_Y_nearestUnsettled (l : Launch) (G : va_G) (z : tz3) (q : Nat → Nat) (self : Int) (fresh : Int) (fsu : Int → Int) (fse : Int → Int) (rsu : ∀ i : Int, -1 ≤ fsu i ∧ fsu i ≤ 64000) (rse : ∀ i : Int, 0 ≤ fse i ∧ fse i ≤ 1) : Ki l y_Y_nearestUnsettled c_Y_nearestUnsettled 3 (some .int) (rmD 0) G z [.ref (q 3)] [(q 3, .inr (2, [.ref (q 2), .int (iI self), .ref (q 12), .ref (q 13), .ref (q 14), .int (iI fresh)])), (q 12, .inl (z.1, 64, .inl (aI fsu))), (q 14, .inl (z.2.1, 64, .inl (aI fse)))] (fun r9 u9 => ∃ (rv : Int), u9 = [(q 3, .inr (2, [.ref (q 2), .int (iI self), .ref (q 12), .ref (q 13), .ref (q 14), .int (iI fresh)])), (q 12, .inl (z.1, 64, .inl (aI fsu))), (q 14, .inl (z.2.1, 64, .inl (aI fse)))] ∧ r9 = iI rv ∧ (NRS fsu fse 64 rv)) := by
  refine Ki.of (by decide) (Nat.le_of_ble_eq_true rfl) ?_
  intro p e s m below meth c A hB hP hD ls hl
  obtain ⟨hx, hb, hRt, hml, hown, hlocks, hg, hE, hA, hin⟩ := hB
  have hown : s.vm.findClass R_Y = some m.cls := hown
  have hl : lv_has ls 3 [(0, .ref (q 3))] := hl
  obtain ⟨H, hH⟩ : ∃ H, H = s.heap := ⟨_, rfl⟩
  have hS : va_S A s.heap H [] := by rw [hH]; exact va_S.rf
  rw [← hH] at hP
  rw [← hH]
  have hP : va_P G cls0 [(q 3, .inr (2, [.ref (q 2), .int (iI self), .ref (q 12), .ref (q 13), .ref (q 14), .int (iI fresh)])), (q 12, .inl (z.1, 64, .inl (aI fsu))), (q 14, .inl (z.2.1, 64, .inl (aI fse)))] H := hP
  have hD : va_D A [(q 3, .inr (2, [.ref (q 2), .int (iI self), .ref (q 12), .ref (q 13), .ref (q 14), .int (iI fresh)])), (q 12, .inl (z.1, 64, .inl (aI fsu))), (q 14, .inl (z.2.1, 64, .inl (aI fse)))] := hD
  refine lv_iconst (v := iI (-1)) hx hb d_Y_nearestUnsettled_0 rfl ?_
  refine lv_istore_n (lv' := [(1, .int (iI ((-1)))), (0, .ref (q 3))]) hx hb d_Y_nearestUnsettled_1 rfl hl (by decide) rfl (fun ls hl => ?_)
  refine lv_iconst (v := iI 0) hx hb d_Y_nearestUnsettled_2 rfl ?_
  refine lv_istore_n (lv' := [(2, .int (iI 0)), (1, .int (iI ((-1)))), (0, .ref (q 3))]) hx hb d_Y_nearestUnsettled_3 rfl hl (by decide) rfl (fun ls hl => ?_)
  have L4 : ∀ n9 : Nat, ∀ (nr : Int) (i : Int), (64 - i : Int).toNat < n9 → (0 ≤ i ∧ i ≤ 64 ∧ -1 ≤ nr ∧ nr < 64) → (NRS fsu fse i nr) → ∀ (H : Heap) (locs : List Loc), va_P G cls0 [(q 3, .inr (2, [.ref (q 2), .int (iI self), .ref (q 12), .ref (q 13), .ref (q 14), .int (iI fresh)])), (q 12, .inl (z.1, 64, .inl (aI fsu))), (q 14, .inl (z.2.1, 64, .inl (aI fse)))] H → va_D A [(q 3, .inr (2, [.ref (q 2), .int (iI self), .ref (q 12), .ref (q 13), .ref (q 14), .int (iI fresh)])), (q 12, .inl (z.1, 64, .inl (aI fsu))), (q 14, .inl (z.2.1, 64, .inl (aI fse)))] → va_S A s.heap H locs → ∀ ls : Array Slot, lv_has ls 3 [(0, .ref (q 3)), (1, .int (iI nr)), (2, .int (iI i))] → W p l e (rmD 0) s m [.ref (q 3)].toArray below meth c H locs 0 0 (Zi below [.ref (q 3)].toArray s (rmD 0) G A (fun r9 u9 => ∃ (rv : Int), u9 = [(q 3, .inr (2, [.ref (q 2), .int (iI self), .ref (q 12), .ref (q 13), .ref (q 14), .int (iI fresh)])), (q 12, .inl (z.1, 64, .inl (aI fsu))), (q 14, .inl (z.2.1, 64, .inl (aI fse)))] ∧ r9 = iI rv ∧ (NRS fsu fse 64 rv))) (F0 m 4 ls []) := by
    intro n9
    induction n9 with
    | zero => intro nr i hmu; exact absurd hmu (Nat.not_lt_zero _)
    | succ n9 ih =>
      intro nr i hmu hi hN H locs hP hD hS ls hl
      refine lv_iload_n hx hb d_Y_nearestUnsettled_4 rfl (lv_at hl 2 rfl) ?_
      refine lv_bipush (v := iI 64) hx hb d_Y_nearestUnsettled_5 (by decide +kernel) ?_
      refine rv_icmp_ge (tgt := 60) hx hb d_Y_nearestUnsettled_7 (by decide) (by constructor <;> omega) ⟨by decide, by decide⟩ (fun c_1 => ?_) (fun c_1 => ?_)
      · skip
        refine lv_iload_n hx hb d_Y_nearestUnsettled_60 rfl (lv_at hl 1 rfl) ?_
        have hP9 : va_P G cls0 [(q 3, .inr (2, [.ref (q 2), .int (iI self), .ref (q 12), .ref (q 13), .ref (q 14), .int (iI fresh)])), (q 12, .inl (z.1, 64, .inl (aI fsu))), (q 14, .inl (z.2.1, 64, .inl (aI fse)))] H := hP.sub [0, 1, 2] rfl
        have hD9 : va_D A [(q 3, .inr (2, [.ref (q 2), .int (iI self), .ref (q 12), .ref (q 13), .ref (q 14), .int (iI fresh)])), (q 12, .inl (z.1, 64, .inl (aI fsu))), (q 14, .inl (z.2.1, 64, .inl (aI fse)))] := hD.sub [0, 1, 2] (by decide) rfl
        refine rv_iret hx hb hRt (nar_int _) hlocks (Nat.le_refl _) (Nat.le_refl _) hP9 hD9 hS d_Y_nearestUnsettled_61 ?_
        exact ⟨nr, rfl, rfl, (by rw [show (64 : Int) = i by omega]; exact hN)⟩
      · skip
        refine lv_aload_n hx hb d_Y_nearestUnsettled_10 rfl (lv_at hl 0 rfl) ?_
        refine va_get (D := G) (ci := 2) (v := .ref (q 14)) (C := R_Y) (T := T_Y) (N := 6) hx hb hg iw_Y hown hE.1 hP 0 rfl rfl 4 (by decide) (hg _ fl_Y_18) (fun _ h9 => h9) rfl d_Y_nearestUnsettled_11 ?_
        refine lv_iload_n hx hb d_Y_nearestUnsettled_14 rfl (lv_at hl 2 rfl) ?_
        refine rv_zald hx hb hE hP 2 rfl (i := i) (by omega) (by omega) (by decide) d_Y_nearestUnsettled_15 ?_
        refine rv_if_ne (tgt := 54) hx hb d_Y_nearestUnsettled_16 (by decide) (by have := rse i; constructor <;> omega) (fun c_2 => ?_) (fun c_2 => ?_)
        · skip
          have hs : ¬ (fse i = 0 ∧ fsu i ≠ -1) ∨ (nr ≠ -1 ∧ fsu nr ≤ fsu i) := Or.inl (by omega)
          refine lv_iinc (v := iI (i + 1)) (lv' := [(2, .int (iI (i + 1))), (0, .ref (q 3)), (1, .int (iI nr))]) hx hb d_Y_nearestUnsettled_54 hl (k := 2) rfl (iI_add _ _) (by decide) rfl (fun ls hl => ?_)
          refine lv_goto (tgt := 4) hx hb d_Y_nearestUnsettled_57 (by decide) ?_
          exact ih _ (i + 1) (by omega) (by omega) (by first | exact NRS_skip hi.1 hN hs | exact NRS_take hi.1 hN (by omega) (by omega) ht) H _ (hP.sub [0, 1, 2] rfl) (hD.sub [0, 1, 2] (by decide) rfl) hS ls (lv_sub hl [1, 2, 0] rfl)
        · skip
          refine lv_aload_n hx hb d_Y_nearestUnsettled_19 rfl (lv_at hl 0 rfl) ?_
          refine va_get (D := G) (ci := 2) (v := .ref (q 12)) (C := R_Y) (T := T_Y) (N := 6) hx hb hg iw_Y hown hE.1 hP 0 rfl rfl 2 (by decide) (hg _ fl_Y_9) (fun _ h9 => h9) rfl d_Y_nearestUnsettled_20 ?_
          refine lv_iload_n hx hb d_Y_nearestUnsettled_23 rfl (lv_at hl 2 rfl) ?_
          refine rv_iald hx hb hE hP 1 rfl (i := i) (by omega) (by omega) (by decide) d_Y_nearestUnsettled_24 ?_
          refine lv_iconst (v := iI (-1)) hx hb d_Y_nearestUnsettled_25 rfl ?_
          refine rv_icmp_ne (tgt := 32) hx hb d_Y_nearestUnsettled_26 (by decide) (by have := rsu i; constructor <;> omega) ⟨by decide, by decide⟩ (fun c_3 => ?_) (fun c_3 => ?_)
          · skip
            refine lv_iload_n hx hb d_Y_nearestUnsettled_32 rfl (lv_at hl 1 rfl) ?_
            refine lv_iconst (v := iI (-1)) hx hb d_Y_nearestUnsettled_33 rfl ?_
            refine rv_icmp_eq (tgt := 52) hx hb d_Y_nearestUnsettled_34 (by decide) (by constructor <;> omega) ⟨by decide, by decide⟩ (fun c_4 => ?_) (fun c_4 => ?_)
            · skip
              have ht : nr = -1 ∨ fsu i < fsu nr := Or.inl (by omega)
              refine lv_iload_n hx hb d_Y_nearestUnsettled_52 rfl (lv_at hl 2 rfl) ?_
              refine lv_istore_n (lv' := [(1, .int (iI i)), (0, .ref (q 3)), (2, .int (iI i))]) hx hb d_Y_nearestUnsettled_53 rfl hl (by decide) rfl (fun ls hl => ?_)
              refine lv_iinc (v := iI (i + 1)) (lv' := [(2, .int (iI (i + 1))), (1, .int (iI i)), (0, .ref (q 3))]) hx hb d_Y_nearestUnsettled_54 hl (k := 2) rfl (iI_add _ _) (by decide) rfl (fun ls hl => ?_)
              refine lv_goto (tgt := 4) hx hb d_Y_nearestUnsettled_57 (by decide) ?_
              exact ih _ (i + 1) (by omega) (by omega) (by first | exact NRS_skip hi.1 hN hs | exact NRS_take hi.1 hN (by omega) (by omega) ht) H _ (hP.sub [0, 1, 2] rfl) (hD.sub [0, 1, 2] (by decide) rfl) hS ls (lv_sub hl [2, 1, 0] rfl)
            · skip
              refine lv_aload_n hx hb d_Y_nearestUnsettled_37 rfl (lv_at hl 0 rfl) ?_
              refine va_get (D := G) (ci := 2) (v := .ref (q 12)) (C := R_Y) (T := T_Y) (N := 6) hx hb hg iw_Y hown hE.1 hP 0 rfl rfl 2 (by decide) (hg _ fl_Y_9) (fun _ h9 => h9) rfl d_Y_nearestUnsettled_38 ?_
              refine lv_iload_n hx hb d_Y_nearestUnsettled_41 rfl (lv_at hl 2 rfl) ?_
              refine rv_iald hx hb hE hP 1 rfl (i := i) (by omega) (by omega) (by decide) d_Y_nearestUnsettled_42 ?_
              refine lv_aload_n hx hb d_Y_nearestUnsettled_43 rfl (lv_at hl 0 rfl) ?_
              refine va_get (D := G) (ci := 2) (v := .ref (q 12)) (C := R_Y) (T := T_Y) (N := 6) hx hb hg iw_Y hown hE.1 hP 0 rfl rfl 2 (by decide) (hg _ fl_Y_9) (fun _ h9 => h9) rfl d_Y_nearestUnsettled_44 ?_
              refine lv_iload_n hx hb d_Y_nearestUnsettled_47 rfl (lv_at hl 1 rfl) ?_
              refine rv_iald hx hb hE hP 1 rfl (i := nr) (by omega) (by omega) (by decide) d_Y_nearestUnsettled_48 ?_
              refine rv_icmp_ge (tgt := 54) hx hb d_Y_nearestUnsettled_49 (by decide) (by have := rsu i; constructor <;> omega) (by have := rsu nr; constructor <;> omega) (fun c_5 => ?_) (fun c_5 => ?_)
              · skip
                have hs : ¬ (fse i = 0 ∧ fsu i ≠ -1) ∨ (nr ≠ -1 ∧ fsu nr ≤ fsu i) := Or.inr (by omega)
                refine lv_iinc (v := iI (i + 1)) (lv' := [(2, .int (iI (i + 1))), (0, .ref (q 3)), (1, .int (iI nr))]) hx hb d_Y_nearestUnsettled_54 hl (k := 2) rfl (iI_add _ _) (by decide) rfl (fun ls hl => ?_)
                refine lv_goto (tgt := 4) hx hb d_Y_nearestUnsettled_57 (by decide) ?_
                exact ih _ (i + 1) (by omega) (by omega) (by first | exact NRS_skip hi.1 hN hs | exact NRS_take hi.1 hN (by omega) (by omega) ht) H _ (hP.sub [0, 1, 2] rfl) (hD.sub [0, 1, 2] (by decide) rfl) hS ls (lv_sub hl [1, 2, 0] rfl)
              · skip
                have ht : nr = -1 ∨ fsu i < fsu nr := Or.inr (by omega)
                refine lv_iload_n hx hb d_Y_nearestUnsettled_52 rfl (lv_at hl 2 rfl) ?_
                refine lv_istore_n (lv' := [(1, .int (iI i)), (0, .ref (q 3)), (2, .int (iI i))]) hx hb d_Y_nearestUnsettled_53 rfl hl (by decide) rfl (fun ls hl => ?_)
                refine lv_iinc (v := iI (i + 1)) (lv' := [(2, .int (iI (i + 1))), (1, .int (iI i)), (0, .ref (q 3))]) hx hb d_Y_nearestUnsettled_54 hl (k := 2) rfl (iI_add _ _) (by decide) rfl (fun ls hl => ?_)
                refine lv_goto (tgt := 4) hx hb d_Y_nearestUnsettled_57 (by decide) ?_
                exact ih _ (i + 1) (by omega) (by omega) (by first | exact NRS_skip hi.1 hN hs | exact NRS_take hi.1 hN (by omega) (by omega) ht) H _ (hP.sub [0, 1, 2] rfl) (hD.sub [0, 1, 2] (by decide) rfl) hS ls (lv_sub hl [2, 1, 0] rfl)
          · skip
            have hs : ¬ (fse i = 0 ∧ fsu i ≠ -1) ∨ (nr ≠ -1 ∧ fsu nr ≤ fsu i) := Or.inl (by omega)
            refine lv_goto (tgt := 54) hx hb d_Y_nearestUnsettled_29 (by decide) ?_
            refine lv_iinc (v := iI (i + 1)) (lv' := [(2, .int (iI (i + 1))), (0, .ref (q 3)), (1, .int (iI nr))]) hx hb d_Y_nearestUnsettled_54 hl (k := 2) rfl (iI_add _ _) (by decide) rfl (fun ls hl => ?_)
            refine lv_goto (tgt := 4) hx hb d_Y_nearestUnsettled_57 (by decide) ?_
            exact ih _ (i + 1) (by omega) (by omega) (by first | exact NRS_skip hi.1 hN hs | exact NRS_take hi.1 hN (by omega) (by omega) ht) H _ (hP.sub [0, 1, 2] rfl) (hD.sub [0, 1, 2] (by decide) rfl) hS ls (lv_sub hl [1, 2, 0] rfl)
  exact L4 ((64 - 0 : Int).toNat + 1) (-1) 0 (Nat.lt_succ_self _) (by omega) NRS_0 H _ (hP.sub [0, 1, 2] rfl) (hD.sub [0, 1, 2] (by decide) rfl) hS ls (lv_sub hl [2, 1, 0] rfl)
set_option maxHeartbeats 4000000 in
set_option maxRecDepth 100000 in
theorem k_Y_reach (l : Launch) (G : va_G) (z : tz3) (q : Nat → Nat) (self : Int) (fresh : Int) (fsu : Int → Int) (fsr : Int → Int) (t : Int) (sum : Int) (bg : Int) (rsu : ∀ i : Int, -1 ≤ fsu i ∧ fsu i ≤ 64000) (rsr : ∀ i : Int, 0 ≤ fsr i ∧ fsr i ≤ 16777215) (ht : 0 ≤ t ∧ t < 64) (hsum : 0 ≤ sum ∧ sum ≤ 64000) (hbg : 0 ≤ bg ∧ bg ≤ 16777215) : Kv l y_Y_reach c_Y_reach 4 (rmD 0) G z [.ref (q 3), .int (iI t), .int (iI sum), .int (iI bg)] [(q 3, .inr (2, [.ref (q 2), .int (iI self), .ref (q 12), .ref (q 13), .ref (q 14), .int (iI fresh)])), (q 12, .inl (z.1, 64, .inl (aI fsu))), (q 13, .inl (z.1, 64, .inl (aI fsr)))] (fun u9 => ∃ (gsu : Int → Int) (gsr : Int → Int), u9 = [(q 3, .inr (2, [.ref (q 2), .int (iI self), .ref (q 12), .ref (q 13), .ref (q 14), .int (iI fresh)])), (q 12, .inl (z.1, 64, .inl (aI gsu))), (q 13, .inl (z.1, 64, .inl (aI gsr)))] ∧ (∀ i : Int, -1 ≤ gsu i ∧ gsu i ≤ 64000) ∧ (∀ i : Int, 0 ≤ gsr i ∧ gsr i ≤ 16777215) ∧ (RCH fsu fsr gsu gsr t sum bg)) := by
  refine Kv.of (by decide) (Nat.le_of_ble_eq_true rfl) ?_
  intro p e s m below meth c A hB hP hD ls hl
  obtain ⟨hx, hb, hRt, hml, hown, hlocks, hg, hE, hA, hin⟩ := hB
  have hown : s.vm.findClass R_Y = some m.cls := hown
  have hl : lv_has ls 4 [(0, .ref (q 3)), (1, .int (iI t)), (2, .int (iI sum)), (3, .int (iI bg))] := hl
  obtain ⟨H, hH⟩ : ∃ H, H = s.heap := ⟨_, rfl⟩
  have hS : va_S A s.heap H [] := by rw [hH]; exact va_S.rf
  rw [← hH] at hP
  rw [← hH]
  have hP : va_P G cls0 [(q 3, .inr (2, [.ref (q 2), .int (iI self), .ref (q 12), .ref (q 13), .ref (q 14), .int (iI fresh)])), (q 12, .inl (z.1, 64, .inl (aI fsu))), (q 13, .inl (z.1, 64, .inl (aI fsr)))] H := hP
  have hD : va_D A [(q 3, .inr (2, [.ref (q 2), .int (iI self), .ref (q 12), .ref (q 13), .ref (q 14), .int (iI fresh)])), (q 12, .inl (z.1, 64, .inl (aI fsu))), (q 13, .inl (z.1, 64, .inl (aI fsr)))] := hD
  refine lv_aload_n hx hb d_Y_reach_0 rfl (lv_at hl 0 rfl) ?_
  refine va_get (D := G) (ci := 2) (v := .ref (q 12)) (C := R_Y) (T := T_Y) (N := 6) hx hb hg iw_Y hown hE.1 hP 0 rfl rfl 2 (by decide) (hg _ fl_Y_9) (fun _ h9 => h9) rfl d_Y_reach_1 ?_
  refine lv_iload_n hx hb d_Y_reach_4 rfl (lv_at hl 1 rfl) ?_
  refine rv_iald hx hb hE hP 1 rfl (i := t) (by omega) (by omega) (by decide) d_Y_reach_5 ?_
  refine lv_iconst (v := iI (-1)) hx hb d_Y_reach_6 rfl ?_
  refine rv_icmp_eq (tgt := 20) hx hb d_Y_reach_7 (by decide) (by have := rsu t; constructor <;> omega) ⟨by decide, by decide⟩ (fun c_1 => ?_) (fun c_1 => ?_)
  · skip
    refine lv_aload_n hx hb d_Y_reach_20 rfl (lv_at hl 0 rfl) ?_
    refine va_get (D := G) (ci := 2) (v := .ref (q 12)) (C := R_Y) (T := T_Y) (N := 6) hx hb hg iw_Y hown hE.1 hP 0 rfl rfl 2 (by decide) (hg _ fl_Y_9) (fun _ h9 => h9) rfl d_Y_reach_21 ?_
    refine lv_iload_n hx hb d_Y_reach_24 rfl (lv_at hl 1 rfl) ?_
    refine lv_iload_n hx hb d_Y_reach_25 rfl (lv_at hl 2 rfl) ?_
    refine rv_iast hx hb hE hP hD hS 1 rfl (i := t) (x := sum) (by omega) (by omega) (by decide) d_Y_reach_26 (fun H locs hP hD hS => ?_)
    have hP : va_P G cls0 [(q 3, .inr (2, [.ref (q 2), .int (iI self), .ref (q 12), .ref (q 13), .ref (q 14), .int (iI fresh)])), (q 12, .inl (z.1, 64, .inl (aI (uZ fsu t sum)))), (q 13, .inl (z.1, 64, .inl (aI fsr)))] H := hP
    have hD : va_D A [(q 3, .inr (2, [.ref (q 2), .int (iI self), .ref (q 12), .ref (q 13), .ref (q 14), .int (iI fresh)])), (q 12, .inl (z.1, 64, .inl (aI (uZ fsu t sum)))), (q 13, .inl (z.1, 64, .inl (aI fsr)))] := hD
    refine lv_aload_n hx hb d_Y_reach_27 rfl (lv_at hl 0 rfl) ?_
    refine va_get (D := G) (ci := 2) (v := .ref (q 13)) (C := R_Y) (T := T_Y) (N := 6) hx hb hg iw_Y hown hE.1 hP 0 rfl rfl 3 (by decide) (hg _ fl_Y_15) (fun _ h9 => h9) rfl d_Y_reach_28 ?_
    refine lv_iload_n hx hb d_Y_reach_31 rfl (lv_at hl 1 rfl) ?_
    refine lv_iload_n hx hb d_Y_reach_32 rfl (lv_at hl 3 rfl) ?_
    refine rv_iast hx hb hE hP hD hS 2 rfl (i := t) (x := bg) (by omega) (by omega) (by decide) d_Y_reach_33 (fun H locs hP hD hS => ?_)
    have hP : va_P G cls0 [(q 3, .inr (2, [.ref (q 2), .int (iI self), .ref (q 12), .ref (q 13), .ref (q 14), .int (iI fresh)])), (q 12, .inl (z.1, 64, .inl (aI (uZ fsu t sum)))), (q 13, .inl (z.1, 64, .inl (aI (uZ fsr t bg))))] H := hP
    have hD : va_D A [(q 3, .inr (2, [.ref (q 2), .int (iI self), .ref (q 12), .ref (q 13), .ref (q 14), .int (iI fresh)])), (q 12, .inl (z.1, 64, .inl (aI (uZ fsu t sum)))), (q 13, .inl (z.1, 64, .inl (aI (uZ fsr t bg))))] := hD
    refine lv_goto (tgt := 57) hx hb d_Y_reach_34 (by decide) ?_
    have hP9 : va_P G cls0 [(q 3, .inr (2, [.ref (q 2), .int (iI self), .ref (q 12), .ref (q 13), .ref (q 14), .int (iI fresh)])), (q 12, .inl (z.1, 64, .inl (aI (uZ fsu t sum)))), (q 13, .inl (z.1, 64, .inl (aI (uZ fsr t bg))))] H := hP.sub [0, 1, 2] rfl
    have hD9 : va_D A [(q 3, .inr (2, [.ref (q 2), .int (iI self), .ref (q 12), .ref (q 13), .ref (q 14), .int (iI fresh)])), (q 12, .inl (z.1, 64, .inl (aI (uZ fsu t sum)))), (q 13, .inl (z.1, 64, .inl (aI (uZ fsr t bg))))] := hD.sub [0, 1, 2] (by decide) rfl
    refine rv_vret hx hb hRt hlocks (Nat.le_refl _) (Nat.le_refl _) hP9 hD9 hS d_Y_reach_57 ?_
    exact ⟨(uZ fsu t sum), (uZ fsr t bg), rfl, (by first | exact uZ_rng rsu (by omega) | exact rsu), (by first | exact uZ_rng rsr hbg | exact uZ_rng rsr (by have hq := lorI_b (x := fsr t) (y := bg) ⟨(rsr t).1, by have := rsr t; omega⟩ ⟨hbg.1, by omega⟩; omega) | exact rsr), (by first | exact Or.inl ⟨by omega, rfl, rfl⟩ | exact Or.inr (Or.inl ⟨by omega, by omega, rfl, rfl⟩) | exact Or.inr (Or.inr ⟨by omega, by omega, rfl, rfl⟩))⟩
  · skip
    refine lv_iload_n hx hb d_Y_reach_10 rfl (lv_at hl 2 rfl) ?_
    refine lv_aload_n hx hb d_Y_reach_11 rfl (lv_at hl 0 rfl) ?_
    refine va_get (D := G) (ci := 2) (v := .ref (q 12)) (C := R_Y) (T := T_Y) (N := 6) hx hb hg iw_Y hown hE.1 hP 0 rfl rfl 2 (by decide) (hg _ fl_Y_9) (fun _ h9 => h9) rfl d_Y_reach_12 ?_
    refine lv_iload_n hx hb d_Y_reach_15 rfl (lv_at hl 1 rfl) ?_
    refine rv_iald hx hb hE hP 1 rfl (i := t) (by omega) (by omega) (by decide) d_Y_reach_16 ?_
    refine rv_icmp_ge (tgt := 37) hx hb d_Y_reach_17 (by decide) (by constructor <;> omega) (by have := rsu t; constructor <;> omega) (fun c_2 => ?_) (fun c_2 => ?_)
    · skip
      refine lv_iload_n hx hb d_Y_reach_37 rfl (lv_at hl 2 rfl) ?_
      refine lv_aload_n hx hb d_Y_reach_38 rfl (lv_at hl 0 rfl) ?_
      refine va_get (D := G) (ci := 2) (v := .ref (q 12)) (C := R_Y) (T := T_Y) (N := 6) hx hb hg iw_Y hown hE.1 hP 0 rfl rfl 2 (by decide) (hg _ fl_Y_9) (fun _ h9 => h9) rfl d_Y_reach_39 ?_
      refine lv_iload_n hx hb d_Y_reach_42 rfl (lv_at hl 1 rfl) ?_
      refine rv_iald hx hb hE hP 1 rfl (i := t) (by omega) (by omega) (by decide) d_Y_reach_43 ?_
      refine rv_icmp_ne (tgt := 57) hx hb d_Y_reach_44 (by decide) (by constructor <;> omega) (by have := rsu t; constructor <;> omega) (fun c_3 => ?_) (fun c_3 => ?_)
      · skip
        have hP9 : va_P G cls0 [(q 3, .inr (2, [.ref (q 2), .int (iI self), .ref (q 12), .ref (q 13), .ref (q 14), .int (iI fresh)])), (q 12, .inl (z.1, 64, .inl (aI fsu))), (q 13, .inl (z.1, 64, .inl (aI fsr)))] H := hP.sub [0, 1, 2] rfl
        have hD9 : va_D A [(q 3, .inr (2, [.ref (q 2), .int (iI self), .ref (q 12), .ref (q 13), .ref (q 14), .int (iI fresh)])), (q 12, .inl (z.1, 64, .inl (aI fsu))), (q 13, .inl (z.1, 64, .inl (aI fsr)))] := hD.sub [0, 1, 2] (by decide) rfl
        refine rv_vret hx hb hRt hlocks (Nat.le_refl _) (Nat.le_refl _) hP9 hD9 hS d_Y_reach_57 ?_
        exact ⟨fsu, fsr, rfl, (by first | exact uZ_rng rsu (by omega) | exact rsu), (by first | exact uZ_rng rsr hbg | exact uZ_rng rsr (by have hq := lorI_b (x := fsr t) (y := bg) ⟨(rsr t).1, by have := rsr t; omega⟩ ⟨hbg.1, by omega⟩; omega) | exact rsr), (by first | exact Or.inl ⟨by omega, rfl, rfl⟩ | exact Or.inr (Or.inl ⟨by omega, by omega, rfl, rfl⟩) | exact Or.inr (Or.inr ⟨by omega, by omega, rfl, rfl⟩))⟩
      · skip
        refine lv_aload_n hx hb d_Y_reach_47 rfl (lv_at hl 0 rfl) ?_
        refine va_get (D := G) (ci := 2) (v := .ref (q 13)) (C := R_Y) (T := T_Y) (N := 6) hx hb hg iw_Y hown hE.1 hP 0 rfl rfl 3 (by decide) (hg _ fl_Y_15) (fun _ h9 => h9) rfl d_Y_reach_48 ?_
        refine lv_iload_n hx hb d_Y_reach_51 rfl (lv_at hl 1 rfl) ?_
        refine lv_dup2_11 hx hb d_Y_reach_52 rfl rfl ?_
        refine rv_iald hx hb hE hP 2 rfl (i := t) (by omega) (by omega) (by decide) d_Y_reach_53 ?_
        refine lv_iload_n hx hb d_Y_reach_54 rfl (lv_at hl 3 rfl) ?_
        refine rv_ior hx hb d_Y_reach_55 (by have := rsr t; omega) (by omega) ?_
        refine rv_iast hx hb hE hP hD hS 2 rfl (i := t) (x := lorI (fsr t) bg) (by omega) (by omega) (by decide) d_Y_reach_56 (fun H locs hP hD hS => ?_)
        have hP : va_P G cls0 [(q 3, .inr (2, [.ref (q 2), .int (iI self), .ref (q 12), .ref (q 13), .ref (q 14), .int (iI fresh)])), (q 12, .inl (z.1, 64, .inl (aI fsu))), (q 13, .inl (z.1, 64, .inl (aI (uZ fsr t (lorI (fsr t) bg)))))] H := hP
        have hD : va_D A [(q 3, .inr (2, [.ref (q 2), .int (iI self), .ref (q 12), .ref (q 13), .ref (q 14), .int (iI fresh)])), (q 12, .inl (z.1, 64, .inl (aI fsu))), (q 13, .inl (z.1, 64, .inl (aI (uZ fsr t (lorI (fsr t) bg)))))] := hD
        have hP9 : va_P G cls0 [(q 3, .inr (2, [.ref (q 2), .int (iI self), .ref (q 12), .ref (q 13), .ref (q 14), .int (iI fresh)])), (q 12, .inl (z.1, 64, .inl (aI fsu))), (q 13, .inl (z.1, 64, .inl (aI (uZ fsr t (lorI (fsr t) bg)))))] H := hP.sub [0, 1, 2] rfl
        have hD9 : va_D A [(q 3, .inr (2, [.ref (q 2), .int (iI self), .ref (q 12), .ref (q 13), .ref (q 14), .int (iI fresh)])), (q 12, .inl (z.1, 64, .inl (aI fsu))), (q 13, .inl (z.1, 64, .inl (aI (uZ fsr t (lorI (fsr t) bg)))))] := hD.sub [0, 1, 2] (by decide) rfl
        refine rv_vret hx hb hRt hlocks (Nat.le_refl _) (Nat.le_refl _) hP9 hD9 hS d_Y_reach_57 ?_
        exact ⟨fsu, (uZ fsr t (lorI (fsr t) bg)), rfl, (by first | exact uZ_rng rsu (by omega) | exact rsu), (by first | exact uZ_rng rsr hbg | exact uZ_rng rsr (by have hq := lorI_b (x := fsr t) (y := bg) ⟨(rsr t).1, by have := rsr t; omega⟩ ⟨hbg.1, by omega⟩; omega) | exact rsr), (by first | exact Or.inl ⟨by omega, rfl, rfl⟩ | exact Or.inr (Or.inl ⟨by omega, by omega, rfl, rfl⟩) | exact Or.inr (Or.inr ⟨by omega, by omega, rfl, rfl⟩))⟩
    · skip
      refine lv_aload_n hx hb d_Y_reach_20 rfl (lv_at hl 0 rfl) ?_
      refine va_get (D := G) (ci := 2) (v := .ref (q 12)) (C := R_Y) (T := T_Y) (N := 6) hx hb hg iw_Y hown hE.1 hP 0 rfl rfl 2 (by decide) (hg _ fl_Y_9) (fun _ h9 => h9) rfl d_Y_reach_21 ?_
      refine lv_iload_n hx hb d_Y_reach_24 rfl (lv_at hl 1 rfl) ?_
      refine lv_iload_n hx hb d_Y_reach_25 rfl (lv_at hl 2 rfl) ?_
      refine rv_iast hx hb hE hP hD hS 1 rfl (i := t) (x := sum) (by omega) (by omega) (by decide) d_Y_reach_26 (fun H locs hP hD hS => ?_)
      have hP : va_P G cls0 [(q 3, .inr (2, [.ref (q 2), .int (iI self), .ref (q 12), .ref (q 13), .ref (q 14), .int (iI fresh)])), (q 12, .inl (z.1, 64, .inl (aI (uZ fsu t sum)))), (q 13, .inl (z.1, 64, .inl (aI fsr)))] H := hP
      have hD : va_D A [(q 3, .inr (2, [.ref (q 2), .int (iI self), .ref (q 12), .ref (q 13), .ref (q 14), .int (iI fresh)])), (q 12, .inl (z.1, 64, .inl (aI (uZ fsu t sum)))), (q 13, .inl (z.1, 64, .inl (aI fsr)))] := hD
      refine lv_aload_n hx hb d_Y_reach_27 rfl (lv_at hl 0 rfl) ?_
      refine va_get (D := G) (ci := 2) (v := .ref (q 13)) (C := R_Y) (T := T_Y) (N := 6) hx hb hg iw_Y hown hE.1 hP 0 rfl rfl 3 (by decide) (hg _ fl_Y_15) (fun _ h9 => h9) rfl d_Y_reach_28 ?_
      refine lv_iload_n hx hb d_Y_reach_31 rfl (lv_at hl 1 rfl) ?_
      refine lv_iload_n hx hb d_Y_reach_32 rfl (lv_at hl 3 rfl) ?_
      refine rv_iast hx hb hE hP hD hS 2 rfl (i := t) (x := bg) (by omega) (by omega) (by decide) d_Y_reach_33 (fun H locs hP hD hS => ?_)
      have hP : va_P G cls0 [(q 3, .inr (2, [.ref (q 2), .int (iI self), .ref (q 12), .ref (q 13), .ref (q 14), .int (iI fresh)])), (q 12, .inl (z.1, 64, .inl (aI (uZ fsu t sum)))), (q 13, .inl (z.1, 64, .inl (aI (uZ fsr t bg))))] H := hP
      have hD : va_D A [(q 3, .inr (2, [.ref (q 2), .int (iI self), .ref (q 12), .ref (q 13), .ref (q 14), .int (iI fresh)])), (q 12, .inl (z.1, 64, .inl (aI (uZ fsu t sum)))), (q 13, .inl (z.1, 64, .inl (aI (uZ fsr t bg))))] := hD
      refine lv_goto (tgt := 57) hx hb d_Y_reach_34 (by decide) ?_
      have hP9 : va_P G cls0 [(q 3, .inr (2, [.ref (q 2), .int (iI self), .ref (q 12), .ref (q 13), .ref (q 14), .int (iI fresh)])), (q 12, .inl (z.1, 64, .inl (aI (uZ fsu t sum)))), (q 13, .inl (z.1, 64, .inl (aI (uZ fsr t bg))))] H := hP.sub [0, 1, 2] rfl
      have hD9 : va_D A [(q 3, .inr (2, [.ref (q 2), .int (iI self), .ref (q 12), .ref (q 13), .ref (q 14), .int (iI fresh)])), (q 12, .inl (z.1, 64, .inl (aI (uZ fsu t sum)))), (q 13, .inl (z.1, 64, .inl (aI (uZ fsr t bg))))] := hD.sub [0, 1, 2] (by decide) rfl
      refine rv_vret hx hb hRt hlocks (Nat.le_refl _) (Nat.le_refl _) hP9 hD9 hS d_Y_reach_57 ?_
      exact ⟨(uZ fsu t sum), (uZ fsr t bg), rfl, (by first | exact uZ_rng rsu (by omega) | exact rsu), (by first | exact uZ_rng rsr hbg | exact uZ_rng rsr (by have hq := lorI_b (x := fsr t) (y := bg) ⟨(rsr t).1, by have := rsr t; omega⟩ ⟨hbg.1, by omega⟩; omega) | exact rsr), (by first | exact Or.inl ⟨by omega, rfl, rfl⟩ | exact Or.inr (Or.inl ⟨by omega, by omega, rfl, rfl⟩) | exact Or.inr (Or.inr ⟨by omega, by omega, rfl, rfl⟩))⟩
set_option maxHeartbeats 4000000 in
set_option maxRecDepth 100000 in
theorem k_Y_goOnFrom (l : Launch) (G : va_G) (z : tz3) (q : Nat → Nat) (self : Int) (fresh : Int) (fsu : Int → Int) (fsr : Int → Int) (fsz : Int → Int) (frt : Int → Int) (fnt : Int → Int) (fco : Int → Int) (r : Int) (rsu : ∀ i : Int, -1 ≤ fsu i ∧ fsu i ≤ 64000) (rsr : ∀ i : Int, 0 ≤ fsr i ∧ fsr i ≤ 16777215) (rsz : ∀ i : Int, 0 ≤ fsz i ∧ fsz i ≤ 24) (rrt : ∀ i : Int, -1 ≤ frt i ∧ frt i ≤ 63) (rnt : ∀ i : Int, 0 ≤ fnt i ∧ fnt i ≤ 63) (rco : ∀ i : Int, 0 ≤ fco i ∧ fco i ≤ 1000) (hAK : AOK fsz frt fco) (hr : 0 ≤ r ∧ r < 64) (hself : 0 ≤ self ∧ self < 64) (hsr0 : 0 ≤ fsu r ∧ fsu r ≤ 63000) : Kv l y_Y_goOnFrom c_Y_goOnFrom 6 (rmD 3) G z [.ref (q 3), .int (iI r)] [(q 3, .inr (2, [.ref (q 2), .int (iI self), .ref (q 12), .ref (q 13), .ref (q 14), .int (iI fresh)])), (q 12, .inl (z.1, 64, .inl (aI fsu))), (q 13, .inl (z.1, 64, .inl (aI fsr))), (q 2, .inr (0, [.ref (q 6), .ref (q 7), .ref (q 8), .ref (q 9), .ref (q 10), .ref (q 11)])), (q 8, .inl (z.1, 66, .inl (aI fsz))), (q 9, .inl (z.1, 1584, .inl (aI frt))), (q 10, .inl (z.1, 1584, .inl (aI fnt))), (q 11, .inl (z.1, 1584, .inl (aI fco)))] (fun u9 => ∃ (gsu : Int → Int) (gsr : Int → Int), u9 = [(q 3, .inr (2, [.ref (q 2), .int (iI self), .ref (q 12), .ref (q 13), .ref (q 14), .int (iI fresh)])), (q 12, .inl (z.1, 64, .inl (aI gsu))), (q 13, .inl (z.1, 64, .inl (aI gsr))), (q 2, .inr (0, [.ref (q 6), .ref (q 7), .ref (q 8), .ref (q 9), .ref (q 10), .ref (q 11)])), (q 8, .inl (z.1, 66, .inl (aI fsz))), (q 9, .inl (z.1, 1584, .inl (aI frt))), (q 10, .inl (z.1, 1584, .inl (aI fnt))), (q 11, .inl (z.1, 1584, .inl (aI fco)))] ∧ (∀ i : Int, -1 ≤ gsu i ∧ gsu i ≤ 64000) ∧ (∀ i : Int, 0 ≤ gsr i ∧ gsr i ≤ 16777215) ∧ (GO fsz frt fnt fco self r fsu fsr gsu gsr (fsz r))) := by
  refine Kv.of (by decide) (Nat.le_of_ble_eq_true rfl) ?_
  intro p e s m below meth c A hB hP hD ls hl
  obtain ⟨hx, hb, hRt, hml, hown, hlocks, hg, hE, hA, hin⟩ := hB
  have hown : s.vm.findClass R_Y = some m.cls := hown
  have hl : lv_has ls 6 [(0, .ref (q 3)), (1, .int (iI r))] := hl
  obtain ⟨H, hH⟩ : ∃ H, H = s.heap := ⟨_, rfl⟩
  have hS : va_S A s.heap H [] := by rw [hH]; exact va_S.rf
  rw [← hH] at hP
  rw [← hH]
  have hP : va_P G cls0 [(q 3, .inr (2, [.ref (q 2), .int (iI self), .ref (q 12), .ref (q 13), .ref (q 14), .int (iI fresh)])), (q 12, .inl (z.1, 64, .inl (aI fsu))), (q 13, .inl (z.1, 64, .inl (aI fsr))), (q 2, .inr (0, [.ref (q 6), .ref (q 7), .ref (q 8), .ref (q 9), .ref (q 10), .ref (q 11)])), (q 8, .inl (z.1, 66, .inl (aI fsz))), (q 9, .inl (z.1, 1584, .inl (aI frt))), (q 10, .inl (z.1, 1584, .inl (aI fnt))), (q 11, .inl (z.1, 1584, .inl (aI fco)))] H := hP
  have hD : va_D A [(q 3, .inr (2, [.ref (q 2), .int (iI self), .ref (q 12), .ref (q 13), .ref (q 14), .int (iI fresh)])), (q 12, .inl (z.1, 64, .inl (aI fsu))), (q 13, .inl (z.1, 64, .inl (aI fsr))), (q 2, .inr (0, [.ref (q 6), .ref (q 7), .ref (q 8), .ref (q 9), .ref (q 10), .ref (q 11)])), (q 8, .inl (z.1, 66, .inl (aI fsz))), (q 9, .inl (z.1, 1584, .inl (aI frt))), (q 10, .inl (z.1, 1584, .inl (aI fnt))), (q 11, .inl (z.1, 1584, .inl (aI fco)))] := hD
  refine lv_iconst (v := iI 0) hx hb d_Y_goOnFrom_0 rfl ?_
  refine lv_istore_n (lv' := [(2, .int (iI 0)), (0, .ref (q 3)), (1, .int (iI r))]) hx hb d_Y_goOnFrom_1 rfl hl (by decide) rfl (fun ls hl => ?_)
  have L2 : ∀ n9 : Nat, ∀ (gsu : Int → Int) (gsr : Int → Int) (k : Int), (fsz r - k : Int).toNat < n9 → (∀ i : Int, -1 ≤ gsu i ∧ gsu i ≤ 64000) → (∀ i : Int, 0 ≤ gsr i ∧ gsr i ≤ 16777215) → (0 ≤ k ∧ k ≤ fsz r) → (GO fsz frt fnt fco self r fsu fsr gsu gsr k) → ∀ (H : Heap) (locs : List Loc), va_P G cls0 [(q 3, .inr (2, [.ref (q 2), .int (iI self), .ref (q 12), .ref (q 13), .ref (q 14), .int (iI fresh)])), (q 12, .inl (z.1, 64, .inl (aI gsu))), (q 13, .inl (z.1, 64, .inl (aI gsr))), (q 2, .inr (0, [.ref (q 6), .ref (q 7), .ref (q 8), .ref (q 9), .ref (q 10), .ref (q 11)])), (q 8, .inl (z.1, 66, .inl (aI fsz))), (q 9, .inl (z.1, 1584, .inl (aI frt))), (q 10, .inl (z.1, 1584, .inl (aI fnt))), (q 11, .inl (z.1, 1584, .inl (aI fco)))] H → va_D A [(q 3, .inr (2, [.ref (q 2), .int (iI self), .ref (q 12), .ref (q 13), .ref (q 14), .int (iI fresh)])), (q 12, .inl (z.1, 64, .inl (aI gsu))), (q 13, .inl (z.1, 64, .inl (aI gsr))), (q 2, .inr (0, [.ref (q 6), .ref (q 7), .ref (q 8), .ref (q 9), .ref (q 10), .ref (q 11)])), (q 8, .inl (z.1, 66, .inl (aI fsz))), (q 9, .inl (z.1, 1584, .inl (aI frt))), (q 10, .inl (z.1, 1584, .inl (aI fnt))), (q 11, .inl (z.1, 1584, .inl (aI fco)))] → va_S A s.heap H locs → ∀ ls : Array Slot, lv_has ls 6 [(0, .ref (q 3)), (1, .int (iI r)), (2, .int (iI k))] → W p l e (rmD 3) s m [.ref (q 3), .int (iI r)].toArray below meth c H locs 0 0 (Zv below [.ref (q 3), .int (iI r)].toArray s (rmD 3) G A (fun u9 => ∃ (gsu : Int → Int) (gsr : Int → Int), u9 = [(q 3, .inr (2, [.ref (q 2), .int (iI self), .ref (q 12), .ref (q 13), .ref (q 14), .int (iI fresh)])), (q 12, .inl (z.1, 64, .inl (aI gsu))), (q 13, .inl (z.1, 64, .inl (aI gsr))), (q 2, .inr (0, [.ref (q 6), .ref (q 7), .ref (q 8), .ref (q 9), .ref (q 10), .ref (q 11)])), (q 8, .inl (z.1, 66, .inl (aI fsz))), (q 9, .inl (z.1, 1584, .inl (aI frt))), (q 10, .inl (z.1, 1584, .inl (aI fnt))), (q 11, .inl (z.1, 1584, .inl (aI fco)))] ∧ (∀ i : Int, -1 ≤ gsu i ∧ gsu i ≤ 64000) ∧ (∀ i : Int, 0 ≤ gsr i ∧ gsr i ≤ 16777215) ∧ (GO fsz frt fnt fco self r fsu fsr gsu gsr (fsz r)))) (F0 m 2 ls []) := by
    intro n9
    induction n9 with
    | zero => intro gsu gsr k hmu; exact absurd hmu (Nat.not_lt_zero _)
    | succ n9 ih =>
      intro gsu gsr k hmu rgsu rgsr hk hG H locs hP hD hS ls hl
      refine lv_iload_n hx hb d_Y_goOnFrom_2 rfl (lv_at hl 2 rfl) ?_
      refine lv_aload_n hx hb d_Y_goOnFrom_3 rfl (lv_at hl 0 rfl) ?_
      refine va_get (D := G) (ci := 2) (v := .ref (q 2)) (C := R_Y) (T := T_Y) (N := 6) hx hb hg iw_Y hown hE.1 hP 0 rfl rfl 0 (by decide) (hg _ fl_Y_22) (fun _ h9 => h9) rfl d_Y_goOnFrom_4 ?_
      refine va_getN (D := G) (ci := 0) (v := .ref (q 8)) (C := R_A) (T := T_A) (N := 6) hx hb hg iw_A hown hE.1 hP 3 rfl rfl 2 (by decide) (hE.nest nf_Y_45) (fun _ h9 => h9) rfl d_Y_goOnFrom_7 ?_
      refine lv_iload_n hx hb d_Y_goOnFrom_10 rfl (lv_at hl 1 rfl) ?_
      refine rv_iald hx hb hE hP 4 rfl (i := r) (by omega) (by omega) (by decide) d_Y_goOnFrom_11 ?_
      refine rv_icmp_ge (tgt := 112) hx hb d_Y_goOnFrom_12 (by decide) (by have := rsz r; constructor <;> omega) (by have := rsz r; have := rsz r; constructor <;> omega) (fun c_1 => ?_) (fun c_1 => ?_)
      · skip
        have hP9 : va_P G cls0 [(q 3, .inr (2, [.ref (q 2), .int (iI self), .ref (q 12), .ref (q 13), .ref (q 14), .int (iI fresh)])), (q 12, .inl (z.1, 64, .inl (aI gsu))), (q 13, .inl (z.1, 64, .inl (aI gsr))), (q 2, .inr (0, [.ref (q 6), .ref (q 7), .ref (q 8), .ref (q 9), .ref (q 10), .ref (q 11)])), (q 8, .inl (z.1, 66, .inl (aI fsz))), (q 9, .inl (z.1, 1584, .inl (aI frt))), (q 10, .inl (z.1, 1584, .inl (aI fnt))), (q 11, .inl (z.1, 1584, .inl (aI fco)))] H := hP.sub [0, 1, 2, 3, 4, 5, 6, 7] rfl
        have hD9 : va_D A [(q 3, .inr (2, [.ref (q 2), .int (iI self), .ref (q 12), .ref (q 13), .ref (q 14), .int (iI fresh)])), (q 12, .inl (z.1, 64, .inl (aI gsu))), (q 13, .inl (z.1, 64, .inl (aI gsr))), (q 2, .inr (0, [.ref (q 6), .ref (q 7), .ref (q 8), .ref (q 9), .ref (q 10), .ref (q 11)])), (q 8, .inl (z.1, 66, .inl (aI fsz))), (q 9, .inl (z.1, 1584, .inl (aI frt))), (q 10, .inl (z.1, 1584, .inl (aI fnt))), (q 11, .inl (z.1, 1584, .inl (aI fco)))] := hD.sub [0, 1, 2, 3, 4, 5, 6, 7] (by decide) rfl
        refine rv_vret hx hb hRt hlocks (Nat.le_refl _) (Nat.le_refl _) hP9 hD9 hS d_Y_goOnFrom_112 ?_
        exact ⟨gsu, gsr, rfl, rgsu, rgsr, (by rw [show fsz r = k by omega]; exact hG)⟩
      · skip
        refine lv_iload_n hx hb d_Y_goOnFrom_15 rfl (lv_at hl 1 rfl) ?_
        refine lv_iload_n hx hb d_Y_goOnFrom_16 rfl (lv_at hl 2 rfl) ?_
        refine qS_i (As := [.int (iI r), .int (iI k)]) (rest := []) (wr := [(q 3, .inr (2, [.ref (q 2), .int (iI self), .ref (q 12), .ref (q 13), .ref (q 14), .int (iI fresh)])), (q 12, .inl (z.1, 64, .inl (aI gsu))), (q 13, .inl (z.1, 64, .inl (aI gsr))), (q 2, .inr (0, [.ref (q 6), .ref (q 7), .ref (q 8), .ref (q 9), .ref (q 10), .ref (q 11)])), (q 8, .inl (z.1, 66, .inl (aI fsz))), (q 9, .inl (z.1, 1584, .inl (aI frt))), (q 10, .inl (z.1, 1584, .inl (aI fnt))), (q 11, .inl (z.1, 1584, .inl (aI fco)))]) hx hb hml hown hg hE hA hS hP hD (k_A_indexOf l G z r k) [] [0, 1, 2, 3, 4, 5, 6, 7] rfl rfl (by decide) (by decide) (by decide) ml_Y_50 st_A_indexOf in_A co_A_indexOf ok_A_indexOf ⟨Nat.le_of_ble_eq_true rfl, Nat.le_of_ble_eq_true rfl⟩ hl.1 rfl (Nat.le_of_ble_eq_true rfl) d_Y_goOnFrom_17 ⟨Nat.le_of_ble_eq_true rfl, Nat.le_of_ble_eq_true rfl⟩ (fun r9 u9 H locs hw hP hD hS => ?_)
        obtain ⟨rfl, rfl⟩ := hw
        have hP : va_P G cls0 [(q 3, .inr (2, [.ref (q 2), .int (iI self), .ref (q 12), .ref (q 13), .ref (q 14), .int (iI fresh)])), (q 12, .inl (z.1, 64, .inl (aI gsu))), (q 13, .inl (z.1, 64, .inl (aI gsr))), (q 2, .inr (0, [.ref (q 6), .ref (q 7), .ref (q 8), .ref (q 9), .ref (q 10), .ref (q 11)])), (q 8, .inl (z.1, 66, .inl (aI fsz))), (q 9, .inl (z.1, 1584, .inl (aI frt))), (q 10, .inl (z.1, 1584, .inl (aI fnt))), (q 11, .inl (z.1, 1584, .inl (aI fco)))] H := hP
        have hD : va_D A [(q 3, .inr (2, [.ref (q 2), .int (iI self), .ref (q 12), .ref (q 13), .ref (q 14), .int (iI fresh)])), (q 12, .inl (z.1, 64, .inl (aI gsu))), (q 13, .inl (z.1, 64, .inl (aI gsr))), (q 2, .inr (0, [.ref (q 6), .ref (q 7), .ref (q 8), .ref (q 9), .ref (q 10), .ref (q 11)])), (q 8, .inl (z.1, 66, .inl (aI fsz))), (q 9, .inl (z.1, 1584, .inl (aI frt))), (q 10, .inl (z.1, 1584, .inl (aI fnt))), (q 11, .inl (z.1, 1584, .inl (aI fco)))] := hD
        refine lv_istore_n (lv' := [(3, .int (iI (r * 24 + k))), (0, .ref (q 3)), (1, .int (iI r)), (2, .int (iI k))]) hx hb d_Y_goOnFrom_20 rfl hl (by decide) rfl (fun ls hl => ?_)
        refine lv_aload_n hx hb d_Y_goOnFrom_21 rfl (lv_at hl 1 rfl) ?_
        refine va_get (D := G) (ci := 2) (v := .ref (q 2)) (C := R_Y) (T := T_Y) (N := 6) hx hb hg iw_Y hown hE.1 hP 0 rfl rfl 0 (by decide) (hg _ fl_Y_22) (fun _ h9 => h9) rfl d_Y_goOnFrom_22 ?_
        refine va_getN (D := G) (ci := 0) (v := .ref (q 9)) (C := R_A) (T := T_A) (N := 6) hx hb hg iw_A hown hE.1 hP 3 rfl rfl 3 (by decide) (hE.nest nf_Y_54) (fun _ h9 => h9) rfl d_Y_goOnFrom_25 ?_
        refine lv_iload_n hx hb d_Y_goOnFrom_28 rfl (lv_at hl 0 rfl) ?_
        refine rv_iald hx hb hE hP 5 rfl (i := r * 24 + k) (by have := rsz r; omega) (by have := rsz r; omega) (by decide) d_Y_goOnFrom_29 ?_
        refine lv_istore (lv' := [(4, .int (iI (frt (r * 24 + k)))), (3, .int (iI (r * 24 + k))), (0, .ref (q 3)), (1, .int (iI r)), (2, .int (iI k))]) hx hb d_Y_goOnFrom_30 hl (by decide) rfl (fun ls hl => ?_)
        refine lv_iload hx hb d_Y_goOnFrom_32 (lv_at hl 0 rfl) ?_
        refine lv_iconst (v := iI (-1)) hx hb d_Y_goOnFrom_34 rfl ?_
        refine rv_icmp_eq (tgt := 106) hx hb d_Y_goOnFrom_35 (by decide) (by have := rrt (r * 24 + k); constructor <;> omega) ⟨by decide, by decide⟩ (fun c_2 => ?_) (fun c_2 => ?_)
        · skip
          have hnu : ¬ usb fsz frt fnt r k := fun q => q.2.2.1 c_2
          refine lv_iinc (v := iI (k + 1)) (lv' := [(2, .int (iI (k + 1))), (4, .int (iI (frt (r * 24 + k)))), (3, .int (iI (r * 24 + k))), (0, .ref (q 3)), (1, .int (iI r))]) hx hb d_Y_goOnFrom_106 hl (k := 4) rfl (iI_add _ _) (by decide) rfl (fun ls hl => ?_)
          refine lv_goto (tgt := 2) hx hb d_Y_goOnFrom_109 (by decide) ?_
          exact ih _ _ (k + 1) (by have := rsz r; omega) (by first | exact rgsu2 | exact rgsu) (by first | exact rgsr2 | exact rgsr) (by have := rsz r; omega) (by first | exact GO_edge hr hsr0.1 (usb_c hAK hr.1 hr.2 hu) hu (usb_t hAK hu) hbg (by rw [hsame.1] at fR; exact fR) hG | exact GO_skip hnu hG) H _ (hP.sub [0, 1, 2, 3, 4, 5, 6, 7] rfl) (hD.sub [0, 1, 2, 3, 4, 5, 6, 7] (by decide) rfl) hS ls (lv_sub hl [3, 4, 0] rfl)
        · skip
          refine lv_aload_n hx hb d_Y_goOnFrom_38 rfl (lv_at hl 2 rfl) ?_
          refine va_get (D := G) (ci := 2) (v := .ref (q 2)) (C := R_Y) (T := T_Y) (N := 6) hx hb hg iw_Y hown hE.1 hP 0 rfl rfl 0 (by decide) (hg _ fl_Y_22) (fun _ h9 => h9) rfl d_Y_goOnFrom_39 ?_
          refine lv_iload hx hb d_Y_goOnFrom_42 (lv_at hl 0 rfl) ?_
          refine lv_iload_n hx hb d_Y_goOnFrom_44 rfl (lv_at hl 3 rfl) ?_
          refine lv_aload_n hx hb d_Y_goOnFrom_45 rfl (lv_at hl 2 rfl) ?_
          refine va_get (D := G) (ci := 2) (v := .ref (q 2)) (C := R_Y) (T := T_Y) (N := 6) hx hb hg iw_Y hown hE.1 hP 0 rfl rfl 0 (by decide) (hg _ fl_Y_22) (fun _ h9 => h9) rfl d_Y_goOnFrom_46 ?_
          refine va_getN (D := G) (ci := 0) (v := .ref (q 10)) (C := R_A) (T := T_A) (N := 6) hx hb hg iw_A hown hE.1 hP 3 rfl rfl 4 (by decide) (hE.nest nf_Y_57) (fun _ h9 => h9) rfl d_Y_goOnFrom_49 ?_
          refine lv_iload_n hx hb d_Y_goOnFrom_52 rfl (lv_at hl 1 rfl) ?_
          refine rv_iald hx hb hE hP 6 rfl (i := r * 24 + k) (by have := rsz r; omega) (by have := rsz r; omega) (by decide) d_Y_goOnFrom_53 ?_
          refine qV_i (As := [.int (iI (frt (r * 24 + k))), .int (iI r), .int (iI (fnt (r * 24 + k)))]) (rest := []) (wr := [(q 3, .inr (2, [.ref (q 2), .int (iI self), .ref (q 12), .ref (q 13), .ref (q 14), .int (iI fresh)])), (q 12, .inl (z.1, 64, .inl (aI gsu))), (q 13, .inl (z.1, 64, .inl (aI gsr)))]) hx hb hml hown hg hE hA hS hP hD (k_A_has l G z q fsz frt fnt fco (frt (r * 24 + k)) r (fnt (r * 24 + k)) (by have := rrt (r * 24 + k); omega) (by assumption) (by assumption) (by assumption) (by assumption) (by omega) (by have := rnt (r * 24 + k); omega) (fun j j0 j1 => hAK.2.2 _ j (by have := rrt (r * 24 + k); omega) (by have := rrt (r * 24 + k); omega) j0 j1)) [3, 4, 5, 6, 7] [0, 1, 2] rfl rfl (by decide) (by decide) (by decide) (q0 := 0) rfl rfl ml_Y_60 im_A_has se_A_has in_A co_A_has ok_A_has ⟨Nat.le_of_ble_eq_true rfl, Nat.le_of_ble_eq_true rfl⟩ hl.1 rfl (Nat.le_of_ble_eq_true rfl) d_Y_goOnFrom_54 ⟨Nat.le_of_ble_eq_true rfl, Nat.le_of_ble_eq_true rfl⟩ (fun r9 u9 H locs hw hP hD hS => ?_)
          obtain ⟨rb, rfl, rfl, fbh⟩ := hw
          have hP : va_P G cls0 [(q 3, .inr (2, [.ref (q 2), .int (iI self), .ref (q 12), .ref (q 13), .ref (q 14), .int (iI fresh)])), (q 12, .inl (z.1, 64, .inl (aI gsu))), (q 13, .inl (z.1, 64, .inl (aI gsr))), (q 2, .inr (0, [.ref (q 6), .ref (q 7), .ref (q 8), .ref (q 9), .ref (q 10), .ref (q 11)])), (q 8, .inl (z.1, 66, .inl (aI fsz))), (q 9, .inl (z.1, 1584, .inl (aI frt))), (q 10, .inl (z.1, 1584, .inl (aI fnt))), (q 11, .inl (z.1, 1584, .inl (aI fco)))] H := hP
          have hD : va_D A [(q 3, .inr (2, [.ref (q 2), .int (iI self), .ref (q 12), .ref (q 13), .ref (q 14), .int (iI fresh)])), (q 12, .inl (z.1, 64, .inl (aI gsu))), (q 13, .inl (z.1, 64, .inl (aI gsr))), (q 2, .inr (0, [.ref (q 6), .ref (q 7), .ref (q 8), .ref (q 9), .ref (q 10), .ref (q 11)])), (q 8, .inl (z.1, 66, .inl (aI fsz))), (q 9, .inl (z.1, 1584, .inl (aI frt))), (q 10, .inl (z.1, 1584, .inl (aI fnt))), (q 11, .inl (z.1, 1584, .inl (aI fco)))] := hD
          refine rv_if_eq (tgt := 106) hx hb d_Y_goOnFrom_57 (by decide) (by constructor <;> omega) (fun c_3 => ?_) (fun c_3 => ?_)
          · skip
            have hnu : ¬ usb fsz frt fnt r k := fun q => by
              rcases fbh with ⟨w, -⟩ | ⟨-, w⟩
              · omega
              · exact w q.2.2.2
            clear fbh
            refine lv_iinc (v := iI (k + 1)) (lv' := [(2, .int (iI (k + 1))), (4, .int (iI (frt (r * 24 + k)))), (3, .int (iI (r * 24 + k))), (0, .ref (q 3)), (1, .int (iI r))]) hx hb d_Y_goOnFrom_106 hl (k := 4) rfl (iI_add _ _) (by decide) rfl (fun ls hl => ?_)
            refine lv_goto (tgt := 2) hx hb d_Y_goOnFrom_109 (by decide) ?_
            exact ih _ _ (k + 1) (by have := rsz r; omega) (by first | exact rgsu2 | exact rgsu) (by first | exact rgsr2 | exact rgsr) (by have := rsz r; omega) (by first | exact GO_edge hr hsr0.1 (usb_c hAK hr.1 hr.2 hu) hu (usb_t hAK hu) hbg (by rw [hsame.1] at fR; exact fR) hG | exact GO_skip hnu hG) H _ (hP.sub [0, 1, 2, 3, 4, 5, 6, 7] rfl) (hD.sub [0, 1, 2, 3, 4, 5, 6, 7] (by decide) rfl) hS ls (lv_sub hl [3, 4, 0] rfl)
          · skip
            have hu : usb fsz frt fnt r k := by
              rcases fbh with ⟨-, w⟩ | ⟨w, -⟩
              · exact ⟨hk.1, by omega, by omega, w⟩
              · omega
            have hsame := hG.2.2.2.2 r hr.1 hr.2 (by omega) (Int.le_refl _)
            clear fbh
            refine lv_iload_n hx hb d_Y_goOnFrom_60 rfl (lv_at hl 3 rfl) ?_
            refine lv_aload_n hx hb d_Y_goOnFrom_61 rfl (lv_at hl 2 rfl) ?_
            refine va_get (D := G) (ci := 2) (v := .int (iI self)) (C := R_Y) (T := T_Y) (N := 6) hx hb hg iw_Y hown hE.1 hP 0 rfl rfl 1 (by decide) (hg _ fl_Y_26) (fun _ h9 => h9) rfl d_Y_goOnFrom_62 ?_
            refine rv_icmp_ne (tgt := 74) hx hb d_Y_goOnFrom_65 (by decide) (by constructor <;> omega) (by constructor <;> omega) (fun c_4 => ?_) (fun c_4 => ?_)
            · skip
              have hbg : ∀ b : Int, 0 ≤ b → b < 24 → (tb (gsr r) b ↔ bgn fsr self r k b) := fun b b0 b1 => by
                rw [hsame.2]
                exact ⟨fun q => Or.inr ⟨c_4, q⟩, fun q => by rcases q with q | q; exact absurd q.1 c_4; exact q.2⟩
              refine lv_aload_n hx hb d_Y_goOnFrom_74 rfl (lv_at hl 2 rfl) ?_
              refine va_get (D := G) (ci := 2) (v := .ref (q 13)) (C := R_Y) (T := T_Y) (N := 6) hx hb hg iw_Y hown hE.1 hP 0 rfl rfl 3 (by decide) (hg _ fl_Y_15) (fun _ h9 => h9) rfl d_Y_goOnFrom_75 ?_
              refine lv_iload_n hx hb d_Y_goOnFrom_78 rfl (lv_at hl 3 rfl) ?_
              refine rv_iald hx hb hE hP 2 rfl (i := r) (by omega) (by omega) (by decide) d_Y_goOnFrom_79 ?_
              refine lv_istore (lv' := [(5, .int (iI (gsr r))), (4, .int (iI (frt (r * 24 + k)))), (3, .int (iI (r * 24 + k))), (0, .ref (q 3)), (1, .int (iI r)), (2, .int (iI k))]) hx hb d_Y_goOnFrom_80 hl (by decide) rfl (fun ls hl => ?_)
              refine lv_aload_n hx hb d_Y_goOnFrom_82 rfl (lv_at hl 3 rfl) ?_
              refine lv_iload hx hb d_Y_goOnFrom_83 (lv_at hl 1 rfl) ?_
              refine lv_aload_n hx hb d_Y_goOnFrom_85 rfl (lv_at hl 3 rfl) ?_
              refine va_get (D := G) (ci := 2) (v := .ref (q 12)) (C := R_Y) (T := T_Y) (N := 6) hx hb hg iw_Y hown hE.1 hP 0 rfl rfl 2 (by decide) (hg _ fl_Y_9) (fun _ h9 => h9) rfl d_Y_goOnFrom_86 ?_
              refine lv_iload_n hx hb d_Y_goOnFrom_89 rfl (lv_at hl 4 rfl) ?_
              refine rv_iald hx hb hE hP 1 rfl (i := r) (by omega) (by omega) (by decide) d_Y_goOnFrom_90 ?_
              refine lv_aload_n hx hb d_Y_goOnFrom_91 rfl (lv_at hl 3 rfl) ?_
              refine va_get (D := G) (ci := 2) (v := .ref (q 2)) (C := R_Y) (T := T_Y) (N := 6) hx hb hg iw_Y hown hE.1 hP 0 rfl rfl 0 (by decide) (hg _ fl_Y_22) (fun _ h9 => h9) rfl d_Y_goOnFrom_92 ?_
              refine va_getN (D := G) (ci := 0) (v := .ref (q 11)) (C := R_A) (T := T_A) (N := 6) hx hb hg iw_A hown hE.1 hP 3 rfl rfl 5 (by decide) (hE.nest nf_Y_64) (fun _ h9 => h9) rfl d_Y_goOnFrom_95 ?_
              refine lv_iload_n hx hb d_Y_goOnFrom_98 rfl (lv_at hl 2 rfl) ?_
              refine rv_iald hx hb hE hP 7 rfl (i := r * 24 + k) (by have := rsz r; omega) (by have := rsz r; omega) (by decide) d_Y_goOnFrom_99 ?_
              refine rv_iadd hx hb d_Y_goOnFrom_100 ?_
              refine lv_iload hx hb d_Y_goOnFrom_101 (lv_at hl 0 rfl) ?_
              refine qV_v (As := [.int (iI (frt (r * 24 + k))), .int (iI ((gsu r) + (fco (r * 24 + k)))), .int (iI (gsr r))]) (rest := []) (wr := [(q 2, .inr (0, [.ref (q 6), .ref (q 7), .ref (q 8), .ref (q 9), .ref (q 10), .ref (q 11)])), (q 8, .inl (z.1, 66, .inl (aI fsz))), (q 9, .inl (z.1, 1584, .inl (aI frt))), (q 10, .inl (z.1, 1584, .inl (aI fnt))), (q 11, .inl (z.1, 1584, .inl (aI fco)))]) hx hb hml hown hg hE hA hS hP hD (k_Y_reach l G z q self fresh gsu gsr (frt (r * 24 + k)) ((gsu r) + (fco (r * 24 + k))) (gsr r) (by assumption) (by assumption) (by have := rsz r; have := rrt (r * 24 + k); have := rco (r * 24 + k); have := hG.2.2.2.2 r hr.1 hr.2 (by omega) (Int.le_refl _); have := bI_b (k := k) (by omega) (by omega); have := rgsr r; have := rrt (r * 24 + k); omega) (by have := rsz r; have := rrt (r * 24 + k); have := rco (r * 24 + k); have := hG.2.2.2.2 r hr.1 hr.2 (by omega) (Int.le_refl _); have := bI_b (k := k) (by omega) (by omega); have := rgsr r; have := rco (r * 24 + k); have := rgsu r; omega) (by have := rsz r; have := rrt (r * 24 + k); have := rco (r * 24 + k); have := hG.2.2.2.2 r hr.1 hr.2 (by omega) (Int.le_refl _); have := bI_b (k := k) (by omega) (by omega); have := rgsr r; have := rgsr r; omega)) [0, 1, 2] [3, 4, 5, 6, 7] rfl rfl (by decide) (by decide) (by decide) (q0 := 0) rfl rfl ml_Y_67 im_Y_reach se_Y_reach in_Y co_Y_reach ok_Y_reach ⟨Nat.le_of_ble_eq_true rfl, Nat.le_of_ble_eq_true rfl⟩ hl.1 rfl (Nat.le_of_ble_eq_true rfl) d_Y_goOnFrom_103 ⟨Nat.le_of_ble_eq_true rfl, Nat.le_of_ble_eq_true rfl⟩ (fun u9 H locs hw hP hD hS => ?_)
              obtain ⟨gsu2, gsr2, rfl, rgsu2, rgsr2, fR⟩ := hw
              have hP : va_P G cls0 [(q 2, .inr (0, [.ref (q 6), .ref (q 7), .ref (q 8), .ref (q 9), .ref (q 10), .ref (q 11)])), (q 8, .inl (z.1, 66, .inl (aI fsz))), (q 9, .inl (z.1, 1584, .inl (aI frt))), (q 10, .inl (z.1, 1584, .inl (aI fnt))), (q 11, .inl (z.1, 1584, .inl (aI fco))), (q 3, .inr (2, [.ref (q 2), .int (iI self), .ref (q 12), .ref (q 13), .ref (q 14), .int (iI fresh)])), (q 12, .inl (z.1, 64, .inl (aI gsu2))), (q 13, .inl (z.1, 64, .inl (aI gsr2)))] H := hP
              have hD : va_D A [(q 2, .inr (0, [.ref (q 6), .ref (q 7), .ref (q 8), .ref (q 9), .ref (q 10), .ref (q 11)])), (q 8, .inl (z.1, 66, .inl (aI fsz))), (q 9, .inl (z.1, 1584, .inl (aI frt))), (q 10, .inl (z.1, 1584, .inl (aI fnt))), (q 11, .inl (z.1, 1584, .inl (aI fco))), (q 3, .inr (2, [.ref (q 2), .int (iI self), .ref (q 12), .ref (q 13), .ref (q 14), .int (iI fresh)])), (q 12, .inl (z.1, 64, .inl (aI gsu2))), (q 13, .inl (z.1, 64, .inl (aI gsr2)))] := hD
              refine lv_iinc (v := iI (k + 1)) (lv' := [(2, .int (iI (k + 1))), (5, .int (iI (gsr r))), (4, .int (iI (frt (r * 24 + k)))), (3, .int (iI (r * 24 + k))), (0, .ref (q 3)), (1, .int (iI r))]) hx hb d_Y_goOnFrom_106 hl (k := 5) rfl (iI_add _ _) (by decide) rfl (fun ls hl => ?_)
              refine lv_goto (tgt := 2) hx hb d_Y_goOnFrom_109 (by decide) ?_
              exact ih _ _ (k + 1) (by have := rsz r; omega) (by first | exact rgsu2 | exact rgsu) (by first | exact rgsr2 | exact rgsr) (by have := rsz r; omega) (by first | exact GO_edge hr hsr0.1 (usb_c hAK hr.1 hr.2 hu) hu (usb_t hAK hu) hbg (by rw [hsame.1] at fR; exact fR) hG | exact GO_skip hnu hG) H _ (hP.sub [5, 6, 7, 0, 1, 2, 3, 4] rfl) (hD.sub [5, 6, 7, 0, 1, 2, 3, 4] (by decide) rfl) hS ls (lv_sub hl [4, 5, 0] rfl)
            · skip
              have hbg : ∀ b : Int, 0 ≤ b → b < 24 → (tb (bI k) b ↔ bgn fsr self r k b) := fun b b0 b1 => by
                rw [tb_bI hk.1 b0]
                exact ⟨fun q => Or.inl ⟨c_4, q⟩, fun q => by rcases q with q | q; exact q.2; exact absurd c_4 q.1⟩
              refine lv_iconst (v := iI 1) hx hb d_Y_goOnFrom_68 rfl ?_
              refine lv_iload_n hx hb d_Y_goOnFrom_69 rfl (lv_at hl 4 rfl) ?_
              refine rv_ishl1 hx hb d_Y_goOnFrom_70 (by have := rsz r; omega) (by have := rsz r; omega) ?_
              refine lv_goto (tgt := 80) hx hb d_Y_goOnFrom_71 (by decide) ?_
              refine lv_istore (lv' := [(5, .int (iI (bI k))), (4, .int (iI (frt (r * 24 + k)))), (3, .int (iI (r * 24 + k))), (0, .ref (q 3)), (1, .int (iI r)), (2, .int (iI k))]) hx hb d_Y_goOnFrom_80 hl (by decide) rfl (fun ls hl => ?_)
              refine lv_aload_n hx hb d_Y_goOnFrom_82 rfl (lv_at hl 3 rfl) ?_
              refine lv_iload hx hb d_Y_goOnFrom_83 (lv_at hl 1 rfl) ?_
              refine lv_aload_n hx hb d_Y_goOnFrom_85 rfl (lv_at hl 3 rfl) ?_
              refine va_get (D := G) (ci := 2) (v := .ref (q 12)) (C := R_Y) (T := T_Y) (N := 6) hx hb hg iw_Y hown hE.1 hP 0 rfl rfl 2 (by decide) (hg _ fl_Y_9) (fun _ h9 => h9) rfl d_Y_goOnFrom_86 ?_
              refine lv_iload_n hx hb d_Y_goOnFrom_89 rfl (lv_at hl 4 rfl) ?_
              refine rv_iald hx hb hE hP 1 rfl (i := r) (by omega) (by omega) (by decide) d_Y_goOnFrom_90 ?_
              refine lv_aload_n hx hb d_Y_goOnFrom_91 rfl (lv_at hl 3 rfl) ?_
              refine va_get (D := G) (ci := 2) (v := .ref (q 2)) (C := R_Y) (T := T_Y) (N := 6) hx hb hg iw_Y hown hE.1 hP 0 rfl rfl 0 (by decide) (hg _ fl_Y_22) (fun _ h9 => h9) rfl d_Y_goOnFrom_92 ?_
              refine va_getN (D := G) (ci := 0) (v := .ref (q 11)) (C := R_A) (T := T_A) (N := 6) hx hb hg iw_A hown hE.1 hP 3 rfl rfl 5 (by decide) (hE.nest nf_Y_64) (fun _ h9 => h9) rfl d_Y_goOnFrom_95 ?_
              refine lv_iload_n hx hb d_Y_goOnFrom_98 rfl (lv_at hl 2 rfl) ?_
              refine rv_iald hx hb hE hP 7 rfl (i := r * 24 + k) (by have := rsz r; omega) (by have := rsz r; omega) (by decide) d_Y_goOnFrom_99 ?_
              refine rv_iadd hx hb d_Y_goOnFrom_100 ?_
              refine lv_iload hx hb d_Y_goOnFrom_101 (lv_at hl 0 rfl) ?_
              refine qV_v (As := [.int (iI (frt (r * 24 + k))), .int (iI ((gsu r) + (fco (r * 24 + k)))), .int (iI (bI k))]) (rest := []) (wr := [(q 2, .inr (0, [.ref (q 6), .ref (q 7), .ref (q 8), .ref (q 9), .ref (q 10), .ref (q 11)])), (q 8, .inl (z.1, 66, .inl (aI fsz))), (q 9, .inl (z.1, 1584, .inl (aI frt))), (q 10, .inl (z.1, 1584, .inl (aI fnt))), (q 11, .inl (z.1, 1584, .inl (aI fco)))]) hx hb hml hown hg hE hA hS hP hD (k_Y_reach l G z q self fresh gsu gsr (frt (r * 24 + k)) ((gsu r) + (fco (r * 24 + k))) (bI k) (by assumption) (by assumption) (by have := rsz r; have := rrt (r * 24 + k); have := rco (r * 24 + k); have := hG.2.2.2.2 r hr.1 hr.2 (by omega) (Int.le_refl _); have := bI_b (k := k) (by omega) (by omega); have := rgsr r; have := rrt (r * 24 + k); omega) (by have := rsz r; have := rrt (r * 24 + k); have := rco (r * 24 + k); have := hG.2.2.2.2 r hr.1 hr.2 (by omega) (Int.le_refl _); have := bI_b (k := k) (by omega) (by omega); have := rgsr r; have := rco (r * 24 + k); have := rgsu r; omega) (by have := rsz r; have := rrt (r * 24 + k); have := rco (r * 24 + k); have := hG.2.2.2.2 r hr.1 hr.2 (by omega) (Int.le_refl _); have := bI_b (k := k) (by omega) (by omega); have := rgsr r; omega)) [0, 1, 2] [3, 4, 5, 6, 7] rfl rfl (by decide) (by decide) (by decide) (q0 := 0) rfl rfl ml_Y_67 im_Y_reach se_Y_reach in_Y co_Y_reach ok_Y_reach ⟨Nat.le_of_ble_eq_true rfl, Nat.le_of_ble_eq_true rfl⟩ hl.1 rfl (Nat.le_of_ble_eq_true rfl) d_Y_goOnFrom_103 ⟨Nat.le_of_ble_eq_true rfl, Nat.le_of_ble_eq_true rfl⟩ (fun u9 H locs hw hP hD hS => ?_)
              obtain ⟨gsu2, gsr2, rfl, rgsu2, rgsr2, fR⟩ := hw
              have hP : va_P G cls0 [(q 2, .inr (0, [.ref (q 6), .ref (q 7), .ref (q 8), .ref (q 9), .ref (q 10), .ref (q 11)])), (q 8, .inl (z.1, 66, .inl (aI fsz))), (q 9, .inl (z.1, 1584, .inl (aI frt))), (q 10, .inl (z.1, 1584, .inl (aI fnt))), (q 11, .inl (z.1, 1584, .inl (aI fco))), (q 3, .inr (2, [.ref (q 2), .int (iI self), .ref (q 12), .ref (q 13), .ref (q 14), .int (iI fresh)])), (q 12, .inl (z.1, 64, .inl (aI gsu2))), (q 13, .inl (z.1, 64, .inl (aI gsr2)))] H := hP
              have hD : va_D A [(q 2, .inr (0, [.ref (q 6), .ref (q 7), .ref (q 8), .ref (q 9), .ref (q 10), .ref (q 11)])), (q 8, .inl (z.1, 66, .inl (aI fsz))), (q 9, .inl (z.1, 1584, .inl (aI frt))), (q 10, .inl (z.1, 1584, .inl (aI fnt))), (q 11, .inl (z.1, 1584, .inl (aI fco))), (q 3, .inr (2, [.ref (q 2), .int (iI self), .ref (q 12), .ref (q 13), .ref (q 14), .int (iI fresh)])), (q 12, .inl (z.1, 64, .inl (aI gsu2))), (q 13, .inl (z.1, 64, .inl (aI gsr2)))] := hD
              refine lv_iinc (v := iI (k + 1)) (lv' := [(2, .int (iI (k + 1))), (5, .int (iI (bI k))), (4, .int (iI (frt (r * 24 + k)))), (3, .int (iI (r * 24 + k))), (0, .ref (q 3)), (1, .int (iI r))]) hx hb d_Y_goOnFrom_106 hl (k := 5) rfl (iI_add _ _) (by decide) rfl (fun ls hl => ?_)
              refine lv_goto (tgt := 2) hx hb d_Y_goOnFrom_109 (by decide) ?_
              exact ih _ _ (k + 1) (by have := rsz r; omega) (by first | exact rgsu2 | exact rgsu) (by first | exact rgsr2 | exact rgsr) (by have := rsz r; omega) (by first | exact GO_edge hr hsr0.1 (usb_c hAK hr.1 hr.2 hu) hu (usb_t hAK hu) hbg (by rw [hsame.1] at fR; exact fR) hG | exact GO_skip hnu hG) H _ (hP.sub [5, 6, 7, 0, 1, 2, 3, 4] rfl) (hD.sub [5, 6, 7, 0, 1, 2, 3, 4] (by decide) rfl) hS ls (lv_sub hl [4, 5, 0] rfl)
  exact L2 ((fsz r - 0 : Int).toNat + 1) fsu fsr 0 (Nat.lt_succ_self _) rsu rsr (by have := rsz r; have := rsz r; omega) GO_0 H _ (hP.sub [0, 1, 2, 3, 4, 5, 6, 7] rfl) (hD.sub [0, 1, 2, 3, 4, 5, 6, 7] (by decide) rfl) hS ls (lv_sub hl [1, 2, 0] rfl)
set_option maxHeartbeats 4000000 in
set_option maxRecDepth 100000 in
theorem k_Y_refresh (l : Launch) (G : va_G) (z : tz3) (q : Nat → Nat) (self : Int) (fresh : Int) (fsu : Int → Int) (fsr : Int → Int) (fse : Int → Int) (fsz : Int → Int) (frt : Int → Int) (fnt : Int → Int) (fco : Int → Int) (rsu : ∀ i : Int, -1 ≤ fsu i ∧ fsu i ≤ 64000) (rsr : ∀ i : Int, 0 ≤ fsr i ∧ fsr i ≤ 16777215) (rse : ∀ i : Int, 0 ≤ fse i ∧ fse i ≤ 1) (rsz : ∀ i : Int, 0 ≤ fsz i ∧ fsz i ≤ 24) (rrt : ∀ i : Int, -1 ≤ frt i ∧ frt i ≤ 63) (rnt : ∀ i : Int, 0 ≤ fnt i ∧ fnt i ≤ 63) (rco : ∀ i : Int, 0 ≤ fco i ∧ fco i ≤ 1000) (hAK : AOK fsz frt fco) (hself : 0 ≤ self ∧ self < 64) (hfr : fresh = 0 ∨ fresh = 1) (hw : fresh = 1 → WAYS fsz frt fnt fco self fsu fsr) : Kv l y_Y_refresh c_Y_refresh 3 (rmD 4) G z [.ref (q 3)] [(q 3, .inr (2, [.ref (q 2), .int (iI self), .ref (q 12), .ref (q 13), .ref (q 14), .int (iI fresh)])), (q 12, .inl (z.1, 64, .inl (aI fsu))), (q 13, .inl (z.1, 64, .inl (aI fsr))), (q 14, .inl (z.2.1, 64, .inl (aI fse))), (q 2, .inr (0, [.ref (q 6), .ref (q 7), .ref (q 8), .ref (q 9), .ref (q 10), .ref (q 11)])), (q 8, .inl (z.1, 66, .inl (aI fsz))), (q 9, .inl (z.1, 1584, .inl (aI frt))), (q 10, .inl (z.1, 1584, .inl (aI fnt))), (q 11, .inl (z.1, 1584, .inl (aI fco)))] (fun u9 => ∃ (gsu : Int → Int) (gsr : Int → Int) (gse : Int → Int), u9 = [(q 3, .inr (2, [.ref (q 2), .int (iI self), .ref (q 12), .ref (q 13), .ref (q 14), .int (iI 1)])), (q 12, .inl (z.1, 64, .inl (aI gsu))), (q 13, .inl (z.1, 64, .inl (aI gsr))), (q 14, .inl (z.2.1, 64, .inl (aI gse))), (q 2, .inr (0, [.ref (q 6), .ref (q 7), .ref (q 8), .ref (q 9), .ref (q 10), .ref (q 11)])), (q 8, .inl (z.1, 66, .inl (aI fsz))), (q 9, .inl (z.1, 1584, .inl (aI frt))), (q 10, .inl (z.1, 1584, .inl (aI fnt))), (q 11, .inl (z.1, 1584, .inl (aI fco)))] ∧ (∀ i : Int, -1 ≤ gsu i ∧ gsu i ≤ 64000) ∧ (∀ i : Int, 0 ≤ gsr i ∧ gsr i ≤ 16777215) ∧ (∀ i : Int, 0 ≤ gse i ∧ gse i ≤ 1) ∧ (WAYS fsz frt fnt fco self gsu gsr)) := by
  refine Kv.of (by decide) (Nat.le_of_ble_eq_true rfl) ?_
  intro p e s m below meth c A hB hP hD ls hl
  obtain ⟨hx, hb, hRt, hml, hown, hlocks, hg, hE, hA, hin⟩ := hB
  have hown : s.vm.findClass R_Y = some m.cls := hown
  have hl : lv_has ls 3 [(0, .ref (q 3))] := hl
  obtain ⟨H, hH⟩ : ∃ H, H = s.heap := ⟨_, rfl⟩
  have hS : va_S A s.heap H [] := by rw [hH]; exact va_S.rf
  rw [← hH] at hP
  rw [← hH]
  have hP : va_P G cls0 [(q 3, .inr (2, [.ref (q 2), .int (iI self), .ref (q 12), .ref (q 13), .ref (q 14), .int (iI fresh)])), (q 12, .inl (z.1, 64, .inl (aI fsu))), (q 13, .inl (z.1, 64, .inl (aI fsr))), (q 14, .inl (z.2.1, 64, .inl (aI fse))), (q 2, .inr (0, [.ref (q 6), .ref (q 7), .ref (q 8), .ref (q 9), .ref (q 10), .ref (q 11)])), (q 8, .inl (z.1, 66, .inl (aI fsz))), (q 9, .inl (z.1, 1584, .inl (aI frt))), (q 10, .inl (z.1, 1584, .inl (aI fnt))), (q 11, .inl (z.1, 1584, .inl (aI fco)))] H := hP
  have hD : va_D A [(q 3, .inr (2, [.ref (q 2), .int (iI self), .ref (q 12), .ref (q 13), .ref (q 14), .int (iI fresh)])), (q 12, .inl (z.1, 64, .inl (aI fsu))), (q 13, .inl (z.1, 64, .inl (aI fsr))), (q 14, .inl (z.2.1, 64, .inl (aI fse))), (q 2, .inr (0, [.ref (q 6), .ref (q 7), .ref (q 8), .ref (q 9), .ref (q 10), .ref (q 11)])), (q 8, .inl (z.1, 66, .inl (aI fsz))), (q 9, .inl (z.1, 1584, .inl (aI frt))), (q 10, .inl (z.1, 1584, .inl (aI fnt))), (q 11, .inl (z.1, 1584, .inl (aI fco)))] := hD
  refine lv_aload_n hx hb d_Y_refresh_0 rfl (lv_at hl 0 rfl) ?_
  refine va_get (D := G) (ci := 2) (v := .int (iI fresh)) (C := R_Y) (T := T_Y) (N := 6) hx hb hg iw_Y hown hE.1 hP 0 rfl rfl 5 (by decide) (hg _ fl_Y_30) (fun _ h9 => h9) rfl d_Y_refresh_1 ?_
  refine rv_if_eq (tgt := 8) hx hb d_Y_refresh_4 (by decide) (by constructor <;> omega) (fun c_1 => ?_) (fun c_1 => ?_)
  · skip
    refine lv_aload_n hx hb d_Y_refresh_8 rfl (lv_at hl 0 rfl) ?_
    refine lv_iconst (v := iI 1) hx hb d_Y_refresh_9 rfl ?_
    refine va_put (D := G) (ci := 2) (v := .int (iI 1)) (ty := .boolean) (C := R_Y) (T := T_Y) (N := 6) hx hb hg iw_Y ty_Y ty_Y_ok nm_Y hown hE.1 hP hD hS 0 rfl rfl 5 (by decide) (hg _ fl_Y_30) (fun _ h9 => h9) rfl (by decide +kernel) nar_b1 (by decide +kernel) (Nat.le_of_ble_eq_true rfl) d_Y_refresh_10 (fun H locs hP hD hS => ?_)
    have hP : va_P G cls0 [(q 3, .inr (2, [.ref (q 2), .int (iI self), .ref (q 12), .ref (q 13), .ref (q 14), .int (iI 1)])), (q 12, .inl (z.1, 64, .inl (aI fsu))), (q 13, .inl (z.1, 64, .inl (aI fsr))), (q 14, .inl (z.2.1, 64, .inl (aI fse))), (q 2, .inr (0, [.ref (q 6), .ref (q 7), .ref (q 8), .ref (q 9), .ref (q 10), .ref (q 11)])), (q 8, .inl (z.1, 66, .inl (aI fsz))), (q 9, .inl (z.1, 1584, .inl (aI frt))), (q 10, .inl (z.1, 1584, .inl (aI fnt))), (q 11, .inl (z.1, 1584, .inl (aI fco)))] H := hP
    have hD : va_D A [(q 3, .inr (2, [.ref (q 2), .int (iI self), .ref (q 12), .ref (q 13), .ref (q 14), .int (iI 1)])), (q 12, .inl (z.1, 64, .inl (aI fsu))), (q 13, .inl (z.1, 64, .inl (aI fsr))), (q 14, .inl (z.2.1, 64, .inl (aI fse))), (q 2, .inr (0, [.ref (q 6), .ref (q 7), .ref (q 8), .ref (q 9), .ref (q 10), .ref (q 11)])), (q 8, .inl (z.1, 66, .inl (aI fsz))), (q 9, .inl (z.1, 1584, .inl (aI frt))), (q 10, .inl (z.1, 1584, .inl (aI fnt))), (q 11, .inl (z.1, 1584, .inl (aI fco)))] := hD
    refine lv_aload_n hx hb d_Y_refresh_13 rfl (lv_at hl 0 rfl) ?_
    refine qV_v (As := []) (rest := []) (wr := [(q 2, .inr (0, [.ref (q 6), .ref (q 7), .ref (q 8), .ref (q 9), .ref (q 10), .ref (q 11)])), (q 8, .inl (z.1, 66, .inl (aI fsz))), (q 9, .inl (z.1, 1584, .inl (aI frt))), (q 10, .inl (z.1, 1584, .inl (aI fnt))), (q 11, .inl (z.1, 1584, .inl (aI fco)))]) hx hb hml hown hg hE hA hS hP hD (k_Y_beginAnew l G z q self 1 fsu fsr fse (by assumption) (by assumption) (by assumption) (by omega)) [0, 1, 2, 3] [4, 5, 6, 7, 8] rfl rfl (by decide) (by decide) (by decide) (q0 := 0) rfl rfl ml_Y_34 im_Y_beginAnew se_Y_beginAnew in_Y co_Y_beginAnew ok_Y_beginAnew ⟨Nat.le_of_ble_eq_true rfl, Nat.le_of_ble_eq_true rfl⟩ hl.1 rfl (Nat.le_of_ble_eq_true rfl) d_Y_refresh_14 ⟨Nat.le_of_ble_eq_true rfl, Nat.le_of_ble_eq_true rfl⟩ (fun u9 H locs hw hP hD hS => ?_)
    obtain ⟨bsu, bsr, bse, rfl, rbsu, rbsr, rbse, b1, b2, b3, b4⟩ := hw
    have hP : va_P G cls0 [(q 2, .inr (0, [.ref (q 6), .ref (q 7), .ref (q 8), .ref (q 9), .ref (q 10), .ref (q 11)])), (q 8, .inl (z.1, 66, .inl (aI fsz))), (q 9, .inl (z.1, 1584, .inl (aI frt))), (q 10, .inl (z.1, 1584, .inl (aI fnt))), (q 11, .inl (z.1, 1584, .inl (aI fco))), (q 3, .inr (2, [.ref (q 2), .int (iI self), .ref (q 12), .ref (q 13), .ref (q 14), .int (iI 1)])), (q 12, .inl (z.1, 64, .inl (aI bsu))), (q 13, .inl (z.1, 64, .inl (aI bsr))), (q 14, .inl (z.2.1, 64, .inl (aI bse)))] H := hP
    have hD : va_D A [(q 2, .inr (0, [.ref (q 6), .ref (q 7), .ref (q 8), .ref (q 9), .ref (q 10), .ref (q 11)])), (q 8, .inl (z.1, 66, .inl (aI fsz))), (q 9, .inl (z.1, 1584, .inl (aI frt))), (q 10, .inl (z.1, 1584, .inl (aI fnt))), (q 11, .inl (z.1, 1584, .inl (aI fco))), (q 3, .inr (2, [.ref (q 2), .int (iI self), .ref (q 12), .ref (q 13), .ref (q 14), .int (iI 1)])), (q 12, .inl (z.1, 64, .inl (aI bsu))), (q 13, .inl (z.1, 64, .inl (aI bsr))), (q 14, .inl (z.2.1, 64, .inl (aI bse)))] := hD
    refine lv_iconst (v := iI 0) hx hb d_Y_refresh_17 rfl ?_
    refine lv_istore_n (lv' := [(1, .int (iI 0)), (0, .ref (q 3))]) hx hb d_Y_refresh_18 rfl hl (by decide) rfl (fun ls hl => ?_)
    have L19 : ∀ n9 : Nat, ∀ (gsu : Int → Int) (gsr : Int → Int) (gse : Int → Int) (rd : Int), (64 - rd : Int).toNat < n9 → (∀ i : Int, -1 ≤ gsu i ∧ gsu i ≤ 64000) → (∀ i : Int, 0 ≤ gsr i ∧ gsr i ≤ 16777215) → (∀ i : Int, 0 ≤ gse i ∧ gse i ≤ 1) → (0 ≤ rd ∧ rd ≤ 64) → (DJ fsz frt fnt fco self gsu gsr gse rd) → ∀ (H : Heap) (locs : List Loc), va_P G cls0 [(q 2, .inr (0, [.ref (q 6), .ref (q 7), .ref (q 8), .ref (q 9), .ref (q 10), .ref (q 11)])), (q 8, .inl (z.1, 66, .inl (aI fsz))), (q 9, .inl (z.1, 1584, .inl (aI frt))), (q 10, .inl (z.1, 1584, .inl (aI fnt))), (q 11, .inl (z.1, 1584, .inl (aI fco))), (q 3, .inr (2, [.ref (q 2), .int (iI self), .ref (q 12), .ref (q 13), .ref (q 14), .int (iI 1)])), (q 12, .inl (z.1, 64, .inl (aI gsu))), (q 13, .inl (z.1, 64, .inl (aI gsr))), (q 14, .inl (z.2.1, 64, .inl (aI gse)))] H → va_D A [(q 2, .inr (0, [.ref (q 6), .ref (q 7), .ref (q 8), .ref (q 9), .ref (q 10), .ref (q 11)])), (q 8, .inl (z.1, 66, .inl (aI fsz))), (q 9, .inl (z.1, 1584, .inl (aI frt))), (q 10, .inl (z.1, 1584, .inl (aI fnt))), (q 11, .inl (z.1, 1584, .inl (aI fco))), (q 3, .inr (2, [.ref (q 2), .int (iI self), .ref (q 12), .ref (q 13), .ref (q 14), .int (iI 1)])), (q 12, .inl (z.1, 64, .inl (aI gsu))), (q 13, .inl (z.1, 64, .inl (aI gsr))), (q 14, .inl (z.2.1, 64, .inl (aI gse)))] → va_S A s.heap H locs → ∀ ls : Array Slot, lv_has ls 3 [(0, .ref (q 3)), (1, .int (iI rd))] → W p l e (rmD 4) s m [.ref (q 3)].toArray below meth c H locs 0 0 (Zv below [.ref (q 3)].toArray s (rmD 4) G A (fun u9 => ∃ (gsu : Int → Int) (gsr : Int → Int) (gse : Int → Int), u9 = [(q 3, .inr (2, [.ref (q 2), .int (iI self), .ref (q 12), .ref (q 13), .ref (q 14), .int (iI 1)])), (q 12, .inl (z.1, 64, .inl (aI gsu))), (q 13, .inl (z.1, 64, .inl (aI gsr))), (q 14, .inl (z.2.1, 64, .inl (aI gse))), (q 2, .inr (0, [.ref (q 6), .ref (q 7), .ref (q 8), .ref (q 9), .ref (q 10), .ref (q 11)])), (q 8, .inl (z.1, 66, .inl (aI fsz))), (q 9, .inl (z.1, 1584, .inl (aI frt))), (q 10, .inl (z.1, 1584, .inl (aI fnt))), (q 11, .inl (z.1, 1584, .inl (aI fco)))] ∧ (∀ i : Int, -1 ≤ gsu i ∧ gsu i ≤ 64000) ∧ (∀ i : Int, 0 ≤ gsr i ∧ gsr i ≤ 16777215) ∧ (∀ i : Int, 0 ≤ gse i ∧ gse i ≤ 1) ∧ (WAYS fsz frt fnt fco self gsu gsr))) (F0 m 19 ls []) := by
      intro n9
      induction n9 with
      | zero => intro gsu gsr gse rd hmu; exact absurd hmu (Nat.not_lt_zero _)
      | succ n9 ih =>
        intro gsu gsr gse rd hmu rgsu rgsr rgse hrd hDJ H locs hP hD hS ls hl
        refine lv_iload_n hx hb d_Y_refresh_19 rfl (lv_at hl 1 rfl) ?_
        refine lv_bipush (v := iI 64) hx hb d_Y_refresh_20 (by decide +kernel) ?_
        refine rv_icmp_ge (tgt := 54) hx hb d_Y_refresh_22 (by decide) (by constructor <;> omega) ⟨by decide, by decide⟩ (fun c_2 => ?_) (fun c_2 => ?_)
        · skip
          have hP9 : va_P G cls0 [(q 3, .inr (2, [.ref (q 2), .int (iI self), .ref (q 12), .ref (q 13), .ref (q 14), .int (iI 1)])), (q 12, .inl (z.1, 64, .inl (aI gsu))), (q 13, .inl (z.1, 64, .inl (aI gsr))), (q 14, .inl (z.2.1, 64, .inl (aI gse))), (q 2, .inr (0, [.ref (q 6), .ref (q 7), .ref (q 8), .ref (q 9), .ref (q 10), .ref (q 11)])), (q 8, .inl (z.1, 66, .inl (aI fsz))), (q 9, .inl (z.1, 1584, .inl (aI frt))), (q 10, .inl (z.1, 1584, .inl (aI fnt))), (q 11, .inl (z.1, 1584, .inl (aI fco)))] H := hP.sub [5, 6, 7, 8, 0, 1, 2, 3, 4] rfl
          have hD9 : va_D A [(q 3, .inr (2, [.ref (q 2), .int (iI self), .ref (q 12), .ref (q 13), .ref (q 14), .int (iI 1)])), (q 12, .inl (z.1, 64, .inl (aI gsu))), (q 13, .inl (z.1, 64, .inl (aI gsr))), (q 14, .inl (z.2.1, 64, .inl (aI gse))), (q 2, .inr (0, [.ref (q 6), .ref (q 7), .ref (q 8), .ref (q 9), .ref (q 10), .ref (q 11)])), (q 8, .inl (z.1, 66, .inl (aI fsz))), (q 9, .inl (z.1, 1584, .inl (aI frt))), (q 10, .inl (z.1, 1584, .inl (aI fnt))), (q 11, .inl (z.1, 1584, .inl (aI fco)))] := hD.sub [5, 6, 7, 8, 0, 1, 2, 3, 4] (by decide) rfl
          refine rv_vret hx hb hRt hlocks (Nat.le_refl _) (Nat.le_refl _) hP9 hD9 hS d_Y_refresh_54 ?_
          exact ⟨gsu, gsr, gse, rfl, rgsu, rgsr, rgse, (DJ_end hAK hself (fun t t0 t1 tn => by have := cI_full (f := gse) (k := 64) (by omega) (by rw [hDJ.2.2.2.2.2.2.2]; omega) t t0 t1; have := rgse t; omega) hDJ)⟩
        · skip
          refine lv_aload_n hx hb d_Y_refresh_25 rfl (lv_at hl 0 rfl) ?_
          refine qV_i (As := []) (rest := []) (wr := [(q 2, .inr (0, [.ref (q 6), .ref (q 7), .ref (q 8), .ref (q 9), .ref (q 10), .ref (q 11)])), (q 8, .inl (z.1, 66, .inl (aI fsz))), (q 9, .inl (z.1, 1584, .inl (aI frt))), (q 10, .inl (z.1, 1584, .inl (aI fnt))), (q 11, .inl (z.1, 1584, .inl (aI fco))), (q 13, .inl (z.1, 64, .inl (aI gsr)))]) hx hb hml hown hg hE hA hS hP hD (k_Y_nearestUnsettled l G z q self 1 gsu gse (by assumption) (by assumption)) [5, 6, 8] [0, 1, 2, 3, 4, 7] rfl rfl (by decide) (by decide) (by decide) (q0 := 0) rfl rfl ml_Y_37 im_Y_nearestUnsettled se_Y_nearestUnsettled in_Y co_Y_nearestUnsettled ok_Y_nearestUnsettled ⟨Nat.le_of_ble_eq_true rfl, Nat.le_of_ble_eq_true rfl⟩ hl.1 rfl (Nat.le_of_ble_eq_true rfl) d_Y_refresh_26 ⟨Nat.le_of_ble_eq_true rfl, Nat.le_of_ble_eq_true rfl⟩ (fun r9 u9 H locs hw hP hD hS => ?_)
          obtain ⟨nr, rfl, rfl, fN⟩ := hw
          have hP : va_P G cls0 [(q 2, .inr (0, [.ref (q 6), .ref (q 7), .ref (q 8), .ref (q 9), .ref (q 10), .ref (q 11)])), (q 8, .inl (z.1, 66, .inl (aI fsz))), (q 9, .inl (z.1, 1584, .inl (aI frt))), (q 10, .inl (z.1, 1584, .inl (aI fnt))), (q 11, .inl (z.1, 1584, .inl (aI fco))), (q 13, .inl (z.1, 64, .inl (aI gsr))), (q 3, .inr (2, [.ref (q 2), .int (iI self), .ref (q 12), .ref (q 13), .ref (q 14), .int (iI 1)])), (q 12, .inl (z.1, 64, .inl (aI gsu))), (q 14, .inl (z.2.1, 64, .inl (aI gse)))] H := hP
          have hD : va_D A [(q 2, .inr (0, [.ref (q 6), .ref (q 7), .ref (q 8), .ref (q 9), .ref (q 10), .ref (q 11)])), (q 8, .inl (z.1, 66, .inl (aI fsz))), (q 9, .inl (z.1, 1584, .inl (aI frt))), (q 10, .inl (z.1, 1584, .inl (aI fnt))), (q 11, .inl (z.1, 1584, .inl (aI fco))), (q 13, .inl (z.1, 64, .inl (aI gsr))), (q 3, .inr (2, [.ref (q 2), .int (iI self), .ref (q 12), .ref (q 13), .ref (q 14), .int (iI 1)])), (q 12, .inl (z.1, 64, .inl (aI gsu))), (q 14, .inl (z.2.1, 64, .inl (aI gse)))] := hD
          refine lv_istore_n (lv' := [(2, .int (iI nr)), (0, .ref (q 3)), (1, .int (iI rd))]) hx hb d_Y_refresh_29 rfl hl (by decide) rfl (fun ls hl => ?_)
          refine lv_iload_n hx hb d_Y_refresh_30 rfl (lv_at hl 0 rfl) ?_
          refine lv_iconst (v := iI (-1)) hx hb d_Y_refresh_31 rfl ?_
          refine rv_icmp_ne (tgt := 36) hx hb d_Y_refresh_32 (by decide) (by have hq : -1 ≤ nr ∧ nr < 64 := (by rcases fN with ⟨q, -⟩ | ⟨q1, q2, -⟩ <;> omega); constructor <;> omega) ⟨by decide, by decide⟩ (fun c_3 => ?_) (fun c_3 => ?_)
          · skip
            have hnr : (0 ≤ nr ∧ nr < 64) ∧ gse nr = 0 ∧ gsu nr ≠ -1 ∧ ∀ t : Int, 0 ≤ t → t < 64 → gse t = 0 → gsu t ≠ -1 → gsu nr ≤ gsu t := by
              rcases fN with ⟨q, -⟩ | ⟨q1, q2, q3, q4, q5⟩
              · omega
              · exact ⟨⟨q1, q2⟩, q3, q4, q5⟩
            refine lv_aload_n hx hb d_Y_refresh_36 rfl (lv_at hl 1 rfl) ?_
            refine va_get (D := G) (ci := 2) (v := .ref (q 14)) (C := R_Y) (T := T_Y) (N := 6) hx hb hg iw_Y hown hE.1 hP 6 rfl rfl 4 (by decide) (hg _ fl_Y_18) (fun _ h9 => h9) rfl d_Y_refresh_37 ?_
            refine lv_iload_n hx hb d_Y_refresh_40 rfl (lv_at hl 0 rfl) ?_
            refine lv_iconst (v := iI 1) hx hb d_Y_refresh_41 rfl ?_
            refine rv_zast hx hb hE hP hD hS 8 rfl (i := nr) (x := 1) (by have := hnr.1; omega) (by have := hnr.1; omega) (by decide) (Or.inr rfl) d_Y_refresh_42 (fun H locs hP hD hS => ?_)
            have hP : va_P G cls0 [(q 2, .inr (0, [.ref (q 6), .ref (q 7), .ref (q 8), .ref (q 9), .ref (q 10), .ref (q 11)])), (q 8, .inl (z.1, 66, .inl (aI fsz))), (q 9, .inl (z.1, 1584, .inl (aI frt))), (q 10, .inl (z.1, 1584, .inl (aI fnt))), (q 11, .inl (z.1, 1584, .inl (aI fco))), (q 13, .inl (z.1, 64, .inl (aI gsr))), (q 3, .inr (2, [.ref (q 2), .int (iI self), .ref (q 12), .ref (q 13), .ref (q 14), .int (iI 1)])), (q 12, .inl (z.1, 64, .inl (aI gsu))), (q 14, .inl (z.2.1, 64, .inl (aI (uZ gse nr 1))))] H := hP
            have hD : va_D A [(q 2, .inr (0, [.ref (q 6), .ref (q 7), .ref (q 8), .ref (q 9), .ref (q 10), .ref (q 11)])), (q 8, .inl (z.1, 66, .inl (aI fsz))), (q 9, .inl (z.1, 1584, .inl (aI frt))), (q 10, .inl (z.1, 1584, .inl (aI fnt))), (q 11, .inl (z.1, 1584, .inl (aI fco))), (q 13, .inl (z.1, 64, .inl (aI gsr))), (q 3, .inr (2, [.ref (q 2), .int (iI self), .ref (q 12), .ref (q 13), .ref (q 14), .int (iI 1)])), (q 12, .inl (z.1, 64, .inl (aI gsu))), (q 14, .inl (z.2.1, 64, .inl (aI (uZ gse nr 1))))] := hD
            refine lv_aload_n hx hb d_Y_refresh_43 rfl (lv_at hl 1 rfl) ?_
            refine lv_iload_n hx hb d_Y_refresh_44 rfl (lv_at hl 0 rfl) ?_
            refine qV_v (As := [.int (iI nr)]) (rest := []) (wr := [(q 14, .inl (z.2.1, 64, .inl (aI (uZ gse nr 1))))]) hx hb hml hown hg hE hA hS hP hD (k_Y_goOnFrom l G z q self 1 gsu gsr fsz frt fnt fco nr (by assumption) (by assumption) (by assumption) (by assumption) (by assumption) (by assumption) (by assumption) (by have := hnr.1; have := hDJ.2.1 nr hnr.1.1 hnr.1.2; have := hnr.2.2.1; omega) (by have := hnr.1; have := hDJ.2.1 nr hnr.1.1 hnr.1.2; have := hnr.2.2.1; omega) (by have := hnr.1; have := hDJ.2.1 nr hnr.1.1 hnr.1.2; have := hnr.2.2.1; have := rgsu nr; omega)) [6, 7, 5, 0, 1, 2, 3, 4] [8] rfl rfl (by decide) (by decide) (by decide) (q0 := 0) rfl rfl ml_Y_41 im_Y_goOnFrom se_Y_goOnFrom in_Y co_Y_goOnFrom ok_Y_goOnFrom ⟨Nat.le_of_ble_eq_true rfl, Nat.le_of_ble_eq_true rfl⟩ hl.1 rfl (Nat.le_of_ble_eq_true rfl) d_Y_refresh_45 ⟨Nat.le_of_ble_eq_true rfl, Nat.le_of_ble_eq_true rfl⟩ (fun u9 H locs hw hP hD hS => ?_)
            obtain ⟨gsu2, gsr2, rfl, rgsu2, rgsr2, fG⟩ := hw
            have hP : va_P G cls0 [(q 14, .inl (z.2.1, 64, .inl (aI (uZ gse nr 1)))), (q 3, .inr (2, [.ref (q 2), .int (iI self), .ref (q 12), .ref (q 13), .ref (q 14), .int (iI 1)])), (q 12, .inl (z.1, 64, .inl (aI gsu2))), (q 13, .inl (z.1, 64, .inl (aI gsr2))), (q 2, .inr (0, [.ref (q 6), .ref (q 7), .ref (q 8), .ref (q 9), .ref (q 10), .ref (q 11)])), (q 8, .inl (z.1, 66, .inl (aI fsz))), (q 9, .inl (z.1, 1584, .inl (aI frt))), (q 10, .inl (z.1, 1584, .inl (aI fnt))), (q 11, .inl (z.1, 1584, .inl (aI fco)))] H := hP
            have hD : va_D A [(q 14, .inl (z.2.1, 64, .inl (aI (uZ gse nr 1)))), (q 3, .inr (2, [.ref (q 2), .int (iI self), .ref (q 12), .ref (q 13), .ref (q 14), .int (iI 1)])), (q 12, .inl (z.1, 64, .inl (aI gsu2))), (q 13, .inl (z.1, 64, .inl (aI gsr2))), (q 2, .inr (0, [.ref (q 6), .ref (q 7), .ref (q 8), .ref (q 9), .ref (q 10), .ref (q 11)])), (q 8, .inl (z.1, 66, .inl (aI fsz))), (q 9, .inl (z.1, 1584, .inl (aI frt))), (q 10, .inl (z.1, 1584, .inl (aI fnt))), (q 11, .inl (z.1, 1584, .inl (aI fco)))] := hD
            refine lv_iinc (v := iI (rd + 1)) (lv' := [(1, .int (iI (rd + 1))), (2, .int (iI nr)), (0, .ref (q 3))]) hx hb d_Y_refresh_48 hl (k := 2) rfl (iI_add _ _) (by decide) rfl (fun ls hl => ?_)
            refine lv_goto (tgt := 19) hx hb d_Y_refresh_51 (by decide) ?_
            exact ih gsu2 gsr2 (uZ gse nr 1) (rd + 1) (by omega) rgsu2 rgsr2 (uZ_rng rgse (by omega)) (by omega) (DJ_step hAK hself hnr.1 (fun t => by have := rgse t; omega) hnr.2.1 hnr.2.2.1 hnr.2.2.2 hDJ fG) H _ (hP.sub [4, 5, 6, 7, 8, 1, 2, 3, 0] rfl) (hD.sub [4, 5, 6, 7, 8, 1, 2, 3, 0] (by decide) rfl) hS ls (lv_sub hl [2, 0] rfl)
          · skip
            have hP9 : va_P G cls0 [(q 3, .inr (2, [.ref (q 2), .int (iI self), .ref (q 12), .ref (q 13), .ref (q 14), .int (iI 1)])), (q 12, .inl (z.1, 64, .inl (aI gsu))), (q 13, .inl (z.1, 64, .inl (aI gsr))), (q 14, .inl (z.2.1, 64, .inl (aI gse))), (q 2, .inr (0, [.ref (q 6), .ref (q 7), .ref (q 8), .ref (q 9), .ref (q 10), .ref (q 11)])), (q 8, .inl (z.1, 66, .inl (aI fsz))), (q 9, .inl (z.1, 1584, .inl (aI frt))), (q 10, .inl (z.1, 1584, .inl (aI fnt))), (q 11, .inl (z.1, 1584, .inl (aI fco)))] H := hP.sub [6, 7, 5, 8, 0, 1, 2, 3, 4] rfl
            have hD9 : va_D A [(q 3, .inr (2, [.ref (q 2), .int (iI self), .ref (q 12), .ref (q 13), .ref (q 14), .int (iI 1)])), (q 12, .inl (z.1, 64, .inl (aI gsu))), (q 13, .inl (z.1, 64, .inl (aI gsr))), (q 14, .inl (z.2.1, 64, .inl (aI gse))), (q 2, .inr (0, [.ref (q 6), .ref (q 7), .ref (q 8), .ref (q 9), .ref (q 10), .ref (q 11)])), (q 8, .inl (z.1, 66, .inl (aI fsz))), (q 9, .inl (z.1, 1584, .inl (aI frt))), (q 10, .inl (z.1, 1584, .inl (aI fnt))), (q 11, .inl (z.1, 1584, .inl (aI fco)))] := hD.sub [6, 7, 5, 8, 0, 1, 2, 3, 4] (by decide) rfl
            refine rv_vret hx hb hRt hlocks (Nat.le_refl _) (Nat.le_refl _) hP9 hD9 hS d_Y_refresh_35 ?_
            exact ⟨gsu, gsr, gse, rfl, rgsu, rgsr, rgse, (DJ_end hAK hself (fun t t0 t1 tn => (by rcases fN with ⟨-, q⟩ | ⟨q1, -⟩; exact (by have := q t t0 t1; have := rgse t; omega); omega)) hDJ)⟩
    exact L19 ((64 - 0 : Int).toNat + 1) bsu bsr bse 0 (Nat.lt_succ_self _) rbsu rbsr rbse (by omega) (DJ_0 hself b1 b2 b3 b4) H _ (hP.sub [0, 1, 2, 3, 4, 5, 6, 7, 8] rfl) (hD.sub [0, 1, 2, 3, 4, 5, 6, 7, 8] (by decide) rfl) hS ls (lv_sub hl [1, 0] rfl)
  · skip
    have hf1 : fresh = 1 := by omega
    have hP9 : va_P G cls0 [(q 3, .inr (2, [.ref (q 2), .int (iI self), .ref (q 12), .ref (q 13), .ref (q 14), .int (iI fresh)])), (q 12, .inl (z.1, 64, .inl (aI fsu))), (q 13, .inl (z.1, 64, .inl (aI fsr))), (q 14, .inl (z.2.1, 64, .inl (aI fse))), (q 2, .inr (0, [.ref (q 6), .ref (q 7), .ref (q 8), .ref (q 9), .ref (q 10), .ref (q 11)])), (q 8, .inl (z.1, 66, .inl (aI fsz))), (q 9, .inl (z.1, 1584, .inl (aI frt))), (q 10, .inl (z.1, 1584, .inl (aI fnt))), (q 11, .inl (z.1, 1584, .inl (aI fco)))] H := hP.sub [0, 1, 2, 3, 4, 5, 6, 7, 8] rfl
    have hD9 : va_D A [(q 3, .inr (2, [.ref (q 2), .int (iI self), .ref (q 12), .ref (q 13), .ref (q 14), .int (iI fresh)])), (q 12, .inl (z.1, 64, .inl (aI fsu))), (q 13, .inl (z.1, 64, .inl (aI fsr))), (q 14, .inl (z.2.1, 64, .inl (aI fse))), (q 2, .inr (0, [.ref (q 6), .ref (q 7), .ref (q 8), .ref (q 9), .ref (q 10), .ref (q 11)])), (q 8, .inl (z.1, 66, .inl (aI fsz))), (q 9, .inl (z.1, 1584, .inl (aI frt))), (q 10, .inl (z.1, 1584, .inl (aI fnt))), (q 11, .inl (z.1, 1584, .inl (aI fco)))] := hD.sub [0, 1, 2, 3, 4, 5, 6, 7, 8] (by decide) rfl
    refine rv_vret hx hb hRt hlocks (Nat.le_refl _) (Nat.le_refl _) hP9 hD9 hS d_Y_refresh_7 ?_
    exact ⟨fsu, fsr, fse, (by rw [hf1]), rsu, rsr, rse, (hw hf1)⟩
set_option maxHeartbeats 4000000 in
set_option maxRecDepth 100000 in
theorem k_Y_sumOver (l : Launch) (G : va_G) (z : tz3) (q : Nat → Nat) (self : Int) (fresh : Int) (fsu : Int → Int) (fsz : Int → Int) (frt : Int → Int) (fnt : Int → Int) (fco : Int → Int) (r : Int) (net : Int) (rsu : ∀ i : Int, -1 ≤ fsu i ∧ fsu i ≤ 64000) (rsz : ∀ i : Int, 0 ≤ fsz i ∧ fsz i ≤ 24) (rrt : ∀ i : Int, -1 ≤ frt i ∧ frt i ≤ 63) (rnt : ∀ i : Int, 0 ≤ fnt i ∧ fnt i ≤ 63) (rco : ∀ i : Int, 0 ≤ fco i ∧ fco i ≤ 1000) (hAK : AOK fsz frt fco) (hr : 0 ≤ r ∧ r < 64) (hnet : 0 ≤ net ∧ net < 64) : Ki l y_Y_sumOver c_Y_sumOver 4 (some .int) (rmD 2) G z [.ref (q 3), .int (iI r), .int (iI net)] [(q 3, .inr (2, [.ref (q 2), .int (iI self), .ref (q 12), .ref (q 13), .ref (q 14), .int (iI fresh)])), (q 12, .inl (z.1, 64, .inl (aI fsu))), (q 2, .inr (0, [.ref (q 6), .ref (q 7), .ref (q 8), .ref (q 9), .ref (q 10), .ref (q 11)])), (q 8, .inl (z.1, 66, .inl (aI fsz))), (q 9, .inl (z.1, 1584, .inl (aI frt))), (q 10, .inl (z.1, 1584, .inl (aI fnt))), (q 11, .inl (z.1, 1584, .inl (aI fco)))] (fun r9 u9 => ∃ (rv : Int), u9 = [(q 3, .inr (2, [.ref (q 2), .int (iI self), .ref (q 12), .ref (q 13), .ref (q 14), .int (iI fresh)])), (q 12, .inl (z.1, 64, .inl (aI fsu))), (q 2, .inr (0, [.ref (q 6), .ref (q 7), .ref (q 8), .ref (q 9), .ref (q 10), .ref (q 11)])), (q 8, .inl (z.1, 66, .inl (aI fsz))), (q 9, .inl (z.1, 1584, .inl (aI frt))), (q 10, .inl (z.1, 1584, .inl (aI fnt))), (q 11, .inl (z.1, 1584, .inl (aI fco)))] ∧ r9 = iI rv ∧ (-1 ≤ rv ∧ rv ≤ 65000) ∧ (PSO fsz frt fnt fco fsu r net rv)) := by
  refine Ki.of (by decide) (Nat.le_of_ble_eq_true rfl) ?_
  intro p e s m below meth c A hB hP hD ls hl
  obtain ⟨hx, hb, hRt, hml, hown, hlocks, hg, hE, hA, hin⟩ := hB
  have hown : s.vm.findClass R_Y = some m.cls := hown
  have hl : lv_has ls 4 [(0, .ref (q 3)), (1, .int (iI r)), (2, .int (iI net))] := hl
  obtain ⟨H, hH⟩ : ∃ H, H = s.heap := ⟨_, rfl⟩
  have hS : va_S A s.heap H [] := by rw [hH]; exact va_S.rf
  rw [← hH] at hP
  rw [← hH]
  have hP : va_P G cls0 [(q 3, .inr (2, [.ref (q 2), .int (iI self), .ref (q 12), .ref (q 13), .ref (q 14), .int (iI fresh)])), (q 12, .inl (z.1, 64, .inl (aI fsu))), (q 2, .inr (0, [.ref (q 6), .ref (q 7), .ref (q 8), .ref (q 9), .ref (q 10), .ref (q 11)])), (q 8, .inl (z.1, 66, .inl (aI fsz))), (q 9, .inl (z.1, 1584, .inl (aI frt))), (q 10, .inl (z.1, 1584, .inl (aI fnt))), (q 11, .inl (z.1, 1584, .inl (aI fco)))] H := hP
  have hD : va_D A [(q 3, .inr (2, [.ref (q 2), .int (iI self), .ref (q 12), .ref (q 13), .ref (q 14), .int (iI fresh)])), (q 12, .inl (z.1, 64, .inl (aI fsu))), (q 2, .inr (0, [.ref (q 6), .ref (q 7), .ref (q 8), .ref (q 9), .ref (q 10), .ref (q 11)])), (q 8, .inl (z.1, 66, .inl (aI fsz))), (q 9, .inl (z.1, 1584, .inl (aI frt))), (q 10, .inl (z.1, 1584, .inl (aI fnt))), (q 11, .inl (z.1, 1584, .inl (aI fco)))] := hD
  refine lv_aload_n hx hb d_Y_sumOver_0 rfl (lv_at hl 0 rfl) ?_
  refine va_get (D := G) (ci := 2) (v := .ref (q 2)) (C := R_Y) (T := T_Y) (N := 6) hx hb hg iw_Y hown hE.1 hP 0 rfl rfl 0 (by decide) (hg _ fl_Y_22) (fun _ h9 => h9) rfl d_Y_sumOver_1 ?_
  refine lv_iload_n hx hb d_Y_sumOver_4 rfl (lv_at hl 1 rfl) ?_
  refine lv_iconst (v := iI (-1)) hx hb d_Y_sumOver_5 rfl ?_
  refine lv_iload_n hx hb d_Y_sumOver_6 rfl (lv_at hl 2 rfl) ?_
  refine qV_i (As := [.int (iI r), .int (iI ((-1))), .int (iI net)]) (rest := []) (wr := [(q 3, .inr (2, [.ref (q 2), .int (iI self), .ref (q 12), .ref (q 13), .ref (q 14), .int (iI fresh)])), (q 12, .inl (z.1, 64, .inl (aI fsu)))]) hx hb hml hown hg hE hA hS hP hD (k_A_costOf l G z q fsz frt fnt fco r ((-1)) net (by omega) (by assumption) (by assumption) (by assumption) (by assumption) (by omega) (by omega)) [2, 3, 4, 5, 6] [0, 1] rfl rfl (by decide) (by decide) (by decide) (q0 := 0) rfl rfl ml_Y_78 im_A_costOf se_A_costOf in_A co_A_costOf ok_A_costOf ⟨Nat.le_of_ble_eq_true rfl, Nat.le_of_ble_eq_true rfl⟩ hl.1 rfl (Nat.le_of_ble_eq_true rfl) d_Y_sumOver_7 ⟨Nat.le_of_ble_eq_true rfl, Nat.le_of_ble_eq_true rfl⟩ (fun r9 u9 H locs hw hP hD hS => ?_)
  obtain ⟨pc, rfl, rfl, fbc⟩ := hw
  have hP : va_P G cls0 [(q 3, .inr (2, [.ref (q 2), .int (iI self), .ref (q 12), .ref (q 13), .ref (q 14), .int (iI fresh)])), (q 12, .inl (z.1, 64, .inl (aI fsu))), (q 2, .inr (0, [.ref (q 6), .ref (q 7), .ref (q 8), .ref (q 9), .ref (q 10), .ref (q 11)])), (q 8, .inl (z.1, 66, .inl (aI fsz))), (q 9, .inl (z.1, 1584, .inl (aI frt))), (q 10, .inl (z.1, 1584, .inl (aI fnt))), (q 11, .inl (z.1, 1584, .inl (aI fco)))] H := hP
  have hD : va_D A [(q 3, .inr (2, [.ref (q 2), .int (iI self), .ref (q 12), .ref (q 13), .ref (q 14), .int (iI fresh)])), (q 12, .inl (z.1, 64, .inl (aI fsu))), (q 2, .inr (0, [.ref (q 6), .ref (q 7), .ref (q 8), .ref (q 9), .ref (q 10), .ref (q 11)])), (q 8, .inl (z.1, 66, .inl (aI fsz))), (q 9, .inl (z.1, 1584, .inl (aI frt))), (q 10, .inl (z.1, 1584, .inl (aI fnt))), (q 11, .inl (z.1, 1584, .inl (aI fco)))] := hD
  have hpc : -1 ≤ pc ∧ pc ≤ 1000 := by
    rcases fbc with ⟨w, -⟩ | ⟨k, -, -, -, -, w⟩
    · omega
    · rw [w]; have := rco (r * 24 + k); omega
  have hno : pc = -1 → ∀ w : Int, ¬ ps fsz frt fnt fco fsu r net w := by
    rintro hp w ⟨-, k, k0, k1, k2, k3, -⟩
    rcases fbc with ⟨-, q⟩ | ⟨j, j0, j1, -, -, q⟩
    · exact q k k0 k1 ⟨k2, k3⟩
    · have := hAK.2.2 r j hr.1 hr.2 j0 j1; omega
  have hyes : pc ≠ -1 → fsu r ≠ -1 → ps fsz frt fnt fco fsu r net (fsu r + pc) := by
    intro hp hs
    rcases fbc with ⟨q, -⟩ | ⟨j, j0, j1, j2, j3, q⟩
    · exact absurd q hp
    · exact ⟨hs, j, j0, j1, j2, j3, by rw [q]⟩
  clear fbc
  refine lv_istore_n (lv' := [(3, .int (iI pc)), (0, .ref (q 3)), (1, .int (iI r)), (2, .int (iI net))]) hx hb d_Y_sumOver_10 rfl hl (by decide) rfl (fun ls hl => ?_)
  refine lv_aload_n hx hb d_Y_sumOver_11 rfl (lv_at hl 1 rfl) ?_
  refine va_get (D := G) (ci := 2) (v := .ref (q 12)) (C := R_Y) (T := T_Y) (N := 6) hx hb hg iw_Y hown hE.1 hP 0 rfl rfl 2 (by decide) (hg _ fl_Y_9) (fun _ h9 => h9) rfl d_Y_sumOver_12 ?_
  refine lv_iload_n hx hb d_Y_sumOver_15 rfl (lv_at hl 2 rfl) ?_
  refine rv_iald hx hb hE hP 1 rfl (i := r) (by omega) (by omega) (by decide) d_Y_sumOver_16 ?_
  refine lv_iconst (v := iI (-1)) hx hb d_Y_sumOver_17 rfl ?_
  refine rv_icmp_eq (tgt := 26) hx hb d_Y_sumOver_18 (by decide) (by have := rsu r; constructor <;> omega) ⟨by decide, by decide⟩ (fun c_1 => ?_) (fun c_1 => ?_)
  · skip
    refine lv_iconst (v := iI (-1)) hx hb d_Y_sumOver_26 rfl ?_
    refine lv_goto (tgt := 38) hx hb d_Y_sumOver_27 (by decide) ?_
    have hP9 : va_P G cls0 [(q 3, .inr (2, [.ref (q 2), .int (iI self), .ref (q 12), .ref (q 13), .ref (q 14), .int (iI fresh)])), (q 12, .inl (z.1, 64, .inl (aI fsu))), (q 2, .inr (0, [.ref (q 6), .ref (q 7), .ref (q 8), .ref (q 9), .ref (q 10), .ref (q 11)])), (q 8, .inl (z.1, 66, .inl (aI fsz))), (q 9, .inl (z.1, 1584, .inl (aI frt))), (q 10, .inl (z.1, 1584, .inl (aI fnt))), (q 11, .inl (z.1, 1584, .inl (aI fco)))] H := hP.sub [0, 1, 2, 3, 4, 5, 6] rfl
    have hD9 : va_D A [(q 3, .inr (2, [.ref (q 2), .int (iI self), .ref (q 12), .ref (q 13), .ref (q 14), .int (iI fresh)])), (q 12, .inl (z.1, 64, .inl (aI fsu))), (q 2, .inr (0, [.ref (q 6), .ref (q 7), .ref (q 8), .ref (q 9), .ref (q 10), .ref (q 11)])), (q 8, .inl (z.1, 66, .inl (aI fsz))), (q 9, .inl (z.1, 1584, .inl (aI frt))), (q 10, .inl (z.1, 1584, .inl (aI fnt))), (q 11, .inl (z.1, 1584, .inl (aI fco)))] := hD.sub [0, 1, 2, 3, 4, 5, 6] (by decide) rfl
    refine rv_iret hx hb hRt (nar_int _) hlocks (Nat.le_refl _) (Nat.le_refl _) hP9 hD9 hS d_Y_sumOver_38 ?_
    exact ⟨((-1)), rfl, rfl, (by have := rsu r; omega), (by first | exact Or.inl ⟨rfl, fun w q => q.1 (by omega)⟩ | exact Or.inl ⟨rfl, hno (by omega)⟩ | exact Or.inr (hyes (by omega) (by omega)))⟩
  · skip
    refine lv_iload_n hx hb d_Y_sumOver_21 rfl (lv_at hl 0 rfl) ?_
    refine lv_iconst (v := iI (-1)) hx hb d_Y_sumOver_22 rfl ?_
    refine rv_icmp_ne (tgt := 30) hx hb d_Y_sumOver_23 (by decide) (by constructor <;> omega) ⟨by decide, by decide⟩ (fun c_2 => ?_) (fun c_2 => ?_)
    · skip
      refine lv_aload_n hx hb d_Y_sumOver_30 rfl (lv_at hl 1 rfl) ?_
      refine va_get (D := G) (ci := 2) (v := .ref (q 12)) (C := R_Y) (T := T_Y) (N := 6) hx hb hg iw_Y hown hE.1 hP 0 rfl rfl 2 (by decide) (hg _ fl_Y_9) (fun _ h9 => h9) rfl d_Y_sumOver_31 ?_
      refine lv_iload_n hx hb d_Y_sumOver_34 rfl (lv_at hl 2 rfl) ?_
      refine rv_iald hx hb hE hP 1 rfl (i := r) (by omega) (by omega) (by decide) d_Y_sumOver_35 ?_
      refine lv_iload_n hx hb d_Y_sumOver_36 rfl (lv_at hl 0 rfl) ?_
      refine rv_iadd hx hb d_Y_sumOver_37 ?_
      have hP9 : va_P G cls0 [(q 3, .inr (2, [.ref (q 2), .int (iI self), .ref (q 12), .ref (q 13), .ref (q 14), .int (iI fresh)])), (q 12, .inl (z.1, 64, .inl (aI fsu))), (q 2, .inr (0, [.ref (q 6), .ref (q 7), .ref (q 8), .ref (q 9), .ref (q 10), .ref (q 11)])), (q 8, .inl (z.1, 66, .inl (aI fsz))), (q 9, .inl (z.1, 1584, .inl (aI frt))), (q 10, .inl (z.1, 1584, .inl (aI fnt))), (q 11, .inl (z.1, 1584, .inl (aI fco)))] H := hP.sub [0, 1, 2, 3, 4, 5, 6] rfl
      have hD9 : va_D A [(q 3, .inr (2, [.ref (q 2), .int (iI self), .ref (q 12), .ref (q 13), .ref (q 14), .int (iI fresh)])), (q 12, .inl (z.1, 64, .inl (aI fsu))), (q 2, .inr (0, [.ref (q 6), .ref (q 7), .ref (q 8), .ref (q 9), .ref (q 10), .ref (q 11)])), (q 8, .inl (z.1, 66, .inl (aI fsz))), (q 9, .inl (z.1, 1584, .inl (aI frt))), (q 10, .inl (z.1, 1584, .inl (aI fnt))), (q 11, .inl (z.1, 1584, .inl (aI fco)))] := hD.sub [0, 1, 2, 3, 4, 5, 6] (by decide) rfl
      refine rv_iret hx hb hRt (nar_int _) hlocks (Nat.le_refl _) (Nat.le_refl _) hP9 hD9 hS d_Y_sumOver_38 ?_
      exact ⟨((fsu r) + pc), rfl, rfl, (by have := rsu r; omega), (by first | exact Or.inl ⟨rfl, fun w q => q.1 (by omega)⟩ | exact Or.inl ⟨rfl, hno (by omega)⟩ | exact Or.inr (hyes (by omega) (by omega)))⟩
    · skip
      refine lv_iconst (v := iI (-1)) hx hb d_Y_sumOver_26 rfl ?_
      refine lv_goto (tgt := 38) hx hb d_Y_sumOver_27 (by decide) ?_
      have hP9 : va_P G cls0 [(q 3, .inr (2, [.ref (q 2), .int (iI self), .ref (q 12), .ref (q 13), .ref (q 14), .int (iI fresh)])), (q 12, .inl (z.1, 64, .inl (aI fsu))), (q 2, .inr (0, [.ref (q 6), .ref (q 7), .ref (q 8), .ref (q 9), .ref (q 10), .ref (q 11)])), (q 8, .inl (z.1, 66, .inl (aI fsz))), (q 9, .inl (z.1, 1584, .inl (aI frt))), (q 10, .inl (z.1, 1584, .inl (aI fnt))), (q 11, .inl (z.1, 1584, .inl (aI fco)))] H := hP.sub [0, 1, 2, 3, 4, 5, 6] rfl
      have hD9 : va_D A [(q 3, .inr (2, [.ref (q 2), .int (iI self), .ref (q 12), .ref (q 13), .ref (q 14), .int (iI fresh)])), (q 12, .inl (z.1, 64, .inl (aI fsu))), (q 2, .inr (0, [.ref (q 6), .ref (q 7), .ref (q 8), .ref (q 9), .ref (q 10), .ref (q 11)])), (q 8, .inl (z.1, 66, .inl (aI fsz))), (q 9, .inl (z.1, 1584, .inl (aI frt))), (q 10, .inl (z.1, 1584, .inl (aI fnt))), (q 11, .inl (z.1, 1584, .inl (aI fco)))] := hD.sub [0, 1, 2, 3, 4, 5, 6] (by decide) rfl
      refine rv_iret hx hb hRt (nar_int _) hlocks (Nat.le_refl _) (Nat.le_refl _) hP9 hD9 hS d_Y_sumOver_38 ?_
      exact ⟨((-1)), rfl, rfl, (by have := rsu r; omega), (by first | exact Or.inl ⟨rfl, fun w q => q.1 (by omega)⟩ | exact Or.inl ⟨rfl, hno (by omega)⟩ | exact Or.inr (hyes (by omega) (by omega)))⟩
set_option maxHeartbeats 4000000 in
set_option maxRecDepth 100000 in
theorem k_Y_leastTo (l : Launch) (G : va_G) (z : tz3) (q : Nat → Nat) (self : Int) (fresh : Int) (fsu : Int → Int) (fsz : Int → Int) (frt : Int → Int) (fnt : Int → Int) (fco : Int → Int) (net : Int) (rsu : ∀ i : Int, -1 ≤ fsu i ∧ fsu i ≤ 64000) (rsz : ∀ i : Int, 0 ≤ fsz i ∧ fsz i ≤ 24) (rrt : ∀ i : Int, -1 ≤ frt i ∧ frt i ≤ 63) (rnt : ∀ i : Int, 0 ≤ fnt i ∧ fnt i ≤ 63) (rco : ∀ i : Int, 0 ≤ fco i ∧ fco i ≤ 1000) (hAK : AOK fsz frt fco) (hUQ : UNQ fsz frt fnt) (hnet : 0 ≤ net ∧ net < 64) : Ki l y_Y_leastTo c_Y_leastTo 5 (some .int) (rmD 3) G z [.ref (q 3), .int (iI net)] [(q 3, .inr (2, [.ref (q 2), .int (iI self), .ref (q 12), .ref (q 13), .ref (q 14), .int (iI fresh)])), (q 12, .inl (z.1, 64, .inl (aI fsu))), (q 2, .inr (0, [.ref (q 6), .ref (q 7), .ref (q 8), .ref (q 9), .ref (q 10), .ref (q 11)])), (q 8, .inl (z.1, 66, .inl (aI fsz))), (q 9, .inl (z.1, 1584, .inl (aI frt))), (q 10, .inl (z.1, 1584, .inl (aI fnt))), (q 11, .inl (z.1, 1584, .inl (aI fco)))] (fun r9 u9 => ∃ (rv : Int), u9 = [(q 3, .inr (2, [.ref (q 2), .int (iI self), .ref (q 12), .ref (q 13), .ref (q 14), .int (iI fresh)])), (q 12, .inl (z.1, 64, .inl (aI fsu))), (q 2, .inr (0, [.ref (q 6), .ref (q 7), .ref (q 8), .ref (q 9), .ref (q 10), .ref (q 11)])), (q 8, .inl (z.1, 66, .inl (aI fsz))), (q 9, .inl (z.1, 1584, .inl (aI frt))), (q 10, .inl (z.1, 1584, .inl (aI fnt))), (q 11, .inl (z.1, 1584, .inl (aI fco)))] ∧ r9 = iI rv ∧ (-1 ≤ rv ∧ rv ≤ 65000) ∧ (LST fsz frt fnt fco fsu net 64 rv)) := by
  refine Ki.of (by decide) (Nat.le_of_ble_eq_true rfl) ?_
  intro p e s m below meth c A hB hP hD ls hl
  obtain ⟨hx, hb, hRt, hml, hown, hlocks, hg, hE, hA, hin⟩ := hB
  have hown : s.vm.findClass R_Y = some m.cls := hown
  have hl : lv_has ls 5 [(0, .ref (q 3)), (1, .int (iI net))] := hl
  obtain ⟨H, hH⟩ : ∃ H, H = s.heap := ⟨_, rfl⟩
  have hS : va_S A s.heap H [] := by rw [hH]; exact va_S.rf
  rw [← hH] at hP
  rw [← hH]
  have hP : va_P G cls0 [(q 3, .inr (2, [.ref (q 2), .int (iI self), .ref (q 12), .ref (q 13), .ref (q 14), .int (iI fresh)])), (q 12, .inl (z.1, 64, .inl (aI fsu))), (q 2, .inr (0, [.ref (q 6), .ref (q 7), .ref (q 8), .ref (q 9), .ref (q 10), .ref (q 11)])), (q 8, .inl (z.1, 66, .inl (aI fsz))), (q 9, .inl (z.1, 1584, .inl (aI frt))), (q 10, .inl (z.1, 1584, .inl (aI fnt))), (q 11, .inl (z.1, 1584, .inl (aI fco)))] H := hP
  have hD : va_D A [(q 3, .inr (2, [.ref (q 2), .int (iI self), .ref (q 12), .ref (q 13), .ref (q 14), .int (iI fresh)])), (q 12, .inl (z.1, 64, .inl (aI fsu))), (q 2, .inr (0, [.ref (q 6), .ref (q 7), .ref (q 8), .ref (q 9), .ref (q 10), .ref (q 11)])), (q 8, .inl (z.1, 66, .inl (aI fsz))), (q 9, .inl (z.1, 1584, .inl (aI frt))), (q 10, .inl (z.1, 1584, .inl (aI fnt))), (q 11, .inl (z.1, 1584, .inl (aI fco)))] := hD
  refine lv_iconst (v := iI (-1)) hx hb d_Y_leastTo_0 rfl ?_
  refine lv_istore_n (lv' := [(2, .int (iI ((-1)))), (0, .ref (q 3)), (1, .int (iI net))]) hx hb d_Y_leastTo_1 rfl hl (by decide) rfl (fun ls hl => ?_)
  refine lv_iconst (v := iI 0) hx hb d_Y_leastTo_2 rfl ?_
  refine lv_istore_n (lv' := [(3, .int (iI 0)), (2, .int (iI ((-1)))), (0, .ref (q 3)), (1, .int (iI net))]) hx hb d_Y_leastTo_3 rfl hl (by decide) rfl (fun ls hl => ?_)
  have L4 : ∀ n9 : Nat, ∀ (L : Int) (i : Int), (64 - i : Int).toNat < n9 → (0 ≤ i ∧ i ≤ 64 ∧ -1 ≤ L ∧ L ≤ 65000) → (LST fsz frt fnt fco fsu net i L) → ∀ (H : Heap) (locs : List Loc), va_P G cls0 [(q 3, .inr (2, [.ref (q 2), .int (iI self), .ref (q 12), .ref (q 13), .ref (q 14), .int (iI fresh)])), (q 12, .inl (z.1, 64, .inl (aI fsu))), (q 2, .inr (0, [.ref (q 6), .ref (q 7), .ref (q 8), .ref (q 9), .ref (q 10), .ref (q 11)])), (q 8, .inl (z.1, 66, .inl (aI fsz))), (q 9, .inl (z.1, 1584, .inl (aI frt))), (q 10, .inl (z.1, 1584, .inl (aI fnt))), (q 11, .inl (z.1, 1584, .inl (aI fco)))] H → va_D A [(q 3, .inr (2, [.ref (q 2), .int (iI self), .ref (q 12), .ref (q 13), .ref (q 14), .int (iI fresh)])), (q 12, .inl (z.1, 64, .inl (aI fsu))), (q 2, .inr (0, [.ref (q 6), .ref (q 7), .ref (q 8), .ref (q 9), .ref (q 10), .ref (q 11)])), (q 8, .inl (z.1, 66, .inl (aI fsz))), (q 9, .inl (z.1, 1584, .inl (aI frt))), (q 10, .inl (z.1, 1584, .inl (aI fnt))), (q 11, .inl (z.1, 1584, .inl (aI fco)))] → va_S A s.heap H locs → ∀ ls : Array Slot, lv_has ls 5 [(0, .ref (q 3)), (1, .int (iI net)), (2, .int (iI L)), (3, .int (iI i))] → W p l e (rmD 3) s m [.ref (q 3), .int (iI net)].toArray below meth c H locs 0 0 (Zi below [.ref (q 3), .int (iI net)].toArray s (rmD 3) G A (fun r9 u9 => ∃ (rv : Int), u9 = [(q 3, .inr (2, [.ref (q 2), .int (iI self), .ref (q 12), .ref (q 13), .ref (q 14), .int (iI fresh)])), (q 12, .inl (z.1, 64, .inl (aI fsu))), (q 2, .inr (0, [.ref (q 6), .ref (q 7), .ref (q 8), .ref (q 9), .ref (q 10), .ref (q 11)])), (q 8, .inl (z.1, 66, .inl (aI fsz))), (q 9, .inl (z.1, 1584, .inl (aI frt))), (q 10, .inl (z.1, 1584, .inl (aI fnt))), (q 11, .inl (z.1, 1584, .inl (aI fco)))] ∧ r9 = iI rv ∧ (-1 ≤ rv ∧ rv ≤ 65000) ∧ (LST fsz frt fnt fco fsu net 64 rv))) (F0 m 4 ls []) := by
    intro n9
    induction n9 with
    | zero => intro L i hmu; exact absurd hmu (Nat.not_lt_zero _)
    | succ n9 ih =>
      intro L i hmu hi hL H locs hP hD hS ls hl
      refine lv_iload_n hx hb d_Y_leastTo_4 rfl (lv_at hl 3 rfl) ?_
      refine lv_bipush (v := iI 64) hx hb d_Y_leastTo_5 (by decide +kernel) ?_
      refine rv_icmp_ge (tgt := 44) hx hb d_Y_leastTo_7 (by decide) (by constructor <;> omega) ⟨by decide, by decide⟩ (fun c_1 => ?_) (fun c_1 => ?_)
      · skip
        refine lv_iload_n hx hb d_Y_leastTo_44 rfl (lv_at hl 2 rfl) ?_
        have hP9 : va_P G cls0 [(q 3, .inr (2, [.ref (q 2), .int (iI self), .ref (q 12), .ref (q 13), .ref (q 14), .int (iI fresh)])), (q 12, .inl (z.1, 64, .inl (aI fsu))), (q 2, .inr (0, [.ref (q 6), .ref (q 7), .ref (q 8), .ref (q 9), .ref (q 10), .ref (q 11)])), (q 8, .inl (z.1, 66, .inl (aI fsz))), (q 9, .inl (z.1, 1584, .inl (aI frt))), (q 10, .inl (z.1, 1584, .inl (aI fnt))), (q 11, .inl (z.1, 1584, .inl (aI fco)))] H := hP.sub [0, 1, 2, 3, 4, 5, 6] rfl
        have hD9 : va_D A [(q 3, .inr (2, [.ref (q 2), .int (iI self), .ref (q 12), .ref (q 13), .ref (q 14), .int (iI fresh)])), (q 12, .inl (z.1, 64, .inl (aI fsu))), (q 2, .inr (0, [.ref (q 6), .ref (q 7), .ref (q 8), .ref (q 9), .ref (q 10), .ref (q 11)])), (q 8, .inl (z.1, 66, .inl (aI fsz))), (q 9, .inl (z.1, 1584, .inl (aI frt))), (q 10, .inl (z.1, 1584, .inl (aI fnt))), (q 11, .inl (z.1, 1584, .inl (aI fco)))] := hD.sub [0, 1, 2, 3, 4, 5, 6] (by decide) rfl
        refine rv_iret hx hb hRt (nar_int _) hlocks (Nat.le_refl _) (Nat.le_refl _) hP9 hD9 hS d_Y_leastTo_45 ?_
        exact ⟨L, rfl, rfl, (by omega), (by rw [show (64 : Int) = i by omega]; exact hL)⟩
      · skip
        refine lv_aload_n hx hb d_Y_leastTo_10 rfl (lv_at hl 0 rfl) ?_
        refine lv_iload_n hx hb d_Y_leastTo_11 rfl (lv_at hl 3 rfl) ?_
        refine lv_iload_n hx hb d_Y_leastTo_12 rfl (lv_at hl 1 rfl) ?_
        refine qV_i (As := [.int (iI i), .int (iI net)]) (rest := []) (wr := []) hx hb hml hown hg hE hA hS hP hD (k_Y_sumOver l G z q self fresh fsu fsz frt fnt fco i net (by assumption) (by assumption) (by assumption) (by assumption) (by assumption) (by assumption) (by omega) (by omega)) [0, 1, 2, 3, 4, 5, 6] [] rfl rfl (by decide) (by decide) (by decide) (q0 := 0) rfl rfl ml_Y_71 im_Y_sumOver se_Y_sumOver in_Y co_Y_sumOver ok_Y_sumOver ⟨Nat.le_of_ble_eq_true rfl, Nat.le_of_ble_eq_true rfl⟩ hl.1 rfl (Nat.le_of_ble_eq_true rfl) d_Y_leastTo_13 ⟨Nat.le_of_ble_eq_true rfl, Nat.le_of_ble_eq_true rfl⟩ (fun r9 u9 H locs hw hP hD hS => ?_)
        obtain ⟨v, rfl, rfl, fv, fP⟩ := hw
        have hP : va_P G cls0 [(q 3, .inr (2, [.ref (q 2), .int (iI self), .ref (q 12), .ref (q 13), .ref (q 14), .int (iI fresh)])), (q 12, .inl (z.1, 64, .inl (aI fsu))), (q 2, .inr (0, [.ref (q 6), .ref (q 7), .ref (q 8), .ref (q 9), .ref (q 10), .ref (q 11)])), (q 8, .inl (z.1, 66, .inl (aI fsz))), (q 9, .inl (z.1, 1584, .inl (aI frt))), (q 10, .inl (z.1, 1584, .inl (aI fnt))), (q 11, .inl (z.1, 1584, .inl (aI fco)))] H := hP
        have hD : va_D A [(q 3, .inr (2, [.ref (q 2), .int (iI self), .ref (q 12), .ref (q 13), .ref (q 14), .int (iI fresh)])), (q 12, .inl (z.1, 64, .inl (aI fsu))), (q 2, .inr (0, [.ref (q 6), .ref (q 7), .ref (q 8), .ref (q 9), .ref (q 10), .ref (q 11)])), (q 8, .inl (z.1, 66, .inl (aI fsz))), (q 9, .inl (z.1, 1584, .inl (aI frt))), (q 10, .inl (z.1, 1584, .inl (aI fnt))), (q 11, .inl (z.1, 1584, .inl (aI fco)))] := hD
        have hi64 : 0 ≤ i ∧ i < 64 := by omega
        have hnm : ¬ ps fsz frt fnt fco fsu i net (-1) := fun q => by have := ps_pos hAK rsu hi64.1 hi64.2 q; omega
        have hps : v ≠ -1 → ps fsz frt fnt fco fsu i net v := fun q => by rcases fP with ⟨w, -⟩ | w; exact absurd w q; exact w
        refine lv_istore (lv' := [(4, .int (iI v)), (0, .ref (q 3)), (1, .int (iI net)), (2, .int (iI L)), (3, .int (iI i))]) hx hb d_Y_leastTo_16 hl (by decide) rfl (fun ls hl => ?_)
        refine lv_iload hx hb d_Y_leastTo_18 (lv_at hl 0 rfl) ?_
        refine lv_iconst (v := iI (-1)) hx hb d_Y_leastTo_20 rfl ?_
        refine rv_icmp_eq (tgt := 38) hx hb d_Y_leastTo_21 (by decide) (by constructor <;> omega) ⟨by decide, by decide⟩ (fun c_2 => ?_) (fun c_2 => ?_)
        · skip
          have hstep : LST fsz frt fnt fco fsu net (i + 1) L := LST_none hL fP c_2 hnm
          refine lv_iinc (v := iI (i + 1)) (lv' := [(3, .int (iI (i + 1))), (4, .int (iI v)), (0, .ref (q 3)), (1, .int (iI net)), (2, .int (iI L))]) hx hb d_Y_leastTo_38 hl (k := 4) rfl (iI_add _ _) (by decide) rfl (fun ls hl => ?_)
          refine lv_goto (tgt := 4) hx hb d_Y_leastTo_41 (by decide) ?_
          exact ih _ (i + 1) (by omega) (by omega) hstep H _ (hP.sub [0, 1, 2, 3, 4, 5, 6] rfl) (hD.sub [0, 1, 2, 3, 4, 5, 6] (by decide) rfl) hS ls (lv_sub hl [2, 3, 4, 0] rfl)
        · skip
          refine lv_iload_n hx hb d_Y_leastTo_24 rfl (lv_at hl 3 rfl) ?_
          refine lv_iconst (v := iI (-1)) hx hb d_Y_leastTo_25 rfl ?_
          refine rv_icmp_eq (tgt := 35) hx hb d_Y_leastTo_26 (by decide) (by constructor <;> omega) ⟨by decide, by decide⟩ (fun c_3 => ?_) (fun c_3 => ?_)
          · skip
            have hstep : LST fsz frt fnt fco fsu net (i + 1) v := LST_take hUQ hi64 hL (hps (by omega)) (by omega) (Or.inl c_3)
            refine lv_iload hx hb d_Y_leastTo_35 (lv_at hl 0 rfl) ?_
            refine lv_istore_n (lv' := [(2, .int (iI v)), (4, .int (iI v)), (0, .ref (q 3)), (1, .int (iI net)), (3, .int (iI i))]) hx hb d_Y_leastTo_37 rfl hl (by decide) rfl (fun ls hl => ?_)
            refine lv_iinc (v := iI (i + 1)) (lv' := [(3, .int (iI (i + 1))), (2, .int (iI v)), (4, .int (iI v)), (0, .ref (q 3)), (1, .int (iI net))]) hx hb d_Y_leastTo_38 hl (k := 4) rfl (iI_add _ _) (by decide) rfl (fun ls hl => ?_)
            refine lv_goto (tgt := 4) hx hb d_Y_leastTo_41 (by decide) ?_
            exact ih _ (i + 1) (by omega) (by omega) hstep H _ (hP.sub [0, 1, 2, 3, 4, 5, 6] rfl) (hD.sub [0, 1, 2, 3, 4, 5, 6] (by decide) rfl) hS ls (lv_sub hl [3, 4, 1, 0] rfl)
          · skip
            refine lv_iload hx hb d_Y_leastTo_29 (lv_at hl 0 rfl) ?_
            refine lv_iload_n hx hb d_Y_leastTo_31 rfl (lv_at hl 3 rfl) ?_
            refine rv_icmp_ge (tgt := 38) hx hb d_Y_leastTo_32 (by decide) (by constructor <;> omega) (by constructor <;> omega) (fun c_4 => ?_) (fun c_4 => ?_)
            · skip
              have hstep : LST fsz frt fnt fco fsu net (i + 1) L := LST_keep hUQ hi64 hL (hps (by omega)) (by omega) (by omega)
              refine lv_iinc (v := iI (i + 1)) (lv' := [(3, .int (iI (i + 1))), (4, .int (iI v)), (0, .ref (q 3)), (1, .int (iI net)), (2, .int (iI L))]) hx hb d_Y_leastTo_38 hl (k := 4) rfl (iI_add _ _) (by decide) rfl (fun ls hl => ?_)
              refine lv_goto (tgt := 4) hx hb d_Y_leastTo_41 (by decide) ?_
              exact ih _ (i + 1) (by omega) (by omega) hstep H _ (hP.sub [0, 1, 2, 3, 4, 5, 6] rfl) (hD.sub [0, 1, 2, 3, 4, 5, 6] (by decide) rfl) hS ls (lv_sub hl [2, 3, 4, 0] rfl)
            · skip
              have hstep : LST fsz frt fnt fco fsu net (i + 1) v := LST_take hUQ hi64 hL (hps (by omega)) (by omega) (Or.inr (by omega))
              refine lv_iload hx hb d_Y_leastTo_35 (lv_at hl 0 rfl) ?_
              refine lv_istore_n (lv' := [(2, .int (iI v)), (4, .int (iI v)), (0, .ref (q 3)), (1, .int (iI net)), (3, .int (iI i))]) hx hb d_Y_leastTo_37 rfl hl (by decide) rfl (fun ls hl => ?_)
              refine lv_iinc (v := iI (i + 1)) (lv' := [(3, .int (iI (i + 1))), (2, .int (iI v)), (4, .int (iI v)), (0, .ref (q 3)), (1, .int (iI net))]) hx hb d_Y_leastTo_38 hl (k := 4) rfl (iI_add _ _) (by decide) rfl (fun ls hl => ?_)
              refine lv_goto (tgt := 4) hx hb d_Y_leastTo_41 (by decide) ?_
              exact ih _ (i + 1) (by omega) (by omega) hstep H _ (hP.sub [0, 1, 2, 3, 4, 5, 6] rfl) (hD.sub [0, 1, 2, 3, 4, 5, 6] (by decide) rfl) hS ls (lv_sub hl [3, 4, 1, 0] rfl)
  exact L4 ((64 - 0 : Int).toNat + 1) (-1) 0 (Nat.lt_succ_self _) (by omega) LST_0 H _ (hP.sub [0, 1, 2, 3, 4, 5, 6] rfl) (hD.sub [0, 1, 2, 3, 4, 5, 6] (by decide) rfl) hS ls (lv_sub hl [2, 3, 1, 0] rfl)
set_option maxHeartbeats 4000000 in
set_option maxRecDepth 100000 in
theorem k_Y_startsTo (l : Launch) (G : va_G) (z : tz3) (q : Nat → Nat) (self : Int) (fresh : Int) (fsu : Int → Int) (fsr : Int → Int) (fsz : Int → Int) (frt : Int → Int) (fnt : Int → Int) (fco : Int → Int) (net : Int) (rsu : ∀ i : Int, -1 ≤ fsu i ∧ fsu i ≤ 64000) (rsr : ∀ i : Int, 0 ≤ fsr i ∧ fsr i ≤ 16777215) (rsz : ∀ i : Int, 0 ≤ fsz i ∧ fsz i ≤ 24) (rrt : ∀ i : Int, -1 ≤ frt i ∧ frt i ≤ 63) (rnt : ∀ i : Int, 0 ≤ fnt i ∧ fnt i ≤ 63) (rco : ∀ i : Int, 0 ≤ fco i ∧ fco i ≤ 1000) (hAK : AOK fsz frt fco) (hUQ : UNQ fsz frt fnt) (hself : 0 ≤ self ∧ self < 64) (hnet : 0 ≤ net ∧ net < 64) : Ki l y_Y_startsTo c_Y_startsTo 5 (some .int) (rmD 4) G z [.ref (q 3), .int (iI net)] [(q 3, .inr (2, [.ref (q 2), .int (iI self), .ref (q 12), .ref (q 13), .ref (q 14), .int (iI fresh)])), (q 12, .inl (z.1, 64, .inl (aI fsu))), (q 13, .inl (z.1, 64, .inl (aI fsr))), (q 2, .inr (0, [.ref (q 6), .ref (q 7), .ref (q 8), .ref (q 9), .ref (q 10), .ref (q 11)])), (q 8, .inl (z.1, 66, .inl (aI fsz))), (q 9, .inl (z.1, 1584, .inl (aI frt))), (q 10, .inl (z.1, 1584, .inl (aI fnt))), (q 11, .inl (z.1, 1584, .inl (aI fco)))] (fun r9 u9 => ∃ (rv : Int), u9 = [(q 3, .inr (2, [.ref (q 2), .int (iI self), .ref (q 12), .ref (q 13), .ref (q 14), .int (iI fresh)])), (q 12, .inl (z.1, 64, .inl (aI fsu))), (q 13, .inl (z.1, 64, .inl (aI fsr))), (q 2, .inr (0, [.ref (q 6), .ref (q 7), .ref (q 8), .ref (q 9), .ref (q 10), .ref (q 11)])), (q 8, .inl (z.1, 66, .inl (aI fsz))), (q 9, .inl (z.1, 1584, .inl (aI frt))), (q 10, .inl (z.1, 1584, .inl (aI fnt))), (q 11, .inl (z.1, 1584, .inl (aI fco)))] ∧ r9 = iI rv ∧ (0 ≤ rv ∧ rv ≤ 16777215) ∧ (∃ L : Int, LST fsz frt fnt fco fsu net 64 L ∧ (((L = -1 ∨ ps fsz frt fnt fco fsu self net L) ∧ rv = 0) ∨ (¬ (L = -1 ∨ ps fsz frt fnt fco fsu self net L) ∧ MSK fsz frt fnt fco fsu fsr net L 64 rv)))) := by
  refine Ki.of (by decide) (Nat.le_of_ble_eq_true rfl) ?_
  intro p e s m below meth c A hB hP hD ls hl
  obtain ⟨hx, hb, hRt, hml, hown, hlocks, hg, hE, hA, hin⟩ := hB
  have hown : s.vm.findClass R_Y = some m.cls := hown
  have hl : lv_has ls 5 [(0, .ref (q 3)), (1, .int (iI net))] := hl
  obtain ⟨H, hH⟩ : ∃ H, H = s.heap := ⟨_, rfl⟩
  have hS : va_S A s.heap H [] := by rw [hH]; exact va_S.rf
  rw [← hH] at hP
  rw [← hH]
  have hP : va_P G cls0 [(q 3, .inr (2, [.ref (q 2), .int (iI self), .ref (q 12), .ref (q 13), .ref (q 14), .int (iI fresh)])), (q 12, .inl (z.1, 64, .inl (aI fsu))), (q 13, .inl (z.1, 64, .inl (aI fsr))), (q 2, .inr (0, [.ref (q 6), .ref (q 7), .ref (q 8), .ref (q 9), .ref (q 10), .ref (q 11)])), (q 8, .inl (z.1, 66, .inl (aI fsz))), (q 9, .inl (z.1, 1584, .inl (aI frt))), (q 10, .inl (z.1, 1584, .inl (aI fnt))), (q 11, .inl (z.1, 1584, .inl (aI fco)))] H := hP
  have hD : va_D A [(q 3, .inr (2, [.ref (q 2), .int (iI self), .ref (q 12), .ref (q 13), .ref (q 14), .int (iI fresh)])), (q 12, .inl (z.1, 64, .inl (aI fsu))), (q 13, .inl (z.1, 64, .inl (aI fsr))), (q 2, .inr (0, [.ref (q 6), .ref (q 7), .ref (q 8), .ref (q 9), .ref (q 10), .ref (q 11)])), (q 8, .inl (z.1, 66, .inl (aI fsz))), (q 9, .inl (z.1, 1584, .inl (aI frt))), (q 10, .inl (z.1, 1584, .inl (aI fnt))), (q 11, .inl (z.1, 1584, .inl (aI fco)))] := hD
  refine lv_aload_n hx hb d_Y_startsTo_0 rfl (lv_at hl 0 rfl) ?_
  refine lv_iload_n hx hb d_Y_startsTo_1 rfl (lv_at hl 1 rfl) ?_
  refine qV_i (As := [.int (iI net)]) (rest := []) (wr := [(q 13, .inl (z.1, 64, .inl (aI fsr)))]) hx hb hml hown hg hE hA hS hP hD (k_Y_leastTo l G z q self fresh fsu fsz frt fnt fco net (by assumption) (by assumption) (by assumption) (by assumption) (by assumption) (by assumption) (by assumption) (by omega)) [0, 1, 3, 4, 5, 6, 7] [2] rfl rfl (by decide) (by decide) (by decide) (q0 := 0) rfl rfl ml_Y_74 im_Y_leastTo se_Y_leastTo in_Y co_Y_leastTo ok_Y_leastTo ⟨Nat.le_of_ble_eq_true rfl, Nat.le_of_ble_eq_true rfl⟩ hl.1 rfl (Nat.le_of_ble_eq_true rfl) d_Y_startsTo_2 ⟨Nat.le_of_ble_eq_true rfl, Nat.le_of_ble_eq_true rfl⟩ (fun r9 u9 H locs hw hP hD hS => ?_)
  obtain ⟨L, rfl, rfl, fvL, fL⟩ := hw
  have hP : va_P G cls0 [(q 13, .inl (z.1, 64, .inl (aI fsr))), (q 3, .inr (2, [.ref (q 2), .int (iI self), .ref (q 12), .ref (q 13), .ref (q 14), .int (iI fresh)])), (q 12, .inl (z.1, 64, .inl (aI fsu))), (q 2, .inr (0, [.ref (q 6), .ref (q 7), .ref (q 8), .ref (q 9), .ref (q 10), .ref (q 11)])), (q 8, .inl (z.1, 66, .inl (aI fsz))), (q 9, .inl (z.1, 1584, .inl (aI frt))), (q 10, .inl (z.1, 1584, .inl (aI fnt))), (q 11, .inl (z.1, 1584, .inl (aI fco)))] H := hP
  have hD : va_D A [(q 13, .inl (z.1, 64, .inl (aI fsr))), (q 3, .inr (2, [.ref (q 2), .int (iI self), .ref (q 12), .ref (q 13), .ref (q 14), .int (iI fresh)])), (q 12, .inl (z.1, 64, .inl (aI fsu))), (q 2, .inr (0, [.ref (q 6), .ref (q 7), .ref (q 8), .ref (q 9), .ref (q 10), .ref (q 11)])), (q 8, .inl (z.1, 66, .inl (aI fsz))), (q 9, .inl (z.1, 1584, .inl (aI frt))), (q 10, .inl (z.1, 1584, .inl (aI fnt))), (q 11, .inl (z.1, 1584, .inl (aI fco)))] := hD
  refine lv_istore_n (lv' := [(2, .int (iI L)), (0, .ref (q 3)), (1, .int (iI net))]) hx hb d_Y_startsTo_5 rfl hl (by decide) rfl (fun ls hl => ?_)
  refine lv_iload_n hx hb d_Y_startsTo_6 rfl (lv_at hl 0 rfl) ?_
  refine lv_iconst (v := iI (-1)) hx hb d_Y_startsTo_7 rfl ?_
  refine rv_icmp_eq (tgt := 24) hx hb d_Y_startsTo_8 (by decide) (by constructor <;> omega) ⟨by decide, by decide⟩ (fun c_1 => ?_) (fun c_1 => ?_)
  · skip
    have hz : L = -1 ∨ ps fsz frt fnt fco fsu self net L := Or.inl c_1
    refine lv_iconst (v := iI 0) hx hb d_Y_startsTo_24 rfl ?_
    have hP9 : va_P G cls0 [(q 3, .inr (2, [.ref (q 2), .int (iI self), .ref (q 12), .ref (q 13), .ref (q 14), .int (iI fresh)])), (q 12, .inl (z.1, 64, .inl (aI fsu))), (q 13, .inl (z.1, 64, .inl (aI fsr))), (q 2, .inr (0, [.ref (q 6), .ref (q 7), .ref (q 8), .ref (q 9), .ref (q 10), .ref (q 11)])), (q 8, .inl (z.1, 66, .inl (aI fsz))), (q 9, .inl (z.1, 1584, .inl (aI frt))), (q 10, .inl (z.1, 1584, .inl (aI fnt))), (q 11, .inl (z.1, 1584, .inl (aI fco)))] H := hP.sub [1, 2, 0, 3, 4, 5, 6, 7] rfl
    have hD9 : va_D A [(q 3, .inr (2, [.ref (q 2), .int (iI self), .ref (q 12), .ref (q 13), .ref (q 14), .int (iI fresh)])), (q 12, .inl (z.1, 64, .inl (aI fsu))), (q 13, .inl (z.1, 64, .inl (aI fsr))), (q 2, .inr (0, [.ref (q 6), .ref (q 7), .ref (q 8), .ref (q 9), .ref (q 10), .ref (q 11)])), (q 8, .inl (z.1, 66, .inl (aI fsz))), (q 9, .inl (z.1, 1584, .inl (aI frt))), (q 10, .inl (z.1, 1584, .inl (aI fnt))), (q 11, .inl (z.1, 1584, .inl (aI fco)))] := hD.sub [1, 2, 0, 3, 4, 5, 6, 7] (by decide) rfl
    refine rv_iret hx hb hRt (nar_int _) hlocks (Nat.le_refl _) (Nat.le_refl _) hP9 hD9 hS d_Y_startsTo_25 ?_
    exact ⟨0, rfl, rfl, (by omega), ⟨L, fL, Or.inl ⟨hz, rfl⟩⟩⟩
  · skip
    refine lv_aload_n hx hb d_Y_startsTo_11 rfl (lv_at hl 1 rfl) ?_
    refine lv_aload_n hx hb d_Y_startsTo_12 rfl (lv_at hl 1 rfl) ?_
    refine va_get (D := G) (ci := 2) (v := .int (iI self)) (C := R_Y) (T := T_Y) (N := 6) hx hb hg iw_Y hown hE.1 hP 1 rfl rfl 1 (by decide) (hg _ fl_Y_26) (fun _ h9 => h9) rfl d_Y_startsTo_13 ?_
    refine lv_iload_n hx hb d_Y_startsTo_16 rfl (lv_at hl 2 rfl) ?_
    refine qV_i (As := [.int (iI self), .int (iI net)]) (rest := []) (wr := [(q 13, .inl (z.1, 64, .inl (aI fsr)))]) hx hb hml hown hg hE hA hS hP hD (k_Y_sumOver l G z q self fresh fsu fsz frt fnt fco self net (by assumption) (by assumption) (by assumption) (by assumption) (by assumption) (by assumption) (by omega) (by omega)) [1, 2, 3, 4, 5, 6, 7] [0] rfl rfl (by decide) (by decide) (by decide) (q0 := 0) rfl rfl ml_Y_71 im_Y_sumOver se_Y_sumOver in_Y co_Y_sumOver ok_Y_sumOver ⟨Nat.le_of_ble_eq_true rfl, Nat.le_of_ble_eq_true rfl⟩ hl.1 rfl (Nat.le_of_ble_eq_true rfl) d_Y_startsTo_17 ⟨Nat.le_of_ble_eq_true rfl, Nat.le_of_ble_eq_true rfl⟩ (fun r9 u9 H locs hw hP hD hS => ?_)
    obtain ⟨v0, rfl, rfl, fv0, fP0⟩ := hw
    have hP : va_P G cls0 [(q 13, .inl (z.1, 64, .inl (aI fsr))), (q 3, .inr (2, [.ref (q 2), .int (iI self), .ref (q 12), .ref (q 13), .ref (q 14), .int (iI fresh)])), (q 12, .inl (z.1, 64, .inl (aI fsu))), (q 2, .inr (0, [.ref (q 6), .ref (q 7), .ref (q 8), .ref (q 9), .ref (q 10), .ref (q 11)])), (q 8, .inl (z.1, 66, .inl (aI fsz))), (q 9, .inl (z.1, 1584, .inl (aI frt))), (q 10, .inl (z.1, 1584, .inl (aI fnt))), (q 11, .inl (z.1, 1584, .inl (aI fco)))] H := hP
    have hD : va_D A [(q 13, .inl (z.1, 64, .inl (aI fsr))), (q 3, .inr (2, [.ref (q 2), .int (iI self), .ref (q 12), .ref (q 13), .ref (q 14), .int (iI fresh)])), (q 12, .inl (z.1, 64, .inl (aI fsu))), (q 2, .inr (0, [.ref (q 6), .ref (q 7), .ref (q 8), .ref (q 9), .ref (q 10), .ref (q 11)])), (q 8, .inl (z.1, 66, .inl (aI fsz))), (q 9, .inl (z.1, 1584, .inl (aI frt))), (q 10, .inl (z.1, 1584, .inl (aI fnt))), (q 11, .inl (z.1, 1584, .inl (aI fco)))] := hD
    refine lv_iload_n hx hb d_Y_startsTo_20 rfl (lv_at hl 0 rfl) ?_
    refine rv_icmp_ne (tgt := 26) hx hb d_Y_startsTo_21 (by decide) (by constructor <;> omega) (by constructor <;> omega) (fun c_2 => ?_) (fun c_2 => ?_)
    · skip
      have hnz : ¬ (L = -1 ∨ ps fsz frt fnt fco fsu self net L) := by
        rintro (w | w)
        · omega
        · rcases fP0 with ⟨-, q⟩ | q
          · exact q L w
          · exact c_2 (ps_uniq hUQ hself.1 hself.2 q w)
      refine lv_iconst (v := iI 0) hx hb d_Y_startsTo_26 rfl ?_
      refine lv_istore_n (lv' := [(3, .int (iI 0)), (2, .int (iI L)), (0, .ref (q 3)), (1, .int (iI net))]) hx hb d_Y_startsTo_27 rfl hl (by decide) rfl (fun ls hl => ?_)
      refine lv_iconst (v := iI 0) hx hb d_Y_startsTo_28 rfl ?_
      refine lv_istore (lv' := [(4, .int (iI 0)), (3, .int (iI 0)), (2, .int (iI L)), (0, .ref (q 3)), (1, .int (iI net))]) hx hb d_Y_startsTo_29 hl (by decide) rfl (fun ls hl => ?_)
      have L31 : ∀ n9 : Nat, ∀ (mk : Int) (i : Int), (64 - i : Int).toNat < n9 → (0 ≤ i ∧ i ≤ 64 ∧ 0 ≤ mk ∧ mk ≤ 16777215) → (MSK fsz frt fnt fco fsu fsr net L i mk) → ∀ (H : Heap) (locs : List Loc), va_P G cls0 [(q 13, .inl (z.1, 64, .inl (aI fsr))), (q 3, .inr (2, [.ref (q 2), .int (iI self), .ref (q 12), .ref (q 13), .ref (q 14), .int (iI fresh)])), (q 12, .inl (z.1, 64, .inl (aI fsu))), (q 2, .inr (0, [.ref (q 6), .ref (q 7), .ref (q 8), .ref (q 9), .ref (q 10), .ref (q 11)])), (q 8, .inl (z.1, 66, .inl (aI fsz))), (q 9, .inl (z.1, 1584, .inl (aI frt))), (q 10, .inl (z.1, 1584, .inl (aI fnt))), (q 11, .inl (z.1, 1584, .inl (aI fco)))] H → va_D A [(q 13, .inl (z.1, 64, .inl (aI fsr))), (q 3, .inr (2, [.ref (q 2), .int (iI self), .ref (q 12), .ref (q 13), .ref (q 14), .int (iI fresh)])), (q 12, .inl (z.1, 64, .inl (aI fsu))), (q 2, .inr (0, [.ref (q 6), .ref (q 7), .ref (q 8), .ref (q 9), .ref (q 10), .ref (q 11)])), (q 8, .inl (z.1, 66, .inl (aI fsz))), (q 9, .inl (z.1, 1584, .inl (aI frt))), (q 10, .inl (z.1, 1584, .inl (aI fnt))), (q 11, .inl (z.1, 1584, .inl (aI fco)))] → va_S A s.heap H locs → ∀ ls : Array Slot, lv_has ls 5 [(0, .ref (q 3)), (1, .int (iI net)), (2, .int (iI L)), (3, .int (iI mk)), (4, .int (iI i))] → W p l e (rmD 4) s m [.ref (q 3), .int (iI net)].toArray below meth c H locs 0 0 (Zi below [.ref (q 3), .int (iI net)].toArray s (rmD 4) G A (fun r9 u9 => ∃ (rv : Int), u9 = [(q 3, .inr (2, [.ref (q 2), .int (iI self), .ref (q 12), .ref (q 13), .ref (q 14), .int (iI fresh)])), (q 12, .inl (z.1, 64, .inl (aI fsu))), (q 13, .inl (z.1, 64, .inl (aI fsr))), (q 2, .inr (0, [.ref (q 6), .ref (q 7), .ref (q 8), .ref (q 9), .ref (q 10), .ref (q 11)])), (q 8, .inl (z.1, 66, .inl (aI fsz))), (q 9, .inl (z.1, 1584, .inl (aI frt))), (q 10, .inl (z.1, 1584, .inl (aI fnt))), (q 11, .inl (z.1, 1584, .inl (aI fco)))] ∧ r9 = iI rv ∧ (0 ≤ rv ∧ rv ≤ 16777215) ∧ (∃ L : Int, LST fsz frt fnt fco fsu net 64 L ∧ (((L = -1 ∨ ps fsz frt fnt fco fsu self net L) ∧ rv = 0) ∨ (¬ (L = -1 ∨ ps fsz frt fnt fco fsu self net L) ∧ MSK fsz frt fnt fco fsu fsr net L 64 rv))))) (F0 m 31 ls []) := by
        intro n9
        induction n9 with
        | zero => intro mk i hmu; exact absurd hmu (Nat.not_lt_zero _)
        | succ n9 ih =>
          intro mk i hmu hi hM H locs hP hD hS ls hl
          refine lv_iload hx hb d_Y_startsTo_31 (lv_at hl 4 rfl) ?_
          refine lv_bipush (v := iI 64) hx hb d_Y_startsTo_33 (by decide +kernel) ?_
          refine rv_icmp_ge (tgt := 65) hx hb d_Y_startsTo_35 (by decide) (by constructor <;> omega) ⟨by decide, by decide⟩ (fun c_3 => ?_) (fun c_3 => ?_)
          · skip
            refine lv_iload_n hx hb d_Y_startsTo_65 rfl (lv_at hl 3 rfl) ?_
            have hP9 : va_P G cls0 [(q 3, .inr (2, [.ref (q 2), .int (iI self), .ref (q 12), .ref (q 13), .ref (q 14), .int (iI fresh)])), (q 12, .inl (z.1, 64, .inl (aI fsu))), (q 13, .inl (z.1, 64, .inl (aI fsr))), (q 2, .inr (0, [.ref (q 6), .ref (q 7), .ref (q 8), .ref (q 9), .ref (q 10), .ref (q 11)])), (q 8, .inl (z.1, 66, .inl (aI fsz))), (q 9, .inl (z.1, 1584, .inl (aI frt))), (q 10, .inl (z.1, 1584, .inl (aI fnt))), (q 11, .inl (z.1, 1584, .inl (aI fco)))] H := hP.sub [1, 2, 0, 3, 4, 5, 6, 7] rfl
            have hD9 : va_D A [(q 3, .inr (2, [.ref (q 2), .int (iI self), .ref (q 12), .ref (q 13), .ref (q 14), .int (iI fresh)])), (q 12, .inl (z.1, 64, .inl (aI fsu))), (q 13, .inl (z.1, 64, .inl (aI fsr))), (q 2, .inr (0, [.ref (q 6), .ref (q 7), .ref (q 8), .ref (q 9), .ref (q 10), .ref (q 11)])), (q 8, .inl (z.1, 66, .inl (aI fsz))), (q 9, .inl (z.1, 1584, .inl (aI frt))), (q 10, .inl (z.1, 1584, .inl (aI fnt))), (q 11, .inl (z.1, 1584, .inl (aI fco)))] := hD.sub [1, 2, 0, 3, 4, 5, 6, 7] (by decide) rfl
            refine rv_iret hx hb hRt (nar_int _) hlocks (Nat.le_refl _) (Nat.le_refl _) hP9 hD9 hS d_Y_startsTo_66 ?_
            exact ⟨mk, rfl, rfl, (by omega), ⟨L, fL, Or.inr ⟨hnz, by rw [show (64 : Int) = i by omega]; exact hM⟩⟩⟩
          · skip
            refine lv_aload_n hx hb d_Y_startsTo_38 rfl (lv_at hl 0 rfl) ?_
            refine lv_iload hx hb d_Y_startsTo_39 (lv_at hl 4 rfl) ?_
            refine lv_iload_n hx hb d_Y_startsTo_41 rfl (lv_at hl 1 rfl) ?_
            refine qV_i (As := [.int (iI i), .int (iI net)]) (rest := []) (wr := [(q 13, .inl (z.1, 64, .inl (aI fsr)))]) hx hb hml hown hg hE hA hS hP hD (k_Y_sumOver l G z q self fresh fsu fsz frt fnt fco i net (by assumption) (by assumption) (by assumption) (by assumption) (by assumption) (by assumption) (by omega) (by omega)) [1, 2, 3, 4, 5, 6, 7] [0] rfl rfl (by decide) (by decide) (by decide) (q0 := 0) rfl rfl ml_Y_71 im_Y_sumOver se_Y_sumOver in_Y co_Y_sumOver ok_Y_sumOver ⟨Nat.le_of_ble_eq_true rfl, Nat.le_of_ble_eq_true rfl⟩ hl.1 rfl (Nat.le_of_ble_eq_true rfl) d_Y_startsTo_42 ⟨Nat.le_of_ble_eq_true rfl, Nat.le_of_ble_eq_true rfl⟩ (fun r9 u9 H locs hw hP hD hS => ?_)
            obtain ⟨v, rfl, rfl, fv, fP⟩ := hw
            have hP : va_P G cls0 [(q 13, .inl (z.1, 64, .inl (aI fsr))), (q 3, .inr (2, [.ref (q 2), .int (iI self), .ref (q 12), .ref (q 13), .ref (q 14), .int (iI fresh)])), (q 12, .inl (z.1, 64, .inl (aI fsu))), (q 2, .inr (0, [.ref (q 6), .ref (q 7), .ref (q 8), .ref (q 9), .ref (q 10), .ref (q 11)])), (q 8, .inl (z.1, 66, .inl (aI fsz))), (q 9, .inl (z.1, 1584, .inl (aI frt))), (q 10, .inl (z.1, 1584, .inl (aI fnt))), (q 11, .inl (z.1, 1584, .inl (aI fco)))] H := hP
            have hD : va_D A [(q 13, .inl (z.1, 64, .inl (aI fsr))), (q 3, .inr (2, [.ref (q 2), .int (iI self), .ref (q 12), .ref (q 13), .ref (q 14), .int (iI fresh)])), (q 12, .inl (z.1, 64, .inl (aI fsu))), (q 2, .inr (0, [.ref (q 6), .ref (q 7), .ref (q 8), .ref (q 9), .ref (q 10), .ref (q 11)])), (q 8, .inl (z.1, 66, .inl (aI fsz))), (q 9, .inl (z.1, 1584, .inl (aI frt))), (q 10, .inl (z.1, 1584, .inl (aI fnt))), (q 11, .inl (z.1, 1584, .inl (aI fco)))] := hD
            refine lv_iload_n hx hb d_Y_startsTo_45 rfl (lv_at hl 2 rfl) ?_
            refine rv_icmp_ne (tgt := 59) hx hb d_Y_startsTo_46 (by decide) (by constructor <;> omega) (by constructor <;> omega) (fun c_4 => ?_) (fun c_4 => ?_)
            · skip
              have hnp : ¬ ps fsz frt fnt fco fsu i net L := fun w => by rcases fP with ⟨-, q⟩ | q; exact q L w; exact c_4 (ps_uniq hUQ (by omega) (by omega) q w)
              skip
              refine lv_iinc (v := iI (i + 1)) (lv' := [(4, .int (iI (i + 1))), (0, .ref (q 3)), (1, .int (iI net)), (2, .int (iI L)), (3, .int (iI mk))]) hx hb d_Y_startsTo_59 hl (k := 4) rfl (iI_add _ _) (by decide) rfl (fun ls hl => ?_)
              refine lv_goto (tgt := 31) hx hb d_Y_startsTo_62 (by decide) ?_
              have hlr := lorI_b (x := mk) (y := fsr i) ⟨by omega, by omega⟩ ⟨(rsr i).1, by have := rsr i; omega⟩
              exact ih _ (i + 1) (by omega) (by omega) (by first | exact MSK_or hi.1 (rsr i) hM hp | exact MSK_skip hM hnp) H _ (hP.sub [0, 1, 2, 3, 4, 5, 6, 7] rfl) (hD.sub [0, 1, 2, 3, 4, 5, 6, 7] (by decide) rfl) hS ls (lv_sub hl [1, 2, 3, 4, 0] rfl)
            · skip
              have hp : ps fsz frt fnt fco fsu i net L := by rcases fP with ⟨w, -⟩ | w; exact absurd (by omega) (show L ≠ -1 from fun q => hnz (Or.inl q)); rw [← show v = L from c_4]; exact w
              refine lv_iload_n hx hb d_Y_startsTo_49 rfl (lv_at hl 3 rfl) ?_
              refine lv_aload_n hx hb d_Y_startsTo_50 rfl (lv_at hl 0 rfl) ?_
              refine va_get (D := G) (ci := 2) (v := .ref (q 13)) (C := R_Y) (T := T_Y) (N := 6) hx hb hg iw_Y hown hE.1 hP 1 rfl rfl 3 (by decide) (hg _ fl_Y_15) (fun _ h9 => h9) rfl d_Y_startsTo_51 ?_
              refine lv_iload hx hb d_Y_startsTo_54 (lv_at hl 4 rfl) ?_
              refine rv_iald hx hb hE hP 0 rfl (i := i) (by omega) (by omega) (by decide) d_Y_startsTo_56 ?_
              refine rv_ior hx hb d_Y_startsTo_57 (by omega) (by have := rsr i; omega) ?_
              refine lv_istore_n (lv' := [(3, .int (iI (lorI mk (fsr i)))), (0, .ref (q 3)), (1, .int (iI net)), (2, .int (iI L)), (4, .int (iI i))]) hx hb d_Y_startsTo_58 rfl hl (by decide) rfl (fun ls hl => ?_)
              skip
              refine lv_iinc (v := iI (i + 1)) (lv' := [(4, .int (iI (i + 1))), (3, .int (iI (lorI mk (fsr i)))), (0, .ref (q 3)), (1, .int (iI net)), (2, .int (iI L))]) hx hb d_Y_startsTo_59 hl (k := 4) rfl (iI_add _ _) (by decide) rfl (fun ls hl => ?_)
              refine lv_goto (tgt := 31) hx hb d_Y_startsTo_62 (by decide) ?_
              have hlr := lorI_b (x := mk) (y := fsr i) ⟨by omega, by omega⟩ ⟨(rsr i).1, by have := rsr i; omega⟩
              exact ih _ (i + 1) (by omega) (by omega) (by first | exact MSK_or hi.1 (rsr i) hM hp | exact MSK_skip hM hnp) H _ (hP.sub [0, 1, 2, 3, 4, 5, 6, 7] rfl) (hD.sub [0, 1, 2, 3, 4, 5, 6, 7] (by decide) rfl) hS ls (lv_sub hl [2, 3, 4, 1, 0] rfl)
      exact L31 ((64 - 0 : Int).toNat + 1) 0 0 (Nat.lt_succ_self _) (by omega) MSK_0 H _ (hP.sub [0, 1, 2, 3, 4, 5, 6, 7] rfl) (hD.sub [0, 1, 2, 3, 4, 5, 6, 7] (by decide) rfl) hS ls (lv_sub hl [3, 4, 2, 1, 0] rfl)
    · skip
      have hz : L = -1 ∨ ps fsz frt fnt fco fsu self net L := Or.inr (by rcases fP0 with ⟨w, -⟩ | w; exact absurd (by omega) (show L ≠ -1 by omega); rw [← show v0 = L from c_2]; exact w)
      refine lv_iconst (v := iI 0) hx hb d_Y_startsTo_24 rfl ?_
      have hP9 : va_P G cls0 [(q 3, .inr (2, [.ref (q 2), .int (iI self), .ref (q 12), .ref (q 13), .ref (q 14), .int (iI fresh)])), (q 12, .inl (z.1, 64, .inl (aI fsu))), (q 13, .inl (z.1, 64, .inl (aI fsr))), (q 2, .inr (0, [.ref (q 6), .ref (q 7), .ref (q 8), .ref (q 9), .ref (q 10), .ref (q 11)])), (q 8, .inl (z.1, 66, .inl (aI fsz))), (q 9, .inl (z.1, 1584, .inl (aI frt))), (q 10, .inl (z.1, 1584, .inl (aI fnt))), (q 11, .inl (z.1, 1584, .inl (aI fco)))] H := hP.sub [1, 2, 0, 3, 4, 5, 6, 7] rfl
      have hD9 : va_D A [(q 3, .inr (2, [.ref (q 2), .int (iI self), .ref (q 12), .ref (q 13), .ref (q 14), .int (iI fresh)])), (q 12, .inl (z.1, 64, .inl (aI fsu))), (q 13, .inl (z.1, 64, .inl (aI fsr))), (q 2, .inr (0, [.ref (q 6), .ref (q 7), .ref (q 8), .ref (q 9), .ref (q 10), .ref (q 11)])), (q 8, .inl (z.1, 66, .inl (aI fsz))), (q 9, .inl (z.1, 1584, .inl (aI frt))), (q 10, .inl (z.1, 1584, .inl (aI fnt))), (q 11, .inl (z.1, 1584, .inl (aI fco)))] := hD.sub [1, 2, 0, 3, 4, 5, 6, 7] (by decide) rfl
      refine rv_iret hx hb hRt (nar_int _) hlocks (Nat.le_refl _) (Nat.le_refl _) hP9 hD9 hS d_Y_startsTo_25 ?_
      exact ⟨0, rfl, rfl, (by omega), ⟨L, fL, Or.inl ⟨hz, rfl⟩⟩⟩
end
