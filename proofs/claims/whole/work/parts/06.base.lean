/-! Whole numbers for ints: every int of the machine is iI of one in range, arrays are aI of a function on whole numbers. -/
def iI (z : Int) : Int32 := Int32.ofInt z
abbrev inR (z : Int) : Prop := -2147483648 ≤ z ∧ z < 2147483648
theorem iI_t {z : Int} (h : inR z) : (iI z).toInt = z := by
  obtain ⟨h1, h2⟩ := h
  exact Int32.toInt_ofInt_of_le (by omega) (by omega)
theorem iI_of (x : Int32) : ∃ z : Int, inR z ∧ x = iI z := by
  refine ⟨x.toInt, ⟨?_, ?_⟩, (Int32.ofInt_toInt x).symm⟩
  · have := x.le_toInt; omega
  · have := x.toInt_lt; omega
theorem iI_add (a b : Int) : iI a + iI b = iI (a + b) := (Int32.ofInt_add a b).symm
theorem iI_sub (a b : Int) : iI a - iI b = iI (a - b) := (Int32.ofInt_sub a b).symm
theorem iI_mul (a b : Int) : iI a * iI b = iI (a * b) := (Int32.ofInt_mul a b).symm
theorem iI_lt {a b : Int} (ha : inR a) (hb : inR b) : iI a < iI b ↔ a < b := by rw [Int32.lt_iff_toInt_lt, iI_t ha, iI_t hb]
theorem iI_le {a b : Int} (ha : inR a) (hb : inR b) : iI a ≤ iI b ↔ a ≤ b := by rw [Int32.le_iff_toInt_le, iI_t ha, iI_t hb]
theorem iI_eq {a b : Int} (ha : inR a) (hb : inR b) : iI a = iI b ↔ a = b := ⟨fun h => by rw [← iI_t ha, h, iI_t hb], fun h => by rw [h]⟩
theorem iI_cl {z : Int} (h : inR z) : (iI z).toNatClampNeg = z.toNat := by
  show (iI z).toInt.toNat = _
  rw [iI_t h]
theorem iI_0 : iI 0 = 0 := rfl
theorem iI_in {z : Int} {n : Nat} (h0 : 0 ≤ z) (h1 : z < (n : Int)) (hn : (n : Int) < 2147483648) : vp_in (iI z) n := by
  have hr : inR z := ⟨by omega, by omega⟩
  rw [vp_in_iff, iI_t hr]
  exact ⟨h0, h1⟩
def aI (f : Int → Int) : Nat → Int32 := fun j => iI (f (j : Int))
def uZ (f : Int → Int) (k v : Int) : Int → Int := fun j => if j = k then v else f j
theorem uZ_s {f : Int → Int} {k v : Int} : uZ f k v k = v := by simp [uZ]
theorem uZ_n {f : Int → Int} {k v j : Int} (h : j ≠ k) : uZ f k v j = f j := by simp [uZ, h]
theorem aI_at {f : Int → Int} {z : Int} (h0 : 0 ≤ z) (h : inR z) : aI f (iI z).toNatClampNeg = iI (f z) := by
  rw [iI_cl h]
  show iI (f ((z.toNat : Nat) : Int)) = _
  rw [Int.toNat_of_nonneg h0]
theorem aI_upd {f : Int → Int} {z v : Int} (h0 : 0 ≤ z) (h : inR z) : upd (aI f) (iI z).toNatClampNeg (iI v) = aI (uZ f z v) := by
  rw [iI_cl h]
  funext j
  by_cases hj : j = z.toNat
  · subst hj
    simp [upd, aI, uZ, Int.toNat_of_nonneg h0]
  · have h2 : ¬ ((j : Int) = z) := fun q => hj (by omega)
    simp [upd, aI, uZ, hj, h2]
/-! The environment: the five classes, the three array classes, the nest words. -/
abbrev cls0 : List vw_C := [(R_A, T_A, 6), (R_K, T_K, 4), (R_Y, T_Y, 6), (R_B, T_B, 9), (R_M, T_M, 16)]
abbrev tz3 : Type := ClassId × ClassId × ClassId
abbrev tys0 (z : tz3) : List (ClassId × FieldType) := [(z.1, .int), (z.2.1, .boolean), (z.2.2, .long)]
def nW : List Cond := [.methodLinkNest R_B 19 y_K_init "StateBench", .fieldLinkNest R_B 164 "StateBench$Adverts" "numbers" "[I" "StateBench", .fieldLinkNest R_B 221 "StateBench$Adverts" "takenAt" "[I" "StateBench", .fieldLinkNest R_B 123 "StateBench$Adverts" "sizes" "[I" "StateBench", .fieldLinkNest R_Y 45 "StateBench$Adverts" "sizes" "[I" "StateBench", .fieldLinkNest R_Y 54 "StateBench$Adverts" "routers" "[I" "StateBench", .fieldLinkNest R_B 177 "StateBench$Adverts" "routers" "[I" "StateBench", .fieldLinkNest R_Y 57 "StateBench$Adverts" "nets" "[I" "StateBench", .fieldLinkNest R_B 180 "StateBench$Adverts" "nets" "[I" "StateBench", .fieldLinkNest R_Y 64 "StateBench$Adverts" "costs" "[I" "StateBench", .fieldLinkNest R_B 183 "StateBench$Adverts" "costs" "[I" "StateBench", .fieldLinkNest R_B 195 "StateBench$Ways" "sums" "[I" "StateBench", .methodLinkNest R_K 37 y_B_stepOf "StateBench"]
theorem nl_B_19 : Cond.methodLinkNest R_B 19 y_K_init "StateBench" ∈ nW := List.mem_of_getElem? (i := 0) rfl
theorem nf_B_164 : Cond.fieldLinkNest R_B 164 "StateBench$Adverts" "numbers" "[I" "StateBench" ∈ nW := List.mem_of_getElem? (i := 1) rfl
theorem nf_B_221 : Cond.fieldLinkNest R_B 221 "StateBench$Adverts" "takenAt" "[I" "StateBench" ∈ nW := List.mem_of_getElem? (i := 2) rfl
theorem nf_B_123 : Cond.fieldLinkNest R_B 123 "StateBench$Adverts" "sizes" "[I" "StateBench" ∈ nW := List.mem_of_getElem? (i := 3) rfl
theorem nf_Y_45 : Cond.fieldLinkNest R_Y 45 "StateBench$Adverts" "sizes" "[I" "StateBench" ∈ nW := List.mem_of_getElem? (i := 4) rfl
theorem nf_Y_54 : Cond.fieldLinkNest R_Y 54 "StateBench$Adverts" "routers" "[I" "StateBench" ∈ nW := List.mem_of_getElem? (i := 5) rfl
theorem nf_B_177 : Cond.fieldLinkNest R_B 177 "StateBench$Adverts" "routers" "[I" "StateBench" ∈ nW := List.mem_of_getElem? (i := 6) rfl
theorem nf_Y_57 : Cond.fieldLinkNest R_Y 57 "StateBench$Adverts" "nets" "[I" "StateBench" ∈ nW := List.mem_of_getElem? (i := 7) rfl
theorem nf_B_180 : Cond.fieldLinkNest R_B 180 "StateBench$Adverts" "nets" "[I" "StateBench" ∈ nW := List.mem_of_getElem? (i := 8) rfl
theorem nf_Y_64 : Cond.fieldLinkNest R_Y 64 "StateBench$Adverts" "costs" "[I" "StateBench" ∈ nW := List.mem_of_getElem? (i := 9) rfl
theorem nf_B_183 : Cond.fieldLinkNest R_B 183 "StateBench$Adverts" "costs" "[I" "StateBench" ∈ nW := List.mem_of_getElem? (i := 10) rfl
theorem nf_B_195 : Cond.fieldLinkNest R_B 195 "StateBench$Ways" "sums" "[I" "StateBench" ∈ nW := List.mem_of_getElem? (i := 11) rfl
theorem nl_K_37 : Cond.methodLinkNest R_K 37 y_B_stepOf "StateBench" ∈ nW := List.mem_of_getElem? (i := 12) rfl
theorem nW_tab : ∀ w ∈ nW, w.onTables = true := by decide +kernel
def isN (w : Cond) : Prop := (∃ a i b n d h, w = .fieldLinkNest a i b n d h) ∨ ∃ a i x h, w = .methodLinkNest a i x h
theorem nW_is : ∀ w ∈ nW, isN w := by
  intro w hw
  simp only [nW, List.mem_cons, List.not_mem_nil, or_false] at hw
  rcases hw with rfl | rfl | rfl | rfl | rfl | rfl | rfl | rfl | rfl | rfl | rfl | rfl | rfl
  · exact Or.inr ⟨_, _, _, _, rfl⟩
  · exact Or.inl ⟨_, _, _, _, _, _, rfl⟩
  · exact Or.inl ⟨_, _, _, _, _, _, rfl⟩
  · exact Or.inl ⟨_, _, _, _, _, _, rfl⟩
  · exact Or.inl ⟨_, _, _, _, _, _, rfl⟩
  · exact Or.inl ⟨_, _, _, _, _, _, rfl⟩
  · exact Or.inl ⟨_, _, _, _, _, _, rfl⟩
  · exact Or.inl ⟨_, _, _, _, _, _, rfl⟩
  · exact Or.inl ⟨_, _, _, _, _, _, rfl⟩
  · exact Or.inl ⟨_, _, _, _, _, _, rfl⟩
  · exact Or.inl ⟨_, _, _, _, _, _, rfl⟩
  · exact Or.inl ⟨_, _, _, _, _, _, rfl⟩
  · exact Or.inr ⟨_, _, _, _, rfl⟩
theorem nW_warm {s U : State} (hW : s.WarmedH U.vm) {w : Cond} (hw : w ∈ nW) (h : va_Nw w s) : va_Nw w U := by
  rcases nW_is w hw with ⟨a, i, b, n, d, q, rfl⟩ | ⟨a, i, x, q, rfl⟩
  · exact va_Nw.warmF hW h
  · exact va_Nw.warmM hW h
theorem nW_tbl : ∀ w ∈ nW, w ∈ lw_tbl := by decide +kernel
def EV (G : va_G) (z : tz3) (U : State) : Prop := va_K G cls0 (tys0 z) U ∧ ∀ w ∈ nW, va_Nw w U
theorem EV.warm {G : va_G} {z : tz3} {s U : State} (hW : s.WarmedH U.vm) (h : EV G z s) : EV G z U := ⟨va_K.moved hW.alike h.1, fun w hw => nW_warm hW hw (h.2 w hw)⟩
theorem EV.call {G : va_G} {z : tz3} {U : State} {g : JFrame} {mk : MethodId} {a : Array Value} (h : EV G z U) : EV G z (U.calling g mk a) := ⟨va_K.moved (u := U) (U := U.calling g mk a) (Vm.Alike.refl U.vm) h.1, fun w hw => va_Nw.same (u := U) (U := U.calling g mk a) (nW_tab w hw) rfl (h.2 w hw)⟩
theorem EV.nest {G : va_G} {z : tz3} {s : State} {args : Array Value} (h : EV G z s) {w : Cond} (hw : w ∈ nW) : w.before args s = true := va_Nw.use (nW_tab w hw) (h.2 w hw)
def Pq (G : va_G) (z : tz3) (sz : Nat) (ws : va_W) : State → Prop := fun U => U.heap.size = sz ∧ EV G z U ∧ va_P G cls0 ws U.heap ∧ va_D (fun _ => True) ws
def Bq (G : va_G) (A : Nat → Prop) : va_W → State → Prop := fun u t => va_P G cls0 u t.heap ∧ va_D A u
theorem Pq_blind (G : va_G) (z : tz3) (sz : Nat) (ws : va_W) (av : List Value) : FrameBlind (va_Pc av (Pq G z sz ws)) := by
  intro a U g mk q
  obtain ⟨q0, q1, q2, q3, q4⟩ := q
  exact ⟨q0, q1, q2.call, q3, q4⟩
theorem Pq_of {G : va_G} {z : tz3} {ws wc : va_W} {s : State} {H : Heap} {A : Nat → Prop} {av : List Value} (hE : EV G z s) (hP : va_P G cls0 wc H) (hD : va_D A wc) : ∀ U : State, U.heap = H → s.WarmedH U.vm → va_Pc av (Pq G z H.size wc) av.toArray U := by
  intro U hU hW
  exact ⟨rfl, by rw [hU], hE.warm hW, by rw [hU]; exact hP, hD.weaken (fun _ _ _ _ => trivial)⟩
def rmD (d : Nat) : Room := { frames := d, cells := 0, slots := 0, locals := 26 * d }
/-- contracts: the answer an int, or none; the world before, and what may come of it -/
def Ki (l : Launch) (y : MethodName) (cc : ByteArray) (n : Nat) (ret : Option FieldType) (rm : Room) (G : va_G) (z : tz3) (av : List Value) (ws : va_W) (post : Int32 → va_W → Prop) : Prop :=
  ∀ sz : Nat, Met l y (.code y cc n ret :: gW) rm (va_Pc av (Pq G z sz ws)) (va_Qi post (Bq G (va_A ws sz)) (va_A ws sz)) rm.cells rm.slots (va_A ws sz)
def Kv (l : Launch) (y : MethodName) (cc : ByteArray) (n : Nat) (rm : Room) (G : va_G) (z : tz3) (av : List Value) (ws : va_W) (post : va_W → Prop) : Prop :=
  ∀ sz : Nat, Met l y (.code y cc n none :: gW) rm (va_Pc av (Pq G z sz ws)) (va_Qv post (Bq G (va_A ws sz)) (va_A ws sz)) rm.cells rm.slots (va_A ws sz)
def Zi (below : List Frame) (args : Array Value) (s : State) (rm : Room) (G : va_G) (A : Nat → Prop) (post : Int32 → va_W → Prop) : State → Prop := MQ below (va_Qi post (Bq G A) A) args s rm.cells rm.slots A
def Zv (below : List Frame) (args : Array Value) (s : State) (rm : Room) (G : va_G) (A : Nat → Prop) (post : va_W → Prop) : State → Prop := MQ below (va_Qv post (Bq G A) A) args s rm.cells rm.slots A
/-- what a body begins with -/
def Bd (p : Program) (s : State) (m : MethodId) (meth : Method) (c : Code) (y : MethodName) (cc : ByteArray) (n : Nat) (ret : Option FieldType) (G : va_G) (z : tz3) (av : List Value) (A : Nat → Prop) : Prop :=
  p.tables.exec = Jvm.exec ∧ c.code = cc ∧ meth.sig.returnType = ret ∧ c.maxLocals = n ∧ s.vm.findClass y.cls = some m.cls ∧ meth.locks = false ∧ (∀ w ∈ gW, w.before av.toArray s = true) ∧ EV G z s ∧ (∀ q : Nat, s.heap.size ≤ q → A q) ∧ meth.name = y.name
theorem gW_of {y : MethodName} {cc : ByteArray} {n : Nat} {ret : Option FieldType} {s : State} {args : Array Value} (h : ∀ w ∈ (Cond.code y cc n ret :: gW), w.before args s = true) : ∀ w ∈ gW, w.before args s = true := fun w hw => h w (List.mem_cons_of_mem _ hw)
theorem Ki.of {l : Launch} {y : MethodName} {cc : ByteArray} {n : Nat} {ret : Option FieldType} {rm : Room} {G : va_G} {z : tz3} {av : List Value} {ws : va_W} {post : Int32 → va_W → Prop} (hy : plainName y.cls = true) (hn : (lg_sl av).length ≤ n)
    (body : ∀ (p : Program) (e : Env) (s : State) (m : MethodId) (below : List Frame) (meth : Method) (c : Code) (A : Nat → Prop), Bd p s m meth c y cc n ret G z av A → va_P G cls0 ws s.heap → va_D A ws → ∀ ls : Array Slot, lv_has ls n (lv_args 0 av) →
      W p l e rm s m av.toArray below meth c s.heap [] 0 0 (Zi below av.toArray s rm G A post) (F0 m 0 ls [])) : Ki l y cc n ret rm G z av ws post := by
  intro sz
  refine Met.ofW (cc := cc) (maxL := n) (ret := ret) hy rfl ?_
  intro p e s m args below meth c s₁ B hml hv
  obtain ⟨rfl, hsz, hE, hP, hD0⟩ := hv
  subst hsz
  have hl := lv_entry av (n := n) hn
  rw [lg_entry_eq]
  exact body p e s m below meth c _ ⟨B.exec, B.bytes, B.returns, hml, findClass_of_methodNamed B.named, B.notSynchronized, gW_of (atoms_spec B.pre), hE, fun q h => Or.inr h, (name_of_methodNamed B.named B.method).1⟩ hP hD0.self _ hl
theorem Kv.of {l : Launch} {y : MethodName} {cc : ByteArray} {n : Nat} {rm : Room} {G : va_G} {z : tz3} {av : List Value} {ws : va_W} {post : va_W → Prop} (hy : plainName y.cls = true) (hn : (lg_sl av).length ≤ n)
    (body : ∀ (p : Program) (e : Env) (s : State) (m : MethodId) (below : List Frame) (meth : Method) (c : Code) (A : Nat → Prop), Bd p s m meth c y cc n none G z av A → va_P G cls0 ws s.heap → va_D A ws → ∀ ls : Array Slot, lv_has ls n (lv_args 0 av) →
      W p l e rm s m av.toArray below meth c s.heap [] 0 0 (Zv below av.toArray s rm G A post) (F0 m 0 ls [])) : Kv l y cc n rm G z av ws post := by
  intro sz
  refine Met.ofW (cc := cc) (maxL := n) (ret := none) hy rfl ?_
  intro p e s m args below meth c s₁ B hml hv
  obtain ⟨rfl, hsz, hE, hP, hD0⟩ := hv
  subst hsz
  have hl := lv_entry av (n := n) hn
  rw [lg_entry_eq]
  exact body p e s m below meth c _ ⟨B.exec, B.bytes, B.returns, hml, findClass_of_methodNamed B.named, B.notSynchronized, gW_of (atoms_spec B.pre), hE, fun q h => Or.inr h, (name_of_methodNamed B.named B.method).1⟩ hP hD0.self _ hl
section RV
variable {p : Program} {l : Launch} {e : Env} {R : Room} {s : State} {m : MethodId} {args : Array Value} {below : List Frame} {meth : Method} {c : Code} {H : Heap} {locs : List Loc} {cells slots : Nat} {Q : State → Prop}
variable {cc : ByteArray} {pc : Nat} {ls : Array Slot} {rest : List Value}
theorem rv_iadd (hexec : p.tables.exec = Jvm.exec) (hb : c.code = cc) {x y : Int} (hdg : decode cc pc = .ok (.iadd, 1))
    (k : W p l e R s m args below meth c H locs cells slots Q (F0 m (pc + 1) ls (.int (iI (x + y)) :: rest))) : W p l e R s m args below meth c H locs cells slots Q (F0 m pc ls (.int (iI y) :: .int (iI x) :: rest)) :=
  lv_iadd hexec hb hdg (by rw [iI_add]; exact k)
theorem rv_isub (hexec : p.tables.exec = Jvm.exec) (hb : c.code = cc) {x y : Int} (hdg : decode cc pc = .ok (.isub, 1))
    (k : W p l e R s m args below meth c H locs cells slots Q (F0 m (pc + 1) ls (.int (iI (x - y)) :: rest))) : W p l e R s m args below meth c H locs cells slots Q (F0 m pc ls (.int (iI y) :: .int (iI x) :: rest)) :=
  lv_isub hexec hb hdg (by rw [iI_sub]; exact k)
theorem rv_imul (hexec : p.tables.exec = Jvm.exec) (hb : c.code = cc) {x y : Int} (hdg : decode cc pc = .ok (.imul, 1))
    (k : W p l e R s m args below meth c H locs cells slots Q (F0 m (pc + 1) ls (.int (iI (x * y)) :: rest))) : W p l e R s m args below meth c H locs cells slots Q (F0 m pc ls (.int (iI y) :: .int (iI x) :: rest)) :=
  lv_imul hexec hb hdg (by rw [iI_mul]; exact k)
theorem iI_r0 : inR 0 := ⟨by decide, by decide⟩
theorem rv_icmp_eq (hexec : p.tables.exec = Jvm.exec) (hb : c.code = cc) {x y : Int} {off : Int} {tgt : Nat} (hdg : decode cc pc = .ok (.if_icmp .eq off, 3)) (ht : (pc : Int) + off = (tgt : Int)) (hx0 : inR x) (hy0 : inR y)
    (kt : x = y → W p l e R s m args below meth c H locs cells slots Q (F0 m tgt ls rest)) (kf : ¬ x = y → W p l e R s m args below meth c H locs cells slots Q (F0 m (pc + 3) ls rest)) : W p l e R s m args below meth c H locs cells slots Q (F0 m pc ls (.int (iI y) :: .int (iI x) :: rest)) :=
  lv_icmp_eq hexec hb hdg ht (fun h => kt ((iI_eq hx0 hy0).mp h)) (fun h => kf (fun q => h ((iI_eq hx0 hy0).mpr q)))
theorem rv_if_eq (hexec : p.tables.exec = Jvm.exec) (hb : c.code = cc) {x : Int} {off : Int} {tgt : Nat} (hdg : decode cc pc = .ok (.ifCond .eq off, 3)) (ht : (pc : Int) + off = (tgt : Int)) (hx0 : inR x)
    (kt : x = 0 → W p l e R s m args below meth c H locs cells slots Q (F0 m tgt ls rest)) (kf : ¬ x = 0 → W p l e R s m args below meth c H locs cells slots Q (F0 m (pc + 3) ls rest)) : W p l e R s m args below meth c H locs cells slots Q (F0 m pc ls (.int (iI x) :: rest)) :=
  lv_if_eq hexec hb hdg ht (fun h => kt ((iI_eq hx0 iI_r0).mp h)) (fun h => kf (fun q => h ((iI_eq hx0 iI_r0).mpr q)))
theorem rv_icmp_ne (hexec : p.tables.exec = Jvm.exec) (hb : c.code = cc) {x y : Int} {off : Int} {tgt : Nat} (hdg : decode cc pc = .ok (.if_icmp .ne off, 3)) (ht : (pc : Int) + off = (tgt : Int)) (hx0 : inR x) (hy0 : inR y)
    (kt : ¬ x = y → W p l e R s m args below meth c H locs cells slots Q (F0 m tgt ls rest)) (kf : x = y → W p l e R s m args below meth c H locs cells slots Q (F0 m (pc + 3) ls rest)) : W p l e R s m args below meth c H locs cells slots Q (F0 m pc ls (.int (iI y) :: .int (iI x) :: rest)) :=
  lv_icmp_ne hexec hb hdg ht (fun h => kt (fun q => h ((iI_eq hx0 hy0).mpr q))) (fun h => kf ((iI_eq hx0 hy0).mp h))
theorem rv_if_ne (hexec : p.tables.exec = Jvm.exec) (hb : c.code = cc) {x : Int} {off : Int} {tgt : Nat} (hdg : decode cc pc = .ok (.ifCond .ne off, 3)) (ht : (pc : Int) + off = (tgt : Int)) (hx0 : inR x)
    (kt : ¬ x = 0 → W p l e R s m args below meth c H locs cells slots Q (F0 m tgt ls rest)) (kf : x = 0 → W p l e R s m args below meth c H locs cells slots Q (F0 m (pc + 3) ls rest)) : W p l e R s m args below meth c H locs cells slots Q (F0 m pc ls (.int (iI x) :: rest)) :=
  lv_if_ne hexec hb hdg ht (fun h => kt (fun q => h ((iI_eq hx0 iI_r0).mpr q))) (fun h => kf ((iI_eq hx0 iI_r0).mp h))
theorem rv_icmp_lt (hexec : p.tables.exec = Jvm.exec) (hb : c.code = cc) {x y : Int} {off : Int} {tgt : Nat} (hdg : decode cc pc = .ok (.if_icmp .lt off, 3)) (ht : (pc : Int) + off = (tgt : Int)) (hx0 : inR x) (hy0 : inR y)
    (kt : x < y → W p l e R s m args below meth c H locs cells slots Q (F0 m tgt ls rest)) (kf : ¬ x < y → W p l e R s m args below meth c H locs cells slots Q (F0 m (pc + 3) ls rest)) : W p l e R s m args below meth c H locs cells slots Q (F0 m pc ls (.int (iI y) :: .int (iI x) :: rest)) :=
  lv_icmp_lt hexec hb hdg ht (fun h => kt ((iI_lt hx0 hy0).mp h)) (fun h => kf (fun q => h ((iI_lt hx0 hy0).mpr q)))
theorem rv_if_lt (hexec : p.tables.exec = Jvm.exec) (hb : c.code = cc) {x : Int} {off : Int} {tgt : Nat} (hdg : decode cc pc = .ok (.ifCond .lt off, 3)) (ht : (pc : Int) + off = (tgt : Int)) (hx0 : inR x)
    (kt : x < 0 → W p l e R s m args below meth c H locs cells slots Q (F0 m tgt ls rest)) (kf : ¬ x < 0 → W p l e R s m args below meth c H locs cells slots Q (F0 m (pc + 3) ls rest)) : W p l e R s m args below meth c H locs cells slots Q (F0 m pc ls (.int (iI x) :: rest)) :=
  lv_if_lt hexec hb hdg ht (fun h => kt ((iI_lt hx0 iI_r0).mp h)) (fun h => kf (fun q => h ((iI_lt hx0 iI_r0).mpr q)))
theorem rv_icmp_ge (hexec : p.tables.exec = Jvm.exec) (hb : c.code = cc) {x y : Int} {off : Int} {tgt : Nat} (hdg : decode cc pc = .ok (.if_icmp .ge off, 3)) (ht : (pc : Int) + off = (tgt : Int)) (hx0 : inR x) (hy0 : inR y)
    (kt : y ≤ x → W p l e R s m args below meth c H locs cells slots Q (F0 m tgt ls rest)) (kf : ¬ y ≤ x → W p l e R s m args below meth c H locs cells slots Q (F0 m (pc + 3) ls rest)) : W p l e R s m args below meth c H locs cells slots Q (F0 m pc ls (.int (iI y) :: .int (iI x) :: rest)) :=
  lv_icmp_ge hexec hb hdg ht (fun h => kt ((iI_le hy0 hx0).mp h)) (fun h => kf (fun q => h ((iI_le hy0 hx0).mpr q)))
theorem rv_if_ge (hexec : p.tables.exec = Jvm.exec) (hb : c.code = cc) {x : Int} {off : Int} {tgt : Nat} (hdg : decode cc pc = .ok (.ifCond .ge off, 3)) (ht : (pc : Int) + off = (tgt : Int)) (hx0 : inR x)
    (kt : 0 ≤ x → W p l e R s m args below meth c H locs cells slots Q (F0 m tgt ls rest)) (kf : ¬ 0 ≤ x → W p l e R s m args below meth c H locs cells slots Q (F0 m (pc + 3) ls rest)) : W p l e R s m args below meth c H locs cells slots Q (F0 m pc ls (.int (iI x) :: rest)) :=
  lv_if_ge hexec hb hdg ht (fun h => kt ((iI_le iI_r0 hx0).mp h)) (fun h => kf (fun q => h ((iI_le iI_r0 hx0).mpr q)))
theorem rv_icmp_gt (hexec : p.tables.exec = Jvm.exec) (hb : c.code = cc) {x y : Int} {off : Int} {tgt : Nat} (hdg : decode cc pc = .ok (.if_icmp .gt off, 3)) (ht : (pc : Int) + off = (tgt : Int)) (hx0 : inR x) (hy0 : inR y)
    (kt : y < x → W p l e R s m args below meth c H locs cells slots Q (F0 m tgt ls rest)) (kf : ¬ y < x → W p l e R s m args below meth c H locs cells slots Q (F0 m (pc + 3) ls rest)) : W p l e R s m args below meth c H locs cells slots Q (F0 m pc ls (.int (iI y) :: .int (iI x) :: rest)) :=
  lv_icmp_gt hexec hb hdg ht (fun h => kt ((iI_lt hy0 hx0).mp h)) (fun h => kf (fun q => h ((iI_lt hy0 hx0).mpr q)))
theorem rv_if_gt (hexec : p.tables.exec = Jvm.exec) (hb : c.code = cc) {x : Int} {off : Int} {tgt : Nat} (hdg : decode cc pc = .ok (.ifCond .gt off, 3)) (ht : (pc : Int) + off = (tgt : Int)) (hx0 : inR x)
    (kt : 0 < x → W p l e R s m args below meth c H locs cells slots Q (F0 m tgt ls rest)) (kf : ¬ 0 < x → W p l e R s m args below meth c H locs cells slots Q (F0 m (pc + 3) ls rest)) : W p l e R s m args below meth c H locs cells slots Q (F0 m pc ls (.int (iI x) :: rest)) :=
  lv_if_gt hexec hb hdg ht (fun h => kt ((iI_lt iI_r0 hx0).mp h)) (fun h => kf (fun q => h ((iI_lt iI_r0 hx0).mpr q)))
theorem rv_icmp_le (hexec : p.tables.exec = Jvm.exec) (hb : c.code = cc) {x y : Int} {off : Int} {tgt : Nat} (hdg : decode cc pc = .ok (.if_icmp .le off, 3)) (ht : (pc : Int) + off = (tgt : Int)) (hx0 : inR x) (hy0 : inR y)
    (kt : x ≤ y → W p l e R s m args below meth c H locs cells slots Q (F0 m tgt ls rest)) (kf : ¬ x ≤ y → W p l e R s m args below meth c H locs cells slots Q (F0 m (pc + 3) ls rest)) : W p l e R s m args below meth c H locs cells slots Q (F0 m pc ls (.int (iI y) :: .int (iI x) :: rest)) :=
  lv_icmp_le hexec hb hdg ht (fun h => kt ((iI_le hx0 hy0).mp h)) (fun h => kf (fun q => h ((iI_le hx0 hy0).mpr q)))
theorem rv_if_le (hexec : p.tables.exec = Jvm.exec) (hb : c.code = cc) {x : Int} {off : Int} {tgt : Nat} (hdg : decode cc pc = .ok (.ifCond .le off, 3)) (ht : (pc : Int) + off = (tgt : Int)) (hx0 : inR x)
    (kt : x ≤ 0 → W p l e R s m args below meth c H locs cells slots Q (F0 m tgt ls rest)) (kf : ¬ x ≤ 0 → W p l e R s m args below meth c H locs cells slots Q (F0 m (pc + 3) ls rest)) : W p l e R s m args below meth c H locs cells slots Q (F0 m pc ls (.int (iI x) :: rest)) :=
  lv_if_le hexec hb hdg ht (fun h => kt ((iI_le hx0 iI_r0).mp h)) (fun h => kf (fun q => h ((iI_le hx0 iI_r0).mpr q)))
theorem rv_iret {rm : Room} {G : va_G} {A : Nat → Prop} {post : Int32 → va_W → Prop} {v : Int32} {u : va_W} {ty : FieldType} (hexec : p.tables.exec = Jvm.exec) (hb : c.code = cc) (hr : meth.sig.returnType = some ty) (hn : narrow ty (.int v) = .int v) (hlocks : meth.locks = false) (hc : cells ≤ rm.cells) (hs : slots ≤ rm.slots) (hP : va_P G cls0 u H) (hD : va_D A u) (hS : va_S A s.heap H locs) (hdg : decode cc pc = .ok (.ireturn, 1)) (hp : post v u) :
    W p l e R s m args below meth c H locs cells slots (Zi below args s rm G A post) (F0 m pc ls [.int v]) :=
  W.widen hc hs (W.zret hexec hb hr hn (fun t ht _ => ⟨⟨v, u, rfl, hp, by rw [ht]; exact hP, hD⟩, hS.F ht⟩) hS.2.2 hdg hlocks)
theorem rv_vret {rm : Room} {G : va_G} {A : Nat → Prop} {post : va_W → Prop} {u : va_W} (hexec : p.tables.exec = Jvm.exec) (hb : c.code = cc) (hr : meth.sig.returnType = none) (hlocks : meth.locks = false) (hc : cells ≤ rm.cells) (hs : slots ≤ rm.slots) (hP : va_P G cls0 u H) (hD : va_D A u) (hS : va_S A s.heap H locs) (hdg : decode cc pc = .ok (.return_, 1)) (hp : post u) :
    W p l e R s m args below meth c H locs cells slots (Zv below args s rm G A post) (F0 m pc ls []) :=
  W.widen hc hs (W.vret hexec hb hr (fun t ht _ => ⟨⟨u, rfl, hp, by rw [ht]; exact hP, hD⟩, hS.F ht⟩) hS.2.2 hdg hlocks)
theorem nar_int (v : Int32) : narrow .int (.int v) = .int v := vp_nar_int v
theorem nar_b0 : narrow .boolean (.int (iI 0)) = .int (iI 0) := by decide +kernel
theorem nar_b1 : narrow .boolean (.int (iI 1)) = .int (iI 1) := by decide +kernel
theorem nar_b {z : Int} (h : z = 0 ∨ z = 1) : narrow .boolean (.int (iI z)) = .int (iI z) := by
  rcases h with rfl | rfl
  · exact nar_b0
  · exact nar_b1
variable {D : va_G} {A : Nat → Prop} {a : Nat} {z : tz3} {ws : va_W} {H0 : Heap}
theorem rv_iald (hexec : p.tables.exec = Jvm.exec) (hb : c.code = cc) (hE : EV D z s) (hP : va_P D cls0 ws H) (q0 : Nat) {n : Nat} {f : Int → Int} (ha : ws[q0]? = some (a, .inl (z.1, n, .inl (aI f)))) {i : Int} (h0 : 0 ≤ i) (h1 : i < (n : Int)) (hn : (n : Int) < 2147483648) (hdg : decode cc pc = .ok (.iaload, 1))
    (kk : W p l e R s m args below meth c H locs cells slots Q (F0 m (pc + 1) ls (.int (iI (f i)) :: rest))) : W p l e R s m args below meth c H locs cells slots Q (F0 m pc ls (.int (iI i) :: .ref a :: rest)) :=
  va_iald hexec hb hE.1 hP q0 0 ha rfl (iI_in h0 h1 hn) hdg (by rw [aI_at h0 ⟨by omega, by omega⟩]; exact kk)
theorem rv_zald (hexec : p.tables.exec = Jvm.exec) (hb : c.code = cc) (hE : EV D z s) (hP : va_P D cls0 ws H) (q0 : Nat) {n : Nat} {f : Int → Int} (ha : ws[q0]? = some (a, .inl (z.2.1, n, .inl (aI f)))) {i : Int} (h0 : 0 ≤ i) (h1 : i < (n : Int)) (hn : (n : Int) < 2147483648) (hdg : decode cc pc = .ok (.baload, 1))
    (kk : W p l e R s m args below meth c H locs cells slots Q (F0 m (pc + 1) ls (.int (iI (f i)) :: rest))) : W p l e R s m args below meth c H locs cells slots Q (F0 m pc ls (.int (iI i) :: .ref a :: rest)) :=
  va_zald hexec hb hE.1 hP q0 1 ha rfl (iI_in h0 h1 hn) hdg (by rw [aI_at h0 ⟨by omega, by omega⟩]; exact kk)
theorem rv_iast (hexec : p.tables.exec = Jvm.exec) (hb : c.code = cc) (hE : EV D z s) (hP : va_P D cls0 ws H) (hD : va_D A ws) (hS : va_S A H0 H locs) (q0 : Nat) {n : Nat} {f : Int → Int} (ha : ws[q0]? = some (a, .inl (z.1, n, .inl (aI f)))) {i x : Int} (h0 : 0 ≤ i) (h1 : i < (n : Int)) (hn : (n : Int) < 2147483648) (hdg : decode cc pc = .ok (.iastore, 1))
    (kk : ∀ (H1 : Heap) (locs1 : List Loc), va_P D cls0 (ws.set q0 (a, .inl (z.1, n, .inl (aI (uZ f i x))))) H1 → va_D A (ws.set q0 (a, .inl (z.1, n, .inl (aI (uZ f i x))))) → va_S A H0 H1 locs1 → W p l e R s m args below meth c H1 locs1 cells slots Q (F0 m (pc + 1) ls rest)) : W p l e R s m args below meth c H locs cells slots Q (F0 m pc ls (.int (iI x) :: .int (iI i) :: .ref a :: rest)) :=
  va_iast hexec hb hE.1 hP hD hS q0 0 ha rfl (iI_in h0 h1 hn) hdg (by rw [aI_upd h0 ⟨by omega, by omega⟩]; exact kk)
theorem rv_zast (hexec : p.tables.exec = Jvm.exec) (hb : c.code = cc) (hE : EV D z s) (hP : va_P D cls0 ws H) (hD : va_D A ws) (hS : va_S A H0 H locs) (q0 : Nat) {n : Nat} {f : Int → Int} (ha : ws[q0]? = some (a, .inl (z.2.1, n, .inl (aI f)))) {i x : Int} (h0 : 0 ≤ i) (h1 : i < (n : Int)) (hn : (n : Int) < 2147483648) (hx : x = 0 ∨ x = 1) (hdg : decode cc pc = .ok (.bastore, 1))
    (kk : ∀ (H1 : Heap) (locs1 : List Loc), va_P D cls0 (ws.set q0 (a, .inl (z.2.1, n, .inl (aI (uZ f i x))))) H1 → va_D A (ws.set q0 (a, .inl (z.2.1, n, .inl (aI (uZ f i x))))) → va_S A H0 H1 locs1 → W p l e R s m args below meth c H1 locs1 cells slots Q (F0 m (pc + 1) ls rest)) : W p l e R s m args below meth c H locs cells slots Q (F0 m pc ls (.int (iI x) :: .int (iI i) :: .ref a :: rest)) :=
  va_zast hexec hb hE.1 hP hD hS q0 1 ha rfl (iI_in h0 h1 hn) hdg (by rw [show vp_nar .boolean (iI x) = iI x by (unfold vp_nar; rw [nar_b hx]), aI_upd h0 ⟨by omega, by omega⟩]; exact kk)
end RV
