theorem gI_c {y : MethodName} {bytes : ByteArray} {maxL : Nat} {ret : Option FieldType} (m5 : Cond.code y bytes maxL ret ∈ gW) : GoodIn gW (Cond.code y bytes maxL ret :: gW) := by
  intro w hw
  rcases List.mem_cons.mp hw with rfl | h
  · exact ⟨m5, good_of_word (gW_good m5)⟩
  · exact ⟨h, good_of_word (gW_good h)⟩
theorem gI_V {own : String} {index : Nat} {y : MethodName} {bytes : ByteArray} {maxL : Nat} {ret : Option FieldType} (m1 : Cond.methodLink own index y ∈ gW) (m2 : Cond.instanceMethod y ∈ gW) (m3 : Cond.selects y.cls y y ∈ gW) (m4 : Cond.initialized y.cls ∈ gW) (m5 : Cond.code y bytes maxL ret ∈ gW) : GoodIn gW (wsV own index y.cls y (Cond.code y bytes maxL ret :: gW)) := by
  intro w hw
  simp only [wsV, List.cons_append, List.nil_append] at hw
  rcases List.mem_cons.mp hw with rfl | hw
  · exact ⟨m1, good_of_word (gW_good m1)⟩
  rcases List.mem_cons.mp hw with rfl | hw
  · exact ⟨m2, good_of_word (gW_good m2)⟩
  rcases List.mem_cons.mp hw with rfl | hw
  · exact ⟨m3, good_of_word (gW_good m3)⟩
  rcases List.mem_cons.mp hw with rfl | hw
  · exact ⟨m4, good_of_word (gW_good m4)⟩
  exact gI_c m5 w hw
theorem gI_S {own : String} {index : Nat} {y : MethodName} {bytes : ByteArray} {maxL : Nat} {ret : Option FieldType} (m1 : Cond.methodLink own index y ∈ gW) (m2 : Cond.static y ∈ gW) (m4 : Cond.initialized y.cls ∈ gW) (m5 : Cond.code y bytes maxL ret ∈ gW) : GoodIn gW (va_wsS own index y (Cond.code y bytes maxL ret :: gW)) := by
  intro w hw
  simp only [va_wsS, List.cons_append, List.nil_append] at hw
  rcases List.mem_cons.mp hw with rfl | hw
  · exact ⟨m1, good_of_word (gW_good m1)⟩
  rcases List.mem_cons.mp hw with rfl | hw
  · exact ⟨m2, good_of_word (gW_good m2)⟩
  rcases List.mem_cons.mp hw with rfl | hw
  · exact ⟨m4, good_of_word (gW_good m4)⟩
  exact gI_c m5 w hw
abbrev okY (y : MethodName) (n : Nat) : Prop := y.cls ≠ "java/lang/invoke/MethodHandle" ∧ y.cls ≠ "java/lang/invoke/VarHandle" ∧ (parseMethodDescriptor y.desc).map (fun d => d.parameters.length) = some n
section QC
variable {p : Program} {l : Launch} {e : Env} {R : Room} {s : State} {m : MethodId} {args : Array Value} {below : List Frame} {meth : Method} {c : Code} {H : Heap} {locs : List Loc} {cells slots : Nat} {Q : State → Prop}
variable {cc : ByteArray} {pc : Nat} {ls : Array Slot} {rest st0 As : List Value} {y : MethodName} {bytes : ByteArray} {maxL nL index : Nat} {ret : Option FieldType} {rm : Room} {G : va_G} {z : tz3} {ws wc wr : va_W} {A : Nat → Prop} {own : String} {b : Nat}
theorem va_P.sub' {D : va_G} {cl : List vw_C} {ws wc : va_W} {H : Heap} (h : va_P D cl ws H) (is : List Nat) (hs : is.map (fun i => ws[i]?) = wc.map some) : va_P D cl wc H := by
  intro k q hk
  have h1 : (is.map (fun i => ws[i]?))[k]? = some (some q) := by rw [hs, List.getElem?_map, hk]; rfl
  rw [List.getElem?_map] at h1
  cases hi : is[k]? with
  | none => rw [hi] at h1; cases h1
  | some i => rw [hi] at h1; exact h i q (Option.some.inj h1)
theorem qV_i {post : Int32 → va_W → Prop} (hx : p.tables.exec = Jvm.exec) (hb : c.code = cc) (hml : c.maxLocals = nL) (hown : s.vm.findClass own = some m.cls) (hg : ∀ w ∈ gW, w.before args s = true) (hE : EV G z s) (hA : ∀ q : Nat, s.heap.size ≤ q → A q) (hS : va_S A s.heap H locs) (hP : va_P G cls0 ws H) (hD : va_D A ws)
    (hM : Ki l y bytes maxL ret rm G z (.ref b :: As) wc post) (isC isR : List Nat) (hC : isC.map (fun i => ws[i]?) = wc.map some) (hR : isR.map (fun i => ws[i]?) = wr.map some) (hnC : va_nd isC = true) (hnR : va_nd isR = true) (hdis : ∀ i ∈ isR, i ∉ isC) {ci q0 N : Nat} {T : u_T} {fs : List Value} (hrec : wc[q0]? = some (b, .inr (ci, fs))) (hcls : cls0[ci]? = some (y.cls, T, N))
    (m1 : Cond.methodLink own index y ∈ gW) (m2 : Cond.instanceMethod y ∈ gW) (m3 : Cond.selects y.cls y y ∈ gW) (m4 : Cond.initialized y.cls ∈ gW) (m5 : Cond.code y bytes maxL ret ∈ gW) (hd : okY y As.length) (hRm : rm.frames + 1 ≤ R.frames ∧ 8 + (maxL + 11) + rm.locals ≤ R.locals)
    (hls : ls.size = nL) (hst : st0 = As.reverse ++ .ref b :: rest) (hrest : (rest.map fun v => v.category).sum ≤ 8) (hdg : decode cc pc = .ok (.invokevirtual index, 3)) (hf : cells + rm.cells ≤ R.cells ∧ slots + rm.slots ≤ R.slots)
    (kk : ∀ (r : Int32) (u : va_W) (H1 : Heap) (locs1 : List Loc), post r u → va_P G cls0 (wr ++ u) H1 → va_D A (wr ++ u) → va_S A s.heap H1 locs1 → W p l e R s m args below meth c H1 locs1 (cells + rm.cells) (slots + rm.slots) Q (F0 m (pc + 3) ls (.int r :: rest))) : W p l e R s m args below meth c H locs cells slots Q (F0 m pc ls st0) := by
  subst hst
  have hPc : va_P G cls0 wc H := hP.sub' isC hC
  have hDc : va_D A wc := hD.sub isC hnC hC
  have hFc := va_free (wc := wc) hD hS hA isC hC
  refine va_calli (va_runV (As := As) (rest := rest) ⟨hx, hb, hml, hown, hg⟩ (hM H.size) (cwV As.length hg (gI_V m1 m2 m3 m4 m5) rfl rfl rfl ⟨rfl, hd⟩ hRm) ⟨Pq_blind G z H.size wc _, va_recv hE.1 hPc hcls hrec, Pq_of (ws := ws) hE hPc hDc⟩ rfl rfl hls rfl (lv_room hrest) hdg hf) hS (fun q _ h => hFc q h) hFc (fun r u t H1 locs1 ht hvm hw hB hz1 hk1 hS1 => ?_)
  obtain ⟨hP1, hD1⟩ := hB
  rw [ht] at hP1
  obtain ⟨hP2, hD2⟩ := va_join (wr := wr) (w1 := u) hP hD isC isR hC hR hnR hdis hk1 hFc hP1 hD1
  exact kk r u H1 locs1 hw hP2 hD2 hS1
theorem qV_v {post : va_W → Prop} (hx : p.tables.exec = Jvm.exec) (hb : c.code = cc) (hml : c.maxLocals = nL) (hown : s.vm.findClass own = some m.cls) (hg : ∀ w ∈ gW, w.before args s = true) (hE : EV G z s) (hA : ∀ q : Nat, s.heap.size ≤ q → A q) (hS : va_S A s.heap H locs) (hP : va_P G cls0 ws H) (hD : va_D A ws)
    (hM : Kv l y bytes maxL rm G z (.ref b :: As) wc post) (isC isR : List Nat) (hC : isC.map (fun i => ws[i]?) = wc.map some) (hR : isR.map (fun i => ws[i]?) = wr.map some) (hnC : va_nd isC = true) (hnR : va_nd isR = true) (hdis : ∀ i ∈ isR, i ∉ isC) {ci q0 N : Nat} {T : u_T} {fs : List Value} (hrec : wc[q0]? = some (b, .inr (ci, fs))) (hcls : cls0[ci]? = some (y.cls, T, N))
    (m1 : Cond.methodLink own index y ∈ gW) (m2 : Cond.instanceMethod y ∈ gW) (m3 : Cond.selects y.cls y y ∈ gW) (m4 : Cond.initialized y.cls ∈ gW) (m5 : Cond.code y bytes maxL none ∈ gW) (hd : okY y As.length) (hRm : rm.frames + 1 ≤ R.frames ∧ 8 + (maxL + 11) + rm.locals ≤ R.locals)
    (hls : ls.size = nL) (hst : st0 = As.reverse ++ .ref b :: rest) (hrest : (rest.map fun v => v.category).sum ≤ 8) (hdg : decode cc pc = .ok (.invokevirtual index, 3)) (hf : cells + rm.cells ≤ R.cells ∧ slots + rm.slots ≤ R.slots)
    (kk : ∀ (u : va_W) (H1 : Heap) (locs1 : List Loc), post u → va_P G cls0 (wr ++ u) H1 → va_D A (wr ++ u) → va_S A s.heap H1 locs1 → W p l e R s m args below meth c H1 locs1 (cells + rm.cells) (slots + rm.slots) Q (F0 m (pc + 3) ls rest)) : W p l e R s m args below meth c H locs cells slots Q (F0 m pc ls st0) := by
  subst hst
  have hPc : va_P G cls0 wc H := hP.sub' isC hC
  have hDc : va_D A wc := hD.sub isC hnC hC
  have hFc := va_free (wc := wc) hD hS hA isC hC
  refine va_callv (va_runV (As := As) (rest := rest) ⟨hx, hb, hml, hown, hg⟩ (hM H.size) (cwV As.length hg (gI_V m1 m2 m3 m4 m5) rfl rfl rfl ⟨rfl, hd⟩ hRm) ⟨Pq_blind G z H.size wc _, va_recv hE.1 hPc hcls hrec, Pq_of (ws := ws) hE hPc hDc⟩ rfl rfl hls rfl (lv_room hrest) hdg hf) hS (fun q _ h => hFc q h) hFc (fun u t H1 locs1 ht hvm hw hB hz1 hk1 hS1 => ?_)
  obtain ⟨hP1, hD1⟩ := hB
  rw [ht] at hP1
  obtain ⟨hP2, hD2⟩ := va_join (wr := wr) (w1 := u) hP hD isC isR hC hR hnR hdis hk1 hFc hP1 hD1
  exact kk u H1 locs1 hw hP2 hD2 hS1
theorem qS_i {post : Int32 → va_W → Prop} (hx : p.tables.exec = Jvm.exec) (hb : c.code = cc) (hml : c.maxLocals = nL) (hown : s.vm.findClass own = some m.cls) (hg : ∀ w ∈ gW, w.before args s = true) (hE : EV G z s) (hA : ∀ q : Nat, s.heap.size ≤ q → A q) (hS : va_S A s.heap H locs) (hP : va_P G cls0 ws H) (hD : va_D A ws)
    (hM : Ki l y bytes maxL ret rm G z As wc post) (isC isR : List Nat) (hC : isC.map (fun i => ws[i]?) = wc.map some) (hR : isR.map (fun i => ws[i]?) = wr.map some) (hnC : va_nd isC = true) (hnR : va_nd isR = true) (hdis : ∀ i ∈ isR, i ∉ isC)
    (m1 : Cond.methodLink own index y ∈ gW) (m2 : Cond.static y ∈ gW) (m4 : Cond.initialized y.cls ∈ gW) (m5 : Cond.code y bytes maxL ret ∈ gW) (hd : okY y As.length) (hRm : rm.frames + 1 ≤ R.frames ∧ 8 + (maxL + 11) + rm.locals ≤ R.locals)
    (hls : ls.size = nL) (hst : st0 = As.reverse ++ rest) (hrest : (rest.map fun v => v.category).sum ≤ 8) (hdg : decode cc pc = .ok (.invokestatic index, 3)) (hf : cells + rm.cells ≤ R.cells ∧ slots + rm.slots ≤ R.slots)
    (kk : ∀ (r : Int32) (u : va_W) (H1 : Heap) (locs1 : List Loc), post r u → va_P G cls0 (wr ++ u) H1 → va_D A (wr ++ u) → va_S A s.heap H1 locs1 → W p l e R s m args below meth c H1 locs1 (cells + rm.cells) (slots + rm.slots) Q (F0 m (pc + 3) ls (.int r :: rest))) : W p l e R s m args below meth c H locs cells slots Q (F0 m pc ls st0) := by
  subst hst
  have hPc : va_P G cls0 wc H := hP.sub' isC hC
  have hDc : va_D A wc := hD.sub isC hnC hC
  have hFc := va_free (wc := wc) hD hS hA isC hC
  refine va_calli (va_runS (As := As) (rest := rest) ⟨hx, hb, hml, hown, hg⟩ (hM H.size) (va_cwS As.length hg (gI_S m1 m2 m4 m5) rfl rfl rfl hd hRm) ⟨Pq_blind G z H.size wc _, Pq_of (ws := ws) hE hPc hDc⟩ rfl rfl hls rfl (lv_room hrest) hdg hf) hS (fun q _ h => hFc q h) hFc (fun r u t H1 locs1 ht hvm hw hB hz1 hk1 hS1 => ?_)
  obtain ⟨hP1, hD1⟩ := hB
  rw [ht] at hP1
  obtain ⟨hP2, hD2⟩ := va_join (wr := wr) (w1 := u) hP hD isC isR hC hR hnR hdis hk1 hFc hP1 hD1
  exact kk r u H1 locs1 hw hP2 hD2 hS1
theorem qS_v {post : va_W → Prop} (hx : p.tables.exec = Jvm.exec) (hb : c.code = cc) (hml : c.maxLocals = nL) (hown : s.vm.findClass own = some m.cls) (hg : ∀ w ∈ gW, w.before args s = true) (hE : EV G z s) (hA : ∀ q : Nat, s.heap.size ≤ q → A q) (hS : va_S A s.heap H locs) (hP : va_P G cls0 ws H) (hD : va_D A ws)
    (hM : Kv l y bytes maxL rm G z As wc post) (isC isR : List Nat) (hC : isC.map (fun i => ws[i]?) = wc.map some) (hR : isR.map (fun i => ws[i]?) = wr.map some) (hnC : va_nd isC = true) (hnR : va_nd isR = true) (hdis : ∀ i ∈ isR, i ∉ isC)
    (m1 : Cond.methodLink own index y ∈ gW) (m2 : Cond.static y ∈ gW) (m4 : Cond.initialized y.cls ∈ gW) (m5 : Cond.code y bytes maxL none ∈ gW) (hd : okY y As.length) (hRm : rm.frames + 1 ≤ R.frames ∧ 8 + (maxL + 11) + rm.locals ≤ R.locals)
    (hls : ls.size = nL) (hst : st0 = As.reverse ++ rest) (hrest : (rest.map fun v => v.category).sum ≤ 8) (hdg : decode cc pc = .ok (.invokestatic index, 3)) (hf : cells + rm.cells ≤ R.cells ∧ slots + rm.slots ≤ R.slots)
    (kk : ∀ (u : va_W) (H1 : Heap) (locs1 : List Loc), post u → va_P G cls0 (wr ++ u) H1 → va_D A (wr ++ u) → va_S A s.heap H1 locs1 → W p l e R s m args below meth c H1 locs1 (cells + rm.cells) (slots + rm.slots) Q (F0 m (pc + 3) ls rest)) : W p l e R s m args below meth c H locs cells slots Q (F0 m pc ls st0) := by
  subst hst
  have hPc : va_P G cls0 wc H := hP.sub' isC hC
  have hDc : va_D A wc := hD.sub isC hnC hC
  have hFc := va_free (wc := wc) hD hS hA isC hC
  refine va_callv (va_runS (As := As) (rest := rest) ⟨hx, hb, hml, hown, hg⟩ (hM H.size) (va_cwS As.length hg (gI_S m1 m2 m4 m5) rfl rfl rfl hd hRm) ⟨Pq_blind G z H.size wc _, Pq_of (ws := ws) hE hPc hDc⟩ rfl rfl hls rfl (lv_room hrest) hdg hf) hS (fun q _ h => hFc q h) hFc (fun u t H1 locs1 ht hvm hw hB hz1 hk1 hS1 => ?_)
  obtain ⟨hP1, hD1⟩ := hB
  rw [ht] at hP1
  obtain ⟨hP2, hD2⟩ := va_join (wr := wr) (w1 := u) hP hD isC isR hC hR hnR hdis hk1 hFc hP1 hD1
  exact kk u H1 locs1 hw hP2 hD2 hS1
theorem qI_v {post : va_W → Prop} (hx : p.tables.exec = Jvm.exec) (hb : c.code = cc) (hml : c.maxLocals = nL) (hown : s.vm.findClass own = some m.cls) (hg : ∀ w ∈ gW, w.before args s = true) (hE : EV G z s) (hA : ∀ q : Nat, s.heap.size ≤ q → A q) (hS : va_S A s.heap H locs) (hP : va_P G cls0 ws H) (hD : va_D A ws)
    (hM : Kv l y bytes maxL rm G z (.ref b :: As) wc post) (isC isR : List Nat) (hC : isC.map (fun i => ws[i]?) = wc.map some) (hR : isR.map (fun i => ws[i]?) = wr.map some) (hnC : va_nd isC = true) (hnR : va_nd isR = true) (hdis : ∀ i ∈ isR, i ∉ isC)
    (m1 : Cond.methodLink own index y ∈ gW) (m2 : Cond.instanceMethod y ∈ gW) (m3 : y.name = "<init>") (m4 : Cond.initialized y.cls ∈ gW) (m5 : Cond.code y bytes maxL none ∈ gW) (hd : okY y As.length) (hRm : rm.frames + 1 ≤ R.frames ∧ 8 + (maxL + 11) + rm.locals ≤ R.locals)
    (hls : ls.size = nL) (hst : st0 = As.reverse ++ .ref b :: rest) (hrest : (rest.map fun v => v.category).sum ≤ 8) (hdg : decode cc pc = .ok (.invokespecial index, 3)) (hf : cells + rm.cells ≤ R.cells ∧ slots + rm.slots ≤ R.slots)
    (kk : ∀ (u : va_W) (H1 : Heap) (locs1 : List Loc), post u → va_P G cls0 (wr ++ u) H1 → va_D A (wr ++ u) → va_S A s.heap H1 locs1 → W p l e R s m args below meth c H1 locs1 (cells + rm.cells) (slots + rm.slots) Q (F0 m (pc + 3) ls rest)) : W p l e R s m args below meth c H locs cells slots Q (F0 m pc ls st0) := by
  subst hst
  have hPc : va_P G cls0 wc H := hP.sub' isC hC
  have hDc : va_D A wc := hD.sub isC hnC hC
  have hFc := va_free (wc := wc) hD hS hA isC hC
  refine va_callv (va_runI (As := As) (rest := rest) ⟨hx, hb, hml, hown, hg⟩ (hM H.size) (cwI As.length hg (gI_c m5) rfl rfl rfl (hg _ m4) (hg _ m1) (hg _ m2) m3 hd hRm) ⟨Pq_blind G z H.size wc _, Pq_of (ws := ws) hE hPc hDc⟩ rfl rfl hls rfl (lv_room hrest) hdg hf) hS (fun q _ h => hFc q h) hFc (fun u t H1 locs1 ht hvm hw hB hz1 hk1 hS1 => ?_)
  obtain ⟨hP1, hD1⟩ := hB
  rw [ht] at hP1
  obtain ⟨hP2, hD2⟩ := va_join (wr := wr) (w1 := u) hP hD isC isR hC hR hnR hdis hk1 hFc hP1 hD1
  exact kk u H1 locs1 hw hP2 hD2 hS1
theorem qN_i {post : Int32 → va_W → Prop} (hx : p.tables.exec = Jvm.exec) (hb : c.code = cc) (hml : c.maxLocals = nL) (hown : s.vm.findClass own = some m.cls) (hg : ∀ w ∈ gW, w.before args s = true) (hE : EV G z s) (hA : ∀ q : Nat, s.heap.size ≤ q → A q) (hS : va_S A s.heap H locs) (hP : va_P G cls0 ws H) (hD : va_D A ws)
    (hM : Ki l y bytes maxL ret rm G z As wc post) (isC isR : List Nat) (hC : isC.map (fun i => ws[i]?) = wc.map some) (hR : isR.map (fun i => ws[i]?) = wr.map some) (hnC : va_nd isC = true) (hnR : va_nd isR = true) (hdis : ∀ i ∈ isR, i ∉ isC)
    {host : String} (m1 : Cond.methodLinkNest own index y host ∈ nW) (m2 : Cond.static y ∈ gW) (m4 : Cond.initialized y.cls ∈ gW) (m5 : Cond.code y bytes maxL ret ∈ gW) (hd : okY y As.length) (hRm : rm.frames + 1 ≤ R.frames ∧ 8 + (maxL + 11) + rm.locals ≤ R.locals)
    (hls : ls.size = nL) (hst : st0 = As.reverse ++ rest) (hrest : (rest.map fun v => v.category).sum ≤ 8) (hdg : decode cc pc = .ok (.invokestatic index, 3)) (hf : cells + rm.cells ≤ R.cells ∧ slots + rm.slots ≤ R.slots)
    (kk : ∀ (r : Int32) (u : va_W) (H1 : Heap) (locs1 : List Loc), post r u → va_P G cls0 (wr ++ u) H1 → va_D A (wr ++ u) → va_S A s.heap H1 locs1 → W p l e R s m args below meth c H1 locs1 (cells + rm.cells) (slots + rm.slots) Q (F0 m (pc + 3) ls (.int r :: rest))) : W p l e R s m args below meth c H locs cells slots Q (F0 m pc ls st0) := by
  subst hst
  have hPc : va_P G cls0 wc H := hP.sub' isC hC
  have hDc : va_D A wc := hD.sub isC hnC hC
  have hFc := va_free (wc := wc) hD hS hA isC hC
  refine va_calli (va_runSN (As := As) (rest := rest) ⟨hx, hb, hml, hown, hg⟩ (hM H.size) ⟨va_cnB As.length hg (gI_c m5) rfl rfl rfl (hE.2 _ m1) (hg _ m4) hd hRm, hg _ m2, trivial⟩ ⟨Pq_blind G z H.size wc _, Pq_of (ws := ws) hE hPc hDc⟩ rfl rfl hls rfl (lv_room hrest) hdg hf) hS (fun q _ h => hFc q h) hFc (fun r u t H1 locs1 ht hvm hw hB hz1 hk1 hS1 => ?_)
  obtain ⟨hP1, hD1⟩ := hB
  rw [ht] at hP1
  obtain ⟨hP2, hD2⟩ := va_join (wr := wr) (w1 := u) hP hD isC isR hC hR hnR hdis hk1 hFc hP1 hD1
  exact kk r u H1 locs1 hw hP2 hD2 hS1
theorem qJ_v {post : va_W → Prop} (hx : p.tables.exec = Jvm.exec) (hb : c.code = cc) (hml : c.maxLocals = nL) (hown : s.vm.findClass own = some m.cls) (hg : ∀ w ∈ gW, w.before args s = true) (hE : EV G z s) (hA : ∀ q : Nat, s.heap.size ≤ q → A q) (hS : va_S A s.heap H locs) (hP : va_P G cls0 ws H) (hD : va_D A ws)
    (hM : Kv l y bytes maxL rm G z (.ref b :: As) wc post) (isC isR : List Nat) (hC : isC.map (fun i => ws[i]?) = wc.map some) (hR : isR.map (fun i => ws[i]?) = wr.map some) (hnC : va_nd isC = true) (hnR : va_nd isR = true) (hdis : ∀ i ∈ isR, i ∉ isC)
    {host : String} (m1 : Cond.methodLinkNest own index y host ∈ nW) (m2 : Cond.instanceMethod y ∈ gW) (m3 : y.name = "<init>") (m4 : Cond.initialized y.cls ∈ gW) (m5 : Cond.code y bytes maxL none ∈ gW) (hd : okY y As.length) (hRm : rm.frames + 1 ≤ R.frames ∧ 8 + (maxL + 11) + rm.locals ≤ R.locals)
    (hls : ls.size = nL) (hst : st0 = As.reverse ++ .ref b :: rest) (hrest : (rest.map fun v => v.category).sum ≤ 8) (hdg : decode cc pc = .ok (.invokespecial index, 3)) (hf : cells + rm.cells ≤ R.cells ∧ slots + rm.slots ≤ R.slots)
    (kk : ∀ (u : va_W) (H1 : Heap) (locs1 : List Loc), post u → va_P G cls0 (wr ++ u) H1 → va_D A (wr ++ u) → va_S A s.heap H1 locs1 → W p l e R s m args below meth c H1 locs1 (cells + rm.cells) (slots + rm.slots) Q (F0 m (pc + 3) ls rest)) : W p l e R s m args below meth c H locs cells slots Q (F0 m pc ls st0) := by
  subst hst
  have hPc : va_P G cls0 wc H := hP.sub' isC hC
  have hDc : va_D A wc := hD.sub isC hnC hC
  have hFc := va_free (wc := wc) hD hS hA isC hC
  refine va_callv (va_runIN (As := As) (rest := rest) ⟨hx, hb, hml, hown, hg⟩ (hM H.size) ⟨va_cnB As.length hg (gI_c m5) rfl rfl rfl (hE.2 _ m1) (hg _ m4) hd hRm, m3, hg _ m2⟩ ⟨Pq_blind G z H.size wc _, Pq_of (ws := ws) hE hPc hDc⟩ rfl rfl hls rfl (lv_room hrest) hdg hf) hS (fun q _ h => hFc q h) hFc (fun u t H1 locs1 ht hvm hw hB hz1 hk1 hS1 => ?_)
  obtain ⟨hP1, hD1⟩ := hB
  rw [ht] at hP1
  obtain ⟨hP2, hD2⟩ := va_join (wr := wr) (w1 := u) hP hD isC isR hC hR hnR hdis hk1 hFc hP1 hD1
  exact kk u H1 locs1 hw hP2 hD2 hS1
end QC
