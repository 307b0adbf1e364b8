/-- n values of f from place sp on, laid from place dp on -/
def cZ (f : Int → Int) (sp dp n : Int) : Int → Int := fun k => if dp ≤ k ∧ k < dp + n then f (sp + (k - dp)) else f k
theorem cZ_aI {f : Int → Int} {sp dp n : Int} (h1 : 0 ≤ sp) (h2 : 0 ≤ dp) (h3 : 0 ≤ n) : va_cpy (aI f) (aI f) sp.toNat dp.toNat n.toNat = aI (cZ f sp dp n) := by
  funext k
  unfold va_cpy aI cZ
  by_cases h : dp.toNat ≤ k ∧ k < dp.toNat + n.toNat
  · have h' : dp ≤ (k : Int) ∧ (k : Int) < dp + n := by omega
    rw [if_pos h, if_pos h']
    have e : ((sp.toNat + (k - dp.toNat) : Nat) : Int) = sp + ((k : Int) - dp) := by omega
    rw [e]
  · have h' : ¬ (dp ≤ (k : Int) ∧ (k : Int) < dp + n) := by omega
    rw [if_neg h, if_neg h']
theorem iI_nneg {x : Int} (h : 0 ≤ x) (hr : inR x) : ¬ iI x < 0 := by
  intro q
  have := (iI_lt hr iI_r0).mp q
  omega
theorem iI_div {x y : Int} (hx : 0 ≤ x) (hrx : inR x) (hy : 0 < y) (hry : inR y) : iI x / iI y = iI (x / y) := by
  apply Int32.toInt_inj.mp
  have hy1 : iI y ≠ -1 := by
    intro q
    have h1 : (iI y).toInt = (-1 : Int32).toInt := by rw [q]
    rw [iI_t hry] at h1
    have h2 : (-1 : Int32).toInt = -1 := by decide
    omega
  have hd : x / y ≤ x := Int.ediv_le_self y hx
  have hd0 : 0 ≤ x / y := Int.ediv_nonneg hx (by omega)
  rw [Int32.toInt_div_of_ne_right _ _ hy1, iI_t hrx, iI_t hry, iI_t ⟨by omega, by omega⟩, Int.tdiv_eq_ediv_of_nonneg hx]
theorem iI_rem {x y : Int} (hx : 0 ≤ x) (hrx : inR x) (hy : 0 < y) (hry : inR y) : iI x - iI x / iI y * iI y = iI (x % y) := by
  rw [iI_div hx hrx hy hry, iI_mul, iI_sub]
  congr 1
  have := Int.mul_ediv_add_emod x y
  have h2 : x / y * y = y * (x / y) := Int.mul_comm _ _
  omega
theorem fit_b {z : Int} (h : z = 0 ∨ z = 1) : fits .boolean (.int (iI z)) = true := by
  rcases h with rfl | rfl
  · decide +kernel
  · decide +kernel
section RW2
variable {p : Program} {l : Launch} {e : Env} {R : Room} {s : State} {m : MethodId} {args : Array Value} {below : List Frame} {meth : Method} {c : Code} {H : Heap} {locs : List Loc} {cells slots : Nat} {Q : State → Prop}
variable {cc : ByteArray} {pc : Nat} {ls : Array Slot} {rest : List Value}
variable {D : va_G} {A : Nat → Prop} {a : Nat} {z : tz3} {ws : va_W} {H0 : Heap}
theorem rv_idiv (hexec : p.tables.exec = Jvm.exec) (hb : c.code = cc) {x y : Int} (hdg : decode cc pc = .ok (.idiv, 1)) (h0 : 0 ≤ x) (hrx : inR x) (h1 : 0 < y) (hry : inR y)
    (k : W p l e R s m args below meth c H locs cells slots Q (F0 m (pc + 1) ls (.int (iI (x / y)) :: rest))) : W p l e R s m args below meth c H locs cells slots Q (F0 m pc ls (.int (iI y) :: .int (iI x) :: rest)) :=
  lv_idiv hexec hb hdg (fun q => by have := (iI_eq hry iI_r0).mp q; omega) (by rw [iI_div h0 hrx h1 hry]; exact k)
theorem rv_irem (hexec : p.tables.exec = Jvm.exec) (hb : c.code = cc) {x y : Int} (hdg : decode cc pc = .ok (.irem, 1)) (h0 : 0 ≤ x) (hrx : inR x) (h1 : 0 < y) (hry : inR y)
    (k : W p l e R s m args below meth c H locs cells slots Q (F0 m (pc + 1) ls (.int (iI (x % y)) :: rest))) : W p l e R s m args below meth c H locs cells slots Q (F0 m pc ls (.int (iI y) :: .int (iI x) :: rest)) :=
  lv_irem hexec hb hdg (fun q => by have := (iI_eq hry iI_r0).mp q; omega) (by rw [iI_rem h0 hrx h1 hry]; exact k)
theorem rv_copy (hexec : p.tables.exec = Jvm.exec) (hb : c.code = cc) (hml : c.maxLocals = ls.size) {own : String} {index : Nat} (hown : s.vm.findClass own = some m.cls) (hg : ∀ w ∈ gW, w.before args s = true) (m1 : Cond.methodLink own index arraycopyName ∈ gW)
    (hE : EV D z s) (hP : va_P D cls0 ws H) (hD : va_D A ws) (hS : va_S A H0 H locs) (q0 : Nat) {n0 : Nat} {f : Int → Int} (ha : ws[q0]? = some (a, .inl (z.1, n0, .inl (aI f)))) {sp dp n : Int} (h1 : 0 ≤ sp) (h2 : 0 ≤ dp) (h3 : 0 ≤ n) (h4 : sp + n ≤ (n0 : Int)) (h5 : dp + n ≤ (n0 : Int)) (hn0 : (n0 : Int) < 2147483648)
    (hframes : 1 ≤ R.frames) (hlocals : (rest.map fun v => v.category).sum + (nativeFrameWords "java/lang/System" "arraycopy" 5 + 11) ≤ R.locals) (hdg : decode cc pc = .ok (.invokestatic index, 3))
    (kk : ∀ (H1 : Heap) (locs1 : List Loc), va_P D cls0 (ws.set q0 (a, .inl (z.1, n0, .inl (aI (cZ f sp dp n))))) H1 → va_D A (ws.set q0 (a, .inl (z.1, n0, .inl (aI (cZ f sp dp n))))) → va_S A H0 H1 locs1 → W p l e R s m args below meth c H1 locs1 cells slots Q (F0 m (pc + 3) ls rest)) : W p l e R s m args below meth c H locs cells slots Q (F0 m pc ls (.int (iI n) :: .int (iI dp) :: .ref a :: .int (iI sp) :: .ref a :: rest)) := by
  have r1 : inR sp := ⟨by omega, by omega⟩
  have r2 : inR dp := ⟨by omega, by omega⟩
  have r3 : inR n := ⟨by omega, by omega⟩
  have e1 := iI_cl r1
  have e2 := iI_cl r2
  have e3 := iI_cl r3
  refine va_copyi (ty := .int) hexec hb hml hown (hg _ m1) (hg _ na_arraycopyName) (hg _ st_arraycopyName) (hg _ in_System) hE.1 hP hD hS q0 q0 0 0 ha ha rfl rfl rfl (iI_nneg h1 r1) (iI_nneg h2 r2) (iI_nneg h3 r3) (by rw [e1, e3]; omega) (by rw [e2, e3]; omega) (fun _ _ => rfl) hframes hlocals hdg ?_
  rw [e1, e2, e3, cZ_aI h1 h2 h3]
  exact kk
end RW2
