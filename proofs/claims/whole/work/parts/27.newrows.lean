section NR
variable {p : Program} {l : Launch} {e : Env} {R : Room} {s : State} {m : MethodId} {args : Array Value} {below : List Frame} {meth : Method} {c : Code} {H : Heap} {locs : List Loc} {cells slots : Nat} {Q : State → Prop}
variable {cc : ByteArray} {pc : Nat} {ls : Array Slot} {rest : List Value}
variable {D : va_G} {A : Nat → Prop} {a : Nat} {z : tz3} {ws : va_W} {H0 : Heap}
theorem rv_alenI (hexec : p.tables.exec = Jvm.exec) (hb : c.code = cc) (hE : EV D z s) (hP : va_P D cls0 ws H) (q0 : Nat) {n : Nat} {f : Nat → Int32} (ha : ws[q0]? = some (a, .inl (z.1, n, .inl f))) (hn : (n : Int) < 2147483648) (hdg : decode cc pc = .ok (.arraylength, 1))
    (kk : W p l e R s m args below meth c H locs cells slots Q (F0 m (pc + 1) ls (.int (iI (n : Int)) :: rest))) : W p l e R s m args below meth c H locs cells slots Q (F0 m pc ls (.ref a :: rest)) :=
  va_alen hexec hb hE.1 hP q0 0 ha rfl (v := iI (n : Int)) (by rw [iI_n]; rfl) hdg kk
theorem rv_newaI (hexec : p.tables.exec = Jvm.exec) (hb : c.code = cc) (hg : ∀ w ∈ gW, w.before args s = true) (hE : EV D z s) (hP : va_P D cls0 ws H) (hD : va_D A ws) (hS : va_S A H0 H locs) (hA : ∀ q, H0.size ≤ q → A q) {N : Nat} {n : Int} (hn : n = (N : Int)) (hN : N < 100000) (hcells : cells + 1 ≤ R.cells) (hslots : slots + N ≤ R.slots) (hdg : decode cc pc = .ok (.newarray .int, 2))
    (kk : ∀ (q : Nat) (H1 : Heap), va_P D cls0 (ws ++ [(q, .inl (z.1, N, .inl (aI (fun _ => 0))))]) H1 → va_D A (ws ++ [(q, .inl (z.1, N, .inl (aI (fun _ => 0))))]) → va_S A H0 H1 locs → W p l e R s m args below meth c H1 locs (cells + 1) (slots + N) Q (F0 m (pc + 2) ls (.ref q :: rest))) : W p l e R s m args below meth c H locs cells slots Q (F0 m pc ls (.int (iI n) :: rest)) := by
  subst hn
  have hr : inR (N : Int) := ⟨by omega, by omega⟩
  refine va_newa (atype := .int) (ty := .int) (N' := N) (a0 := (N, .inl (aI (fun _ => 0)))) hexec hb (hg _ ac_int) rfl hE.1 hP hD hS hA (fun cA => rfl) (iI_nneg (by omega) hr) (by rw [iI_cl hr]; omega) (by show N * 4 ≤ _; omega) hcells hslots hdg (fun q cA H1 hK1 hP1 hD1 hS1 => ?_)
  have e1 := (hK1.2 3 (cA, .int) rfl).2
  have e2 := (hE.1.2 0 (z.1, .int) rfl).2
  have e3 : cA = z.1 := Option.some.inj (Eq.trans (Eq.symm e1) e2)
  subst e3
  exact kk q H1 hP1 hD1 hS1
theorem rv_newaZ (hexec : p.tables.exec = Jvm.exec) (hb : c.code = cc) (hg : ∀ w ∈ gW, w.before args s = true) (hE : EV D z s) (hP : va_P D cls0 ws H) (hD : va_D A ws) (hS : va_S A H0 H locs) (hA : ∀ q, H0.size ≤ q → A q) {N : Nat} {n : Int} (hn : n = (N : Int)) (hN : N < 100000) (hcells : cells + 1 ≤ R.cells) (hslots : slots + N ≤ R.slots) (hdg : decode cc pc = .ok (.newarray .boolean, 2))
    (kk : ∀ (q : Nat) (H1 : Heap), va_P D cls0 (ws ++ [(q, .inl (z.2.1, N, .inl (aI (fun _ => 0))))]) H1 → va_D A (ws ++ [(q, .inl (z.2.1, N, .inl (aI (fun _ => 0))))]) → va_S A H0 H1 locs → W p l e R s m args below meth c H1 locs (cells + 1) (slots + N) Q (F0 m (pc + 2) ls (.ref q :: rest))) : W p l e R s m args below meth c H locs cells slots Q (F0 m pc ls (.int (iI n) :: rest)) := by
  subst hn
  have hr : inR (N : Int) := ⟨by omega, by omega⟩
  refine va_newa (atype := .boolean) (ty := .boolean) (N' := N) (a0 := (N, .inl (aI (fun _ => 0)))) hexec hb (hg _ ac_boolean) rfl hE.1 hP hD hS hA (fun cA => rfl) (iI_nneg (by omega) hr) (by rw [iI_cl hr]; omega) (by show N * 1 ≤ _; omega) hcells hslots hdg (fun q cA H1 hK1 hP1 hD1 hS1 => ?_)
  have e1 := (hK1.2 3 (cA, .boolean) rfl).2
  have e2 := (hE.1.2 1 (z.2.1, .boolean) rfl).2
  have e3 : cA = z.2.1 := Option.some.inj (Eq.trans (Eq.symm e1) e2)
  subst e3
  exact kk q H1 hP1 hD1 hS1
theorem rv_newaJ (hexec : p.tables.exec = Jvm.exec) (hb : c.code = cc) (hg : ∀ w ∈ gW, w.before args s = true) (hE : EV D z s) (hP : va_P D cls0 ws H) (hD : va_D A ws) (hS : va_S A H0 H locs) (hA : ∀ q, H0.size ≤ q → A q) {N : Nat} {n : Int} (hn : n = (N : Int)) (hN : N < 100000) (hcells : cells + 1 ≤ R.cells) (hslots : slots + N ≤ R.slots) (hdg : decode cc pc = .ok (.newarray .long, 2))
    (kk : ∀ (q : Nat) (H1 : Heap), va_P D cls0 (ws ++ [(q, .inl (z.2.2, N, .inr (.inl (fun _ => 0))))]) H1 → va_D A (ws ++ [(q, .inl (z.2.2, N, .inr (.inl (fun _ => 0))))]) → va_S A H0 H1 locs → W p l e R s m args below meth c H1 locs (cells + 1) (slots + N) Q (F0 m (pc + 2) ls (.ref q :: rest))) : W p l e R s m args below meth c H locs cells slots Q (F0 m pc ls (.int (iI n) :: rest)) := by
  subst hn
  have hr : inR (N : Int) := ⟨by omega, by omega⟩
  refine va_newa (atype := .long) (ty := .long) (N' := N) (a0 := (N, .inr (.inl (fun _ => 0)))) hexec hb (hg _ ac_long) rfl hE.1 hP hD hS hA (fun cA => rfl) (iI_nneg (by omega) hr) (by rw [iI_cl hr]; omega) (by show N * 8 ≤ _; omega) hcells hslots hdg (fun q cA H1 hK1 hP1 hD1 hS1 => ?_)
  have e1 := (hK1.2 3 (cA, .long) rfl).2
  have e2 := (hE.1.2 2 (z.2.2, .long) rfl).2
  have e3 : cA = z.2.2 := Option.some.inj (Eq.trans (Eq.symm e1) e2)
  subst e3
  exact kk q H1 hP1 hD1 hS1
end NR
theorem uZ_uZ {f : Int → Int} {k v w : Int} : uZ (uZ f k v) k w = uZ f k w := by
  funext j
  unfold uZ
  split <;> rfl
theorem TL_trans {fsz frt fnt fco msz mrt mnt mco hsz hrt hnt hco fpo ffr : Int → Int} {pl n i : Int} (h1 : ∀ j : Int, j ≠ pl → msz j = fsz j) (h2 : ∀ a : Int, (a < pl * 24 ∨ pl * 24 + 24 ≤ a) → mrt a = frt a ∧ mnt a = fnt a ∧ mco a = fco a) (h : TL msz mrt mnt mco hsz hrt hnt hco fpo ffr pl n i) : TL fsz frt fnt fco hsz hrt hnt hco fpo ffr pl n i := by
  obtain ⟨a, b, c, d, e⟩ := h
  refine ⟨a, fun j hj => by rw [b j hj, h1 j hj], fun x hx => ?_, d, e⟩
  have g1 := c x hx
  have g2 := h2 x hx
  exact ⟨by rw [g1.1, g2.1], by rw [g1.2.1, g2.2.1], by rw [g1.2.2, g2.2.2]⟩
