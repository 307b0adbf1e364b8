theorem nI_and (a b : Nat) : nI a &&& nI b = nI (a &&& b) := by
  apply Int32.toBitVec_inj.mp
  show (Int32.ofNat a &&& Int32.ofNat b).toBitVec = (Int32.ofNat (a &&& b)).toBitVec
  rw [Int32.toBitVec_and, Int32.toBitVec_ofNat', Int32.toBitVec_ofNat', Int32.toBitVec_ofNat', BitVec.ofNat_and]
theorem nI_xm1 {n : Nat} (h : n < 2 ^ 32) : nI n ^^^ iI (-1) = nI (2 ^ 32 - (n + 1)) := by
  apply Int32.toBitVec_inj.mp
  have e : (iI (-1)).toBitVec = BitVec.allOnes 32 := by decide
  show (Int32.ofNat n ^^^ iI (-1)).toBitVec = (Int32.ofNat (2 ^ 32 - (n + 1))).toBitVec
  rw [Int32.toBitVec_xor, e, Int32.toBitVec_ofNat', Int32.toBitVec_ofNat', BitVec.xor_allOnes]
  apply BitVec.eq_of_toNat_eq
  rw [BitVec.toNat_not, BitVec.toNat_ofNat, BitVec.toNat_ofNat, Nat.mod_eq_of_lt h, Nat.mod_eq_of_lt (by omega)]
  omega
theorem iI_n (n : Nat) : iI (n : Int) = nI n := by rw [iI_nI (by omega), Int.toNat_natCast]
/-- ~i & (i - 1) of a number with the lowest bit t -/
theorem iI_low {m : Int} {t q : Nat} (h0 : 0 ≤ m) (h1 : m < 2147483648) (hm : m.toNat = 2 ^ (t + 1) * q + 2 ^ t) : (iI m ^^^ iI (-1)) &&& iI (m - 1) = iI ((2 ^ t - 1 : Nat) : Int) := by
  have hp : 0 < 2 ^ t := Nat.two_pow_pos t
  have hpos : 0 < m.toNat := by rw [hm]; omega
  rw [iI_nI h0, nI_xm1 (by omega), iI_nI (by omega), nI_and, iI_n, show (m - 1).toNat = m.toNat - 1 by omega, hm, low_mask (by omega)]
theorem iI_clr {m : Int} {t q : Nat} (h0 : 0 ≤ m) (hm : m.toNat = 2 ^ (t + 1) * q + 2 ^ t) : iI m &&& iI (m - 1) = iI ((2 ^ (t + 1) * q : Nat) : Int) := by
  have hp : 0 < 2 ^ t := Nat.two_pow_pos t
  have hpos : 0 < m.toNat := by rw [hm]; omega
  rw [iI_nI h0, iI_nI (by omega), nI_and, iI_n, show (m - 1).toNat = m.toNat - 1 by omega, hm, low_clear]
theorem iI_ushr {x : Int} (s : Int32) (k : Nat) (hs : ((s.toUInt32 &&& Int32.toUInt32 31).toBitVec % 32).toNat = k) (h0 : 0 ≤ x) (h1 : x < 2147483648) : ((iI x).toUInt32 >>> (s.toUInt32 &&& Int32.toUInt32 31)).toInt32 = iI (x / (2 ^ k : Nat)) := by
  rw [iI_nI h0, pk_ushrN (by omega) s k hs, ← iI_n]
  congr 1
  rw [Int.natCast_ediv, Int.toNat_of_nonneg h0]
section RN
variable {p : Program} {l : Launch} {e : Env} {R : Room} {s : State} {m : MethodId} {args : Array Value} {below : List Frame} {meth : Method} {c : Code} {H : Heap} {locs : List Loc} {cells slots : Nat} {Q : State → Prop}
variable {cc : ByteArray} {pc : Nat} {ls : Array Slot} {rest : List Value}
theorem rn_top {x : Nat} (k : ∀ y : Nat, y = x → W p l e R s m args below meth c H locs cells slots Q (F0 m pc ls (.int (nI y) :: rest))) : W p l e R s m args below meth c H locs cells slots Q (F0 m pc ls (.int (nI x) :: rest)) := k x rfl
theorem rn_iushr (hexec : p.tables.exec = Jvm.exec) (hb : c.code = cc) {n : Nat} {y : Int32} (k : Nat) (hs : ((y.toUInt32 &&& Int32.toUInt32 31).toBitVec % 32).toNat = k) (hdg : decode cc pc = .ok (.iushr, 1)) (hn : n < 2 ^ 32)
    (kk : W p l e R s m args below meth c H locs cells slots Q (F0 m (pc + 1) ls (.int (nI (n / 2 ^ k)) :: rest))) : W p l e R s m args below meth c H locs cells slots Q (F0 m pc ls (.int y :: .int (nI n) :: rest)) :=
  lv_iushr hexec hb hdg (pk_ushrN hn y k hs) kk
theorem rn_iand (hexec : p.tables.exec = Jvm.exec) (hb : c.code = cc) {a b : Nat} (hdg : decode cc pc = .ok (.iand, 1))
    (k : W p l e R s m args below meth c H locs cells slots Q (F0 m (pc + 1) ls (.int (nI (a &&& b)) :: rest))) : W p l e R s m args below meth c H locs cells slots Q (F0 m pc ls (.int (nI b) :: .int (nI a) :: rest)) :=
  lv_iand hexec hb hdg (by rw [nI_and]; exact k)
theorem rn_isub (hexec : p.tables.exec = Jvm.exec) (hb : c.code = cc) {a b : Nat} (hdg : decode cc pc = .ok (.isub, 1)) (h : b ≤ a)
    (k : W p l e R s m args below meth c H locs cells slots Q (F0 m (pc + 1) ls (.int (nI (a - b)) :: rest))) : W p l e R s m args below meth c H locs cells slots Q (F0 m pc ls (.int (nI b) :: .int (nI a) :: rest)) :=
  lv_isub hexec hb hdg (by rw [pk_sub h]; exact k)
theorem rn_iadd (hexec : p.tables.exec = Jvm.exec) (hb : c.code = cc) {a b : Nat} (hdg : decode cc pc = .ok (.iadd, 1))
    (k : W p l e R s m args below meth c H locs cells slots Q (F0 m (pc + 1) ls (.int (nI (a + b)) :: rest))) : W p l e R s m args below meth c H locs cells slots Q (F0 m pc ls (.int (nI b) :: .int (nI a) :: rest)) :=
  lv_iadd hexec hb hdg (by rw [nI_add]; exact k)
theorem rv_iushr (hexec : p.tables.exec = Jvm.exec) (hb : c.code = cc) {x : Int} {y : Int32} (k : Nat) (hs : ((y.toUInt32 &&& Int32.toUInt32 31).toBitVec % 32).toNat = k) (hdg : decode cc pc = .ok (.iushr, 1)) (h0 : 0 ≤ x) (h1 : x < 2147483648)
    (kk : W p l e R s m args below meth c H locs cells slots Q (F0 m (pc + 1) ls (.int (iI (x / (2 ^ k : Nat))) :: rest))) : W p l e R s m args below meth c H locs cells slots Q (F0 m pc ls (.int y :: .int (iI x) :: rest)) :=
  lv_iushr hexec hb hdg (iI_ushr y k hs h0 h1) kk
/-- i ^ -1, then i - 1, then & -/
theorem rv_low {x : Int} {w : Int} (hexec : p.tables.exec = Jvm.exec) (hb : c.code = cc) (hw : (iI x ^^^ iI (-1)) &&& iI (x - 1) = iI w) (hdg : decode cc pc = .ok (.iand, 1))
    (kk : W p l e R s m args below meth c H locs cells slots Q (F0 m (pc + 1) ls (.int (iI w) :: rest))) : W p l e R s m args below meth c H locs cells slots Q (F0 m pc ls (.int (iI (x - 1)) :: .int (iI x ^^^ iI (-1)) :: rest)) :=
  lv_iand hexec hb hdg (by rw [hw]; exact kk)
theorem rv_clr {x : Int} {w : Int} (hexec : p.tables.exec = Jvm.exec) (hb : c.code = cc) (hw : iI x &&& iI (x - 1) = iI w) (hdg : decode cc pc = .ok (.iand, 1))
    (kk : W p l e R s m args below meth c H locs cells slots Q (F0 m (pc + 1) ls (.int (iI w) :: rest))) : W p l e R s m args below meth c H locs cells slots Q (F0 m pc ls (.int (iI (x - 1)) :: .int (iI x) :: rest)) :=
  lv_iand hexec hb hdg (by rw [hw]; exact kk)
end RN
def rmY (d : Nat) : Room := { frames := d, cells := 2, slots := 12, locals := 26 * d }
/-- what is left of m when its i lowest bits are cleared -/
def LFT (m v i : Int) : Prop := (0 ≤ v ∧ v < 16777216) ∧ ∀ b : Int, 0 ≤ b → b < 24 → (tb v b ↔ (tb m b ∧ i ≤ cI (bF m) b))
theorem LFT_0 {m : Int} (hm : 0 ≤ m ∧ m < 16777216) : LFT m m 0 := ⟨hm, fun b b0 b1 => ⟨fun h => ⟨h, (cI_b _ b0).1⟩, fun h => h.1⟩⟩
/-- where bits are left, the lowest one is the i-th -/
theorem LFT_low {m v i : Int} (hm : 0 ≤ m ∧ m < 16777216) (h0 : 0 ≤ i) (h : LFT m v i) (hi : i < popI m) : ∃ t q : Nat, v.toNat = 2 ^ (t + 1) * q + 2 ^ t ∧ t < 24 ∧ tb m t ∧ cI (bF m) t = i := by
  obtain ⟨j, j0, j1, jz, jc⟩ := cI_sur (bF m) (k := 24) (c := i) (by omega) h0 hi
  have hj : tb v j := (h.2 j j0 j1).mpr ⟨bF_1.mp jz, by omega⟩
  have hpos : 0 < v.toNat := by
    apply Nat.pos_of_ne_zero
    intro e
    unfold tb at hj
    rw [e] at hj
    simp at hj
  obtain ⟨t, q, e⟩ := low1 v.toNat v.toNat (Nat.le_refl _) hpos
  have hbit : ∀ k : Nat, v.toNat.testBit k = if k < t + 1 then decide (t = k) else q.testBit (k - (t + 1)) := fun k => by rw [e]; exact low_bit k
  have hvt : tb v t := by
    unfold tb
    rw [Int.toNat_natCast, hbit, if_pos (by omega)]
    simp
  have ht : t < 24 := by
    apply Nat.lt_of_not_le
    intro hc
    have h1 := Nat.pow_le_pow_right (show 0 < 2 by omega) hc
    have h2 := h.1
    have h3 : 2 ^ t ≤ v.toNat := by rw [e]; exact Nat.le_add_left _ _
    omega
  obtain ⟨a, b⟩ := (h.2 t (by omega) (by omega)).mp hvt
  refine ⟨t, q, e, ht, a, ?_⟩
  -- j is the i-th: it is not below t
  have hjt : (t : Int) ≤ j := by
    apply Int.le_of_not_gt
    intro hlt
    unfold tb at hj
    rw [hbit, if_pos (by omega)] at hj
    simp at hj
    omega
  have := cI_mono (bF m) hjt
  omega
theorem LFT_clr {m v i : Int} {t q : Nat} (h : LFT m v i) (e : v.toNat = 2 ^ (t + 1) * q + 2 ^ t) (ht : t < 24) (hm : tb m t) (hc : cI (bF m) t = i) : LFT m ((2 ^ (t + 1) * q : Nat) : Int) (i + 1) := by
  have hle : 2 ^ (t + 1) * q ≤ v.toNat := by rw [e]; exact Nat.le_add_right _ _
  have hv := h.1
  refine ⟨⟨by omega, by omega⟩, fun b b0 b1 => ?_⟩
  have hbit : ∀ k : Nat, v.toNat.testBit k = if k < t + 1 then decide (t = k) else q.testBit (k - (t + 1)) := fun k => by rw [e]; exact low_bit k
  have hnew : tb ((2 ^ (t + 1) * q : Nat) : Int) b ↔ (tb v b ∧ b ≠ t) := by
    unfold tb
    rw [Int.toNat_natCast, hbit]
    have h0 := Nat.testBit_two_pow_mul_add q (i := t + 1) (b := 0) (Nat.two_pow_pos _) b.toNat
    rw [Nat.add_zero] at h0
    rw [h0]
    by_cases hb : b.toNat < t + 1
    · rw [if_pos hb, if_pos hb]
      simp
      omega
    · rw [if_neg hb, if_neg hb]
      constructor
      · intro w; exact ⟨w, by omega⟩
      · intro w; exact w.1
  rw [hnew, h.2 b b0 b1]
  have hs := cI_s1 (f := bF m) (k := t) (by omega) (bF_1.mpr hm)
  constructor
  · rintro ⟨⟨h1, h2⟩, h3⟩
    refine ⟨h1, ?_⟩
    rcases Int.lt_or_gt_of_ne h3 with h4 | h4
    · have := cI_lt (bF m) b0 h4 (bF_1.mpr h1)
      omega
    · have := cI_mono (bF m) (show (t : Int) + 1 ≤ b by omega)
      omega
  · rintro ⟨h1, h2⟩
    refine ⟨⟨h1, by omega⟩, fun q2 => ?_⟩
    rw [q2] at h2
    omega
