/-! Counting bits, the lowest bit. -/
theorem and_cat {k a b c d : Nat} (ha : a < 2 ^ k) (hc : c < 2 ^ k) : (2 ^ k * b + a) &&& (2 ^ k * d + c) = 2 ^ k * (b &&& d) + (a &&& c) := by
  apply Nat.eq_of_testBit_eq
  intro j
  rw [Nat.testBit_and, Nat.testBit_two_pow_mul_add _ ha, Nat.testBit_two_pow_mul_add _ hc, Nat.testBit_two_pow_mul_add _ (Nat.and_lt_two_pow _ hc)]
  split <;> simp [Nat.testBit_and]
theorem and8 {a b c d : Nat} (ha : a < 256) (hc : c < 256) : (256 * b + a) &&& (256 * d + c) = 256 * (b &&& d) + (a &&& c) := and_cat (k := 8) ha hc
theorem and3 {x2 x1 x0 m3 m2 m1 m0 : Nat} (h2 : x2 < 256) (h1 : x1 < 256) (h0 : x0 < 256) (g2 : m2 < 256) (g1 : m1 < 256) (g0 : m0 < 256) : (256 * (256 * x2 + x1) + x0) &&& (256 * (256 * (256 * m3 + m2) + m1) + m0) = 256 * (256 * (x2 &&& m2) + (x1 &&& m1)) + (x0 &&& m0) := by
  rw [and8 h0 g0, and8 h1 g1]
  have e : x2 &&& (256 * m3 + m2) = x2 &&& m2 := by
    have h := and8 (b := 0) (d := m3) h2 g2
    simpa using h
  rw [e]
def bF (m : Int) : Int → Int := fun k => if m.toNat.testBit k.toNat then 1 else 0
theorem bF_1 {m k : Int} : ¬ bF m k = 0 ↔ tb m k := by
  unfold bF tb
  split <;> simp_all
theorem sh1 : ∀ t, t < 2 → ∀ b, b < 256 → (t * 128 + b / 2) &&& 85 = (b / 2) &&& 85 := by decide +kernel
theorem sh2 : ∀ t, t < 4 → ∀ b, b < 256 → (t * 64 + b / 4) &&& 51 = (b / 4) &&& 51 := by decide +kernel
def f1b (b : Nat) : Nat := b - ((b / 2) &&& 85)
def f2b (c : Nat) : Nat := (c &&& 51) + ((c / 4) &&& 51)
def f3b (d : Nat) : Nat := (d + d / 16) % 16
theorem pc8 : ∀ b, b < 256 → ((b / 2) &&& 85 ≤ b ∧ f2b (f1b b) % 16 ≤ 4 ∧ f2b (f1b b) / 16 ≤ 4 ∧ (f3b (f2b (f1b b)) : Int) = cN (bF b) 8 ∧ f3b (f2b (f1b b)) ≤ 8) := by decide +kernel
theorem and51_lt (x : Nat) : x &&& 51 < 256 := Nat.lt_of_le_of_lt Nat.and_le_right (by decide)
theorem and85_lt (x : Nat) : x &&& 85 < 256 := Nat.lt_of_le_of_lt Nat.and_le_right (by decide)
theorem pcN {b2 b1 b0 n a1 a2 a3 a4 a5 : Nat} (h2 : b2 < 256) (h1 : b1 < 256) (h0 : b0 < 256) (hn : n = 256 * (256 * b2 + b1) + b0)
    (e1 : a1 = n - ((n / 2) &&& 1431655765)) (e2 : a2 = (a1 &&& 858993459) + ((a1 / 4) &&& 858993459)) (e3 : a3 = (a2 + a2 / 16) &&& 252645135) (e4 : a4 = a3 + a3 / 256) (e5 : a5 = a4 + a4 / 65536) :
    (n / 2) &&& 1431655765 ≤ n ∧ a1 < 16777216 ∧ a2 < 16777216 ∧ a3 < 16777216 ∧ a4 < 16777216 ∧ ((a5 &&& 63 : Nat) : Int) = cN (bF b0) 8 + cN (bF b1) 8 + cN (bF b2) 8 := by
  obtain ⟨p01, p02, p03, p04, p05⟩ := pc8 b0 h0
  obtain ⟨p11, p12, p13, p14, p15⟩ := pc8 b1 h1
  obtain ⟨p21, p22, p23, p24, p25⟩ := pc8 b2 h2
  have s1 : (n / 2) &&& 1431655765 = 256 * (256 * ((b2 / 2) &&& 85) + ((b1 / 2) &&& 85)) + ((b0 / 2) &&& 85) := by
    rw [show n / 2 = 256 * (256 * (b2 / 2) + ((b2 % 2) * 128 + b1 / 2)) + ((b1 % 2) * 128 + b0 / 2) by omega, show (1431655765 : Nat) = 256 * (256 * (256 * 85 + 85) + 85) + 85 by decide,
      and3 (by omega) (by omega) (by omega) (by omega) (by omega) (by omega), sh1 _ (by omega) _ h1, sh1 _ (by omega) _ h0]
  have c1 : a1 = 256 * (256 * f1b b2 + f1b b1) + f1b b0 := by rw [e1, s1]; unfold f1b; omega
  have k0 : f1b b0 < 256 := by unfold f1b; omega
  have k1 : f1b b1 < 256 := by unfold f1b; omega
  have k2 : f1b b2 < 256 := by unfold f1b; omega
  generalize f1b b0 = c0 at *
  generalize f1b b1 = c1' at *
  generalize f1b b2 = c2 at *
  have s2 : a1 &&& 858993459 = 256 * (256 * (c2 &&& 51) + (c1' &&& 51)) + (c0 &&& 51) := by
    rw [c1, show (858993459 : Nat) = 256 * (256 * (256 * 51 + 51) + 51) + 51 by decide, and3 k2 k1 k0 (by omega) (by omega) (by omega)]
  have s3 : (a1 / 4) &&& 858993459 = 256 * (256 * ((c2 / 4) &&& 51) + ((c1' / 4) &&& 51)) + ((c0 / 4) &&& 51) := by
    rw [show a1 / 4 = 256 * (256 * (c2 / 4) + ((c2 % 4) * 64 + c1' / 4)) + ((c1' % 4) * 64 + c0 / 4) by omega, show (858993459 : Nat) = 256 * (256 * (256 * 51 + 51) + 51) + 51 by decide,
      and3 (by omega) (by omega) (by omega) (by omega) (by omega) (by omega), sh2 _ (by omega) _ k1, sh2 _ (by omega) _ k0]
  have c2e : a2 = 256 * (256 * f2b c2 + f2b c1') + f2b c0 := by rw [e2, s2, s3]; unfold f2b; omega
  generalize f2b c0 = d0 at *
  generalize f2b c1' = d1 at *
  generalize f2b c2 = d2 at *
  have m15 : ∀ x : Nat, x &&& 15 = x % 16 := fun x => Nat.and_two_pow_sub_one_eq_mod x 4
  have s4 : (a2 + a2 / 16) &&& 252645135 = 256 * (256 * f3b d2 + f3b d1) + f3b d0 := by
    rw [show a2 + a2 / 16 = 256 * (256 * (d2 + d2 / 16) + (d1 + ((d2 % 16) * 16 + d1 / 16))) + (d0 + ((d1 % 16) * 16 + d0 / 16)) by omega, show (252645135 : Nat) = 256 * (256 * (256 * 15 + 15) + 15) + 15 by decide,
      and3 (by omega) (by omega) (by omega) (by omega) (by omega) (by omega), m15, m15, m15]
    unfold f3b
    omega
  have c3 : a3 = 256 * (256 * f3b d2 + f3b d1) + f3b d0 := by rw [e3, s4]
  generalize f3b d0 = g0 at *
  generalize f3b d1 = g1 at *
  generalize f3b d2 = g2 at *
  have m63 : a5 &&& 63 = a5 % 64 := Nat.and_two_pow_sub_one_eq_mod a5 6
  have q1 : a3 / 256 = 256 * g2 + g1 := by omega
  have q2 : a4 = 65536 * g2 + 256 * (g1 + g2) + (g0 + g1) := by omega
  have q3 : a4 / 65536 = g2 := by omega
  have q4 : a5 = 65536 * g2 + 256 * (g1 + g2) + (g0 + g1 + g2) := by omega
  have q5 : a5 % 64 = g0 + g1 + g2 := by omega
  refine ⟨by rw [s1]; omega, by omega, by omega, by omega, by omega, ?_⟩
  rw [m63, ← p04, ← p14, ← p24, q5]
  omega
theorem cN_add (f : Int → Int) (a : Nat) : ∀ b : Nat, cN f (a + b) = cN f a + cN (fun k => f (a + k)) b
  | 0 => by simp [cN]
  | b + 1 => by
    have ih := cN_add f a b
    show cN f (a + b) + _ = _
    rw [ih]
    show _ = cN f a + (cN _ b + (if f ((a : Int) + (b : Int)) = 0 then 0 else 1))
    have e : ((a.add b : Nat) : Int) = (a : Int) + (b : Int) := by
      show ((a + b : Nat) : Int) = _
      omega
    rw [e]
    omega
theorem pop_split {b2 b1 b0 : Nat} (h2 : b2 < 256) (h1 : b1 < 256) (h0 : b0 < 256) : cN (bF ((256 * (256 * b2 + b1) + b0 : Nat) : Int)) 24 = cN (bF b0) 8 + cN (bF b1) 8 + cN (bF b2) 8 := by
  have t0 : ∀ (y x j : Nat), x < 256 → (256 * y + x).testBit j = if j < 8 then x.testBit j else y.testBit (j - 8) := fun y x j hx => Nat.testBit_two_pow_mul_add (i := 8) y hx j
  rw [show (24 : Nat) = 8 + (8 + 8) from rfl, cN_add, cN_add]
  have q0 : cN (bF ((256 * (256 * b2 + b1) + b0 : Nat) : Int)) 8 = cN (bF b0) 8 := by
    apply cN_congr
    intro j j0 j1
    unfold bF
    rw [Int.toNat_natCast, Int.toNat_natCast, t0 _ _ _ h0, if_pos (show j.toNat < 8 by omega)]
  have q1 : cN (fun k => bF ((256 * (256 * b2 + b1) + b0 : Nat) : Int) (((8 : Nat) : Int) + k)) 8 = cN (bF b1) 8 := by
    apply cN_congr
    intro j j0 j1
    unfold bF
    rw [Int.toNat_natCast, Int.toNat_natCast, t0 _ _ _ h0, if_neg (show ¬ (((8 : Nat) : Int) + j).toNat < 8 by omega), t0 _ _ _ h1, if_pos (show (((8 : Nat) : Int) + j).toNat - 8 < 8 by omega), show (((8 : Nat) : Int) + j).toNat - 8 = j.toNat by omega]
  have q2 : cN (fun k => bF ((256 * (256 * b2 + b1) + b0 : Nat) : Int) (((8 : Nat) : Int) + (((8 : Nat) : Int) + k))) 8 = cN (bF b2) 8 := by
    apply cN_congr
    intro j j0 j1
    unfold bF
    rw [Int.toNat_natCast, Int.toNat_natCast, t0 _ _ _ h0, if_neg (show ¬ (((8 : Nat) : Int) + (((8 : Nat) : Int) + j)).toNat < 8 by omega), t0 _ _ _ h1, if_neg (show ¬ (((8 : Nat) : Int) + (((8 : Nat) : Int) + j)).toNat - 8 < 8 by omega), show (((8 : Nat) : Int) + (((8 : Nat) : Int) + j)).toNat - 8 - 8 = j.toNat by omega]
  rw [q0, q1, q2]
  omega
def popI (m : Int) : Int := cI (bF m) 24
/-- the lowest bit -/
theorem low1 : ∀ (n x : Nat), x ≤ n → 0 < x → ∃ t q : Nat, x = 2 ^ (t + 1) * q + 2 ^ t
  | 0, x, h, h0 => absurd h0 (by omega)
  | n + 1, x, h, h0 => by
    by_cases e : x % 2 = 1
    · exact ⟨0, x / 2, by simp; omega⟩
    · obtain ⟨t, q, hq⟩ := low1 n (x / 2) (by omega) (by omega)
      refine ⟨t + 1, q, ?_⟩
      have h2 : x = 2 * (x / 2) := by omega
      rw [h2, hq, Nat.pow_succ 2 (t + 1), Nat.pow_succ 2 t]
      have : 2 * (2 ^ t * 2 * q + 2 ^ t) = 2 ^ t * 2 * 2 * q + 2 ^ t * 2 := by
        rw [Nat.mul_add, Nat.mul_comm 2 (2 ^ t * 2 * q), Nat.mul_assoc (2 ^ t * 2) q 2, Nat.mul_comm q 2, ← Nat.mul_assoc, Nat.mul_comm 2 (2 ^ t)]
      exact this
theorem low_bit {t q : Nat} (j : Nat) : (2 ^ (t + 1) * q + 2 ^ t).testBit j = if j < t + 1 then decide (t = j) else q.testBit (j - (t + 1)) := by
  rw [Nat.testBit_two_pow_mul_add q (i := t + 1) (Nat.pow_lt_pow_right (by omega) (by omega))]
  split
  · rw [Nat.testBit_two_pow]
  · rfl
theorem low_clear {t q : Nat} : (2 ^ (t + 1) * q + 2 ^ t) &&& (2 ^ (t + 1) * q + 2 ^ t - 1) = 2 ^ (t + 1) * q := by
  have hp : 0 < 2 ^ t := Nat.two_pow_pos t
  have hlt : 2 ^ t < 2 ^ (t + 1) := Nat.pow_lt_pow_right (by omega) (by omega)
  rw [show 2 ^ (t + 1) * q + 2 ^ t - 1 = 2 ^ (t + 1) * q + (2 ^ t - 1) by omega, and_cat hlt (by omega), Nat.and_self, Nat.and_two_pow_sub_one_eq_mod]
  simp
theorem low_mask {t q : Nat} (h : 2 ^ (t + 1) * q + 2 ^ t < 2 ^ 32) : (2 ^ 32 - (2 ^ (t + 1) * q + 2 ^ t + 1)) &&& (2 ^ (t + 1) * q + 2 ^ t - 1) = 2 ^ t - 1 := by
  have hp : 0 < 2 ^ t := Nat.two_pow_pos t
  have hlt : 2 ^ t < 2 ^ (t + 1) := Nat.pow_lt_pow_right (by omega) (by omega)
  apply Nat.eq_of_testBit_eq
  intro j
  rw [Nat.testBit_and, Nat.testBit_two_pow_sub_succ h, low_bit, show 2 ^ (t + 1) * q + 2 ^ t - 1 = 2 ^ (t + 1) * q + (2 ^ t - 1) by omega, Nat.testBit_two_pow_mul_add q (i := t + 1) (by omega), Nat.testBit_two_pow_sub_one]
  have ht : t < 32 := by
    apply Nat.lt_of_not_le
    intro hc
    have := Nat.pow_le_pow_right (show 0 < 2 by omega) hc
    omega
  by_cases hj : j < t + 1
  · rw [if_pos hj, if_pos hj]
    by_cases e : t = j
    · subst e; simp
    · simp [e, show j < 32 by omega]
  · rw [if_neg hj, if_neg hj]
    cases q.testBit (j - (t + 1)) <;> simp <;> omega
