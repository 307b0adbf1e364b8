/-! Bits of a mask, by whole numbers. -/
def tb (x k : Int) : Prop := x.toNat.testBit k.toNat = true
def lorI (x y : Int) : Int := ((x.toNat ||| y.toNat : Nat) : Int)
def bI (k : Int) : Int := ((2 ^ k.toNat : Nat) : Int)
theorem tb_lor {x y k : Int} : tb (lorI x y) k ↔ (tb x k ∨ tb y k) := by
  unfold tb lorI
  rw [Int.toNat_natCast, Nat.testBit_or, Bool.or_eq_true]
theorem tb_bI {j k : Int} (hj : 0 ≤ j) (hk : 0 ≤ k) : tb (bI j) k ↔ k = j := by
  unfold tb bI
  rw [Int.toNat_natCast, Nat.testBit_two_pow]
  simp only [decide_eq_true_eq]
  omega
theorem tb_0 {k : Int} : ¬ tb 0 k := by simp [tb]
theorem lorI_b {x y : Int} (hx : 0 ≤ x ∧ x < 16777216) (hy : 0 ≤ y ∧ y < 16777216) : 0 ≤ lorI x y ∧ lorI x y < 16777216 := by
  unfold lorI
  have h : x.toNat ||| y.toNat < 2 ^ 24 := Nat.or_lt_two_pow (by omega) (by omega)
  omega
theorem bI_b {k : Int} (h0 : 0 ≤ k) (h : k < 24) : 0 ≤ bI k ∧ bI k < 16777216 := by
  unfold bI
  have h1 : (2 : Nat) ^ k.toNat < 2 ^ 24 := Nat.pow_lt_pow_right (by omega) (by omega)
  generalize (2 : Nat) ^ k.toNat = w at h1 ⊢
  omega
theorem bI_0 (k : Int) : 0 ≤ bI k := Int.natCast_nonneg _
theorem iI_nI {x : Int} (h : 0 ≤ x) : iI x = nI x.toNat := by
  unfold iI nI
  rw [← Int32.ofInt_eq_ofNat, Int.toNat_of_nonneg h]
theorem nI_or (a b : Nat) : nI a ||| nI b = nI (a ||| b) := by
  apply Int32.toBitVec_inj.mp
  show (Int32.ofNat a ||| Int32.ofNat b).toBitVec = (Int32.ofNat (a ||| b)).toBitVec
  rw [Int32.toBitVec_or, Int32.toBitVec_ofNat', Int32.toBitVec_ofNat', Int32.toBitVec_ofNat', BitVec.ofNat_or]
theorem iI_or {x y : Int} (hx : 0 ≤ x) (hy : 0 ≤ y) : iI x ||| iI y = iI (lorI x y) := by
  rw [iI_nI hx, iI_nI hy, nI_or, iI_nI (by unfold lorI; omega)]
  unfold lorI
  rw [Int.toNat_natCast]
theorem nI_shl1 : ∀ k : Nat, k < 24 → (nI 1) <<< (nI k &&& 31) = nI (2 ^ k) := by decide +kernel
theorem iI_shl1 {k : Int} (h0 : 0 ≤ k) (h : k < 24) : iI 1 <<< (iI k &&& 31) = iI (bI k) := by
  rw [iI_nI (bI_0 k), iI_nI h0]
  unfold bI
  rw [Int.toNat_natCast]
  exact nI_shl1 _ (by omega)
section RV3
variable {p : Program} {l : Launch} {e : Env} {R : Room} {s : State} {m : MethodId} {args : Array Value} {below : List Frame} {meth : Method} {c : Code} {H : Heap} {locs : List Loc} {cells slots : Nat} {Q : State → Prop}
variable {cc : ByteArray} {pc : Nat} {ls : Array Slot} {rest : List Value}
theorem rv_ior (hexec : p.tables.exec = Jvm.exec) (hb : c.code = cc) {x y : Int} (hdg : decode cc pc = .ok (.ior, 1)) (hx : 0 ≤ x) (hy : 0 ≤ y)
    (k : W p l e R s m args below meth c H locs cells slots Q (F0 m (pc + 1) ls (.int (iI (lorI x y)) :: rest))) : W p l e R s m args below meth c H locs cells slots Q (F0 m pc ls (.int (iI y) :: .int (iI x) :: rest)) :=
  lv_ior hexec hb hdg (by rw [iI_or hx hy]; exact k)
theorem rv_ishl1 (hexec : p.tables.exec = Jvm.exec) (hb : c.code = cc) {y : Int} (hdg : decode cc pc = .ok (.ishl, 1)) (h0 : 0 ≤ y) (h1 : y < 24)
    (k : W p l e R s m args below meth c H locs cells slots Q (F0 m (pc + 1) ls (.int (iI (bI y)) :: rest))) : W p l e R s m args below meth c H locs cells slots Q (F0 m pc ls (.int (iI y) :: .int (iI 1) :: rest)) :=
  lv_ishl hexec hb hdg (by rw [iI_shl1 h0 h1]; exact k)
end RV3
/-! Ways. -/
def hasE (sz rt nt : Int → Int) (p r n : Int) : Prop := ∃ k : Int, 0 ≤ k ∧ k < sz p ∧ rt (p * 24 + k) = r ∧ nt (p * 24 + k) = n
def usb (sz rt nt : Int → Int) (r k : Int) : Prop := 0 ≤ k ∧ k < sz r ∧ ¬ rt (r * 24 + k) = -1 ∧ hasE sz rt nt (rt (r * 24 + k)) r (nt (r * 24 + k))
def eg (sz rt nt co : Int → Int) (p t c : Int) : Prop := ∃ k : Int, usb sz rt nt p k ∧ rt (p * 24 + k) = t ∧ co (p * 24 + k) = c
/-- in n steps over edges E from src to t, at the cost d -/
def Rc (E : Int → Int → Int → Prop) (src : Int) : Nat → Int → Int → Prop
  | 0, t, d => t = src ∧ d = 0
  | n + 1, t, d => ∃ p d0 c : Int, Rc E src n p d0 ∧ E p t c ∧ d = d0 + c
/-- f is the least cost from src, -1 where no way leads -/
def isD (E : Int → Int → Int → Prop) (src : Int) (f : Int → Int) : Prop := ∀ t : Int, 0 ≤ t → t < 64 → (f t = -1 ∧ ∀ n d, ¬ Rc E src n t d) ∨ (0 ≤ f t ∧ (∃ n, Rc E src n t (f t)) ∧ ∀ n d, Rc E src n t d → f t ≤ d)
theorem isD_uniq {E : Int → Int → Int → Prop} {src : Int} {f g : Int → Int} (hf : isD E src f) (hg : isD E src g) {t : Int} (h0 : 0 ≤ t) (h1 : t < 64) : f t = g t := by
  rcases hf t h0 h1 with ⟨a, b⟩ | ⟨a, ⟨n, b⟩, c⟩ <;> rcases hg t h0 h1 with ⟨a', b'⟩ | ⟨a', ⟨n', b'⟩, c'⟩
  · rw [a, a']
  · exact absurd b' (b _ _)
  · exact absurd b (b' _ _)
  · have := c _ _ b'
    have := c' _ _ b
    omega
/-- entry b of self begins a way to t of cost d -/
def FS (sz rt nt co : Int → Int) (self b t d : Int) : Prop := usb sz rt nt self b ∧ ∃ (n : Nat) (d0 : Int), Rc (eg sz rt nt co) (rt (self * 24 + b)) n t d0 ∧ d = co (self * 24 + b) + d0
def WAYS (sz rt nt co : Int → Int) (self : Int) (su sr : Int → Int) : Prop := isD (eg sz rt nt co) self su ∧ ∀ t : Int, 0 ≤ t → t < 64 → t ≠ self → su t ≠ -1 → ∀ b : Int, 0 ≤ b → b < 24 → (tb (sr t) b ↔ FS sz rt nt co self b t (su t))
def bgn (sr : Int → Int) (self r k b : Int) : Prop := (r = self ∧ b = k) ∨ (r ≠ self ∧ tb (sr r) b)
/-- the entries below j of router r are gone over: su, sr before, sv, sx now -/
def GO (sz rt nt co : Int → Int) (self r : Int) (su sr sv sx : Int → Int) (j : Int) : Prop :=
  (∀ t : Int, 0 ≤ t → t < 64 → (sv t = su t ∨ ∃ k : Int, k < j ∧ usb sz rt nt r k ∧ rt (r * 24 + k) = t ∧ sv t = su r + co (r * 24 + k))) ∧
  (∀ t : Int, 0 ≤ t → t < 64 → su t ≠ -1 → sv t ≠ -1 ∧ sv t ≤ su t) ∧
  (∀ k : Int, k < j → usb sz rt nt r k → sv (rt (r * 24 + k)) ≠ -1 ∧ sv (rt (r * 24 + k)) ≤ su r + co (r * 24 + k)) ∧
  (∀ t b : Int, 0 ≤ t → t < 64 → 0 ≤ b → b < 24 → (tb (sx t) b ↔ ((sv t = su t ∧ tb (sr t) b) ∨ ∃ k : Int, k < j ∧ usb sz rt nt r k ∧ rt (r * 24 + k) = t ∧ su r + co (r * 24 + k) = sv t ∧ bgn sr self r k b))) ∧
  (∀ t : Int, 0 ≤ t → t < 64 → su t ≠ -1 → su t ≤ su r → sv t = su t ∧ sx t = sr t)
theorem GO_0 {sz rt nt co : Int → Int} {self r : Int} {su sr : Int → Int} : GO sz rt nt co self r su sr su sr 0 := by
  refine ⟨fun t _ _ => Or.inl rfl, fun t _ _ h => ⟨h, Int.le_refl _⟩, fun k hk hu => absurd hu.1 (by omega), fun t b _ _ _ _ => ⟨fun h => Or.inl ⟨rfl, h⟩, ?_⟩, fun t _ _ _ _ => ⟨rfl, rfl⟩⟩
  rintro (h | ⟨k, hk, hu, -⟩)
  · exact h.2
  · exact absurd hu.1 (by omega)
theorem GO_skip {sz rt nt co : Int → Int} {self r : Int} {su sr sv sx : Int → Int} {j : Int} (hu : ¬ usb sz rt nt r j) (h : GO sz rt nt co self r su sr sv sx j) : GO sz rt nt co self r su sr sv sx (j + 1) := by
  obtain ⟨a, b, c, d, e⟩ := h
  have low : ∀ k : Int, k < j + 1 → usb sz rt nt r k → k < j := fun k hk q => by
    by_cases hj : k = j
    · subst hj; exact absurd q hu
    · omega
  refine ⟨fun t t0 t1 => ?_, b, fun k hk q => c k (low k hk q) q, fun t b' t0 t1 b0 b1 => ?_, e⟩
  · rcases a t t0 t1 with h | ⟨k, h1, h2⟩
    · exact Or.inl h
    · exact Or.inr ⟨k, by omega, h2⟩
  · rw [d t b' t0 t1 b0 b1]
    constructor
    · rintro (h | ⟨k, h1, h2⟩)
      · exact Or.inl h
      · exact Or.inr ⟨k, by omega, h2⟩
    · rintro (h | ⟨k, h1, h2, h3⟩)
      · exact Or.inl h
      · exact Or.inr ⟨k, low k h1 h2, h2, h3⟩
/-- what Ways.reach does -/
def RCH (sv sx sv2 sx2 : Int → Int) (t sum bg : Int) : Prop :=
  ((sv t = -1 ∨ sum < sv t) ∧ sv2 = uZ sv t sum ∧ sx2 = uZ sx t bg) ∨ (¬ (sv t = -1 ∨ sum < sv t) ∧ sum = sv t ∧ sv2 = sv ∧ sx2 = uZ sx t (lorI (sx t) bg)) ∨ (¬ (sv t = -1 ∨ sum < sv t) ∧ ¬ sum = sv t ∧ sv2 = sv ∧ sx2 = sx)
theorem GO_edge {sz rt nt co : Int → Int} {self r : Int} {su sr sv sx sv2 sx2 : Int → Int} {j bg : Int} (hr : 0 ≤ r ∧ r < 64) (hsr : 0 ≤ su r) (hc : 1 ≤ co (r * 24 + j)) (hu : usb sz rt nt r j) (ht : 0 ≤ rt (r * 24 + j) ∧ rt (r * 24 + j) < 64)
    (hb : ∀ b : Int, 0 ≤ b → b < 24 → (tb bg b ↔ bgn sr self r j b)) (hR : RCH sv sx sv2 sx2 (rt (r * 24 + j)) (su r + co (r * 24 + j)) bg) (h : GO sz rt nt co self r su sr sv sx j) : GO sz rt nt co self r su sr sv2 sx2 (j + 1) := by
  obtain ⟨a, b, c, d, e⟩ := h
  generalize hte : rt (r * 24 + j) = t0 at *
  have up : ∀ {P : Int → Prop}, (∃ k : Int, k < j ∧ P k) → ∃ k : Int, k < j + 1 ∧ P k := fun ⟨k, h1, h2⟩ => ⟨k, by omega, h2⟩
  have split1 : ∀ {P : Int → Prop}, (∃ k : Int, k < j + 1 ∧ P k) → (∃ k : Int, k < j ∧ P k) ∨ P j := by
    rintro P ⟨k, h1, h2⟩
    by_cases hk : k = j
    · subst hk; exact Or.inr h2
    · exact Or.inl ⟨k, by omega, h2⟩
  rcases hR with ⟨hlt, rfl, rfl⟩ | ⟨hnl, heq, rfl, rfl⟩ | ⟨hnl, hne, rfl, rfl⟩
  · -- a new least sum
    have hold : ∀ t : Int, t ≠ t0 → uZ sv t0 (su r + co (r * 24 + j)) t = sv t ∧ uZ sx t0 bg t = sx t := fun t h => ⟨uZ_n h, uZ_n h⟩
    have hsu : su t0 = -1 ∨ su r + co (r * 24 + j) < su t0 := by
      rcases hlt with h | h
      · by_cases q : su t0 = -1
        · exact Or.inl q
        · exact absurd h (b t0 ht.1 ht.2 q).1
      · by_cases q : su t0 = -1
        · exact Or.inl q
        · have := (b t0 ht.1 ht.2 q).2
          exact Or.inr (by omega)
    refine ⟨fun t h0 h1 => ?_, fun t h0 h1 hn => ?_, fun k hk q => ?_, fun t b' h0 h1 b0 b1 => ?_, fun t h0 h1 hn hl => ?_⟩
    · by_cases q : t = t0
      · subst q; exact Or.inr ⟨j, by omega, hu, hte, uZ_s⟩
      · rw [(hold t q).1]
        rcases a t h0 h1 with h | h
        · exact Or.inl h
        · exact Or.inr (up h)
    · by_cases q : t = t0
      · subst q
        rw [uZ_s]
        rcases hsu with h | h
        · exact absurd h hn
        · exact ⟨by omega, by omega⟩
      · rw [(hold t q).1]; exact b t h0 h1 hn
    · by_cases hk2 : k = j
      · subst hk2; rw [hte, uZ_s]; exact ⟨by omega, Int.le_refl _⟩
      · by_cases q2 : rt (r * 24 + k) = t0
        · rw [q2, uZ_s]
          have h3 := c k (by omega) q
          rw [q2] at h3
          rcases hlt with h | h
          · exact absurd h h3.1
          · exact ⟨by omega, by omega⟩
        · rw [(hold _ q2).1]; exact c k (by omega) q
    · by_cases q : t = t0
      · subst q
        rw [uZ_s, uZ_s, hb b' b0 b1]
        constructor
        · intro h; exact Or.inr ⟨j, by omega, hu, hte, rfl, h⟩
        · rintro (⟨h1, h2⟩ | h)
          · rcases hsu with h | h
            · omega
            · omega
          · rcases split1 h with ⟨k, k1, k2, k3, k4, k5⟩ | ⟨-, -, -, h⟩
            · have h3 := c k k1 k2
              rw [k3] at h3
              rcases hlt with h | h
              · exact absurd h h3.1
              · omega
            · exact h
      · rw [(hold t q).1, (hold t q).2, d t b' h0 h1 b0 b1]
        constructor
        · rintro (h | h)
          · exact Or.inl h
          · exact Or.inr (up h)
        · rintro (h | h)
          · exact Or.inl h
          · rcases split1 h with h | ⟨-, h2, -⟩
            · exact Or.inr h
            · exact absurd (hte.symm.trans h2).symm q
    · have q : t ≠ t0 := by
        intro q; subst q
        rcases hsu with h | h
        · exact hn h
        · omega
      rw [(hold t q).1, (hold t q).2]
      exact e t h0 h1 hn hl
  · -- the same sum
    have hold : ∀ t : Int, t ≠ t0 → uZ sx t0 (lorI (sx t0) bg) t = sx t := fun t h => uZ_n h
    refine ⟨fun t h0 h1 => ?_, b, fun k hk q => ?_, fun t b' h0 h1 b0 b1 => ?_, fun t h0 h1 hn hl => ?_⟩
    · rcases a t h0 h1 with h | h
      · exact Or.inl h
      · exact Or.inr (up h)
    · by_cases hk2 : k = j
      · subst hk2; rw [hte]; exact ⟨fun h => hnl (Or.inl h), by omega⟩
      · exact c k (by omega) q
    · by_cases q : t = t0
      · subst q
        rw [uZ_s, tb_lor, d t b' h0 h1 b0 b1, hb b' b0 b1]
        constructor
        · rintro ((h | h) | h)
          · exact Or.inl h
          · exact Or.inr (up h)
          · exact Or.inr ⟨j, by omega, hu, hte, heq, h⟩
        · rintro (h | h)
          · exact Or.inl (Or.inl h)
          · rcases split1 h with h | ⟨-, -, -, h⟩
            · exact Or.inl (Or.inr h)
            · exact Or.inr h
      · rw [hold t q, d t b' h0 h1 b0 b1]
        constructor
        · rintro (h | h)
          · exact Or.inl h
          · exact Or.inr (up h)
        · rintro (h | h)
          · exact Or.inl h
          · rcases split1 h with h | ⟨-, h2, -⟩
            · exact Or.inr h
            · exact absurd (hte.symm.trans h2).symm q
    · have q : t ≠ t0 := by
        intro q; subst q
        have := (e t h0 h1 hn hl).1
        omega
      rw [hold t q]
      exact e t h0 h1 hn hl
  · -- a greater sum
    refine ⟨fun t h0 h1 => ?_, b, fun k hk q => ?_, fun t b' h0 h1 b0 b1 => ?_, e⟩
    · rcases a t h0 h1 with h | h
      · exact Or.inl h
      · exact Or.inr (up h)
    · by_cases hk2 : k = j
      · subst hk2; rw [hte]; exact ⟨fun h => hnl (Or.inl h), by omega⟩
      · exact c k (by omega) q
    · rw [d t b' h0 h1 b0 b1]
      constructor
      · rintro (h | h)
        · exact Or.inl h
        · exact Or.inr (up h)
      · rintro (h | h)
        · exact Or.inl h
        · rcases split1 h with h | ⟨-, h2, h3, -⟩
          · exact Or.inr h
          · exact absurd (by rw [h3, ← h2, hte]) hne
