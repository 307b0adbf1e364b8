theorem cN_upd {f : Int → Int} {r v : Int} (h0 : 0 ≤ r) (hz : f r = 0) (hv : v ≠ 0) : ∀ n : Nat, cN (uZ f r v) n = cN f n + (if r < n then 1 else 0)
  | 0 => by simp [cN]; omega
  | n + 1 => by
    have ih := cN_upd h0 hz hv n
    unfold cN
    rw [ih]
    by_cases e : (n : Int) = r
    · subst e
      rw [uZ_s, if_neg (show ¬ ((n : Int) < (n : Int)) by omega), if_neg hv, if_pos hz, if_pos (show (n : Int) < ((n + 1 : Nat) : Int) by omega)]
      try omega
    · rw [uZ_n e]
      by_cases h : r < (n : Int)
      · rw [if_pos h, if_pos (show r < ((n + 1 : Nat) : Int) by omega)]; omega
      · rw [if_neg h, if_neg (show ¬ r < ((n + 1 : Nat) : Int) by omega)]; omega
theorem cI_upd {f : Int → Int} {r v k : Int} (h0 : 0 ≤ r) (h1 : r < k) (hz : f r = 0) (hv : v ≠ 0) : cI (uZ f r v) k = cI f k + 1 := by
  unfold cI
  rw [cN_upd h0 hz hv, if_pos (by omega)]
theorem cI_full {f : Int → Int} {k : Int} (hk : 0 ≤ k) (h : cI f k = k) : ∀ j : Int, 0 ≤ j → j < k → f j ≠ 0 := by
  intro j h0 h1 hz
  have a := cI_s0 h0 hz
  have b := cI_b f h0
  have c : ∀ d : Nat, cI f (j + 1 + d) ≤ cI f (j + 1) + d := by
    intro d
    induction d with
    | zero => simp
    | succ d ih =>
      have := cI_s (f := f) (show 0 ≤ j + 1 + (d : Int) by omega)
      rw [show j + 1 + ((d + 1 : Nat) : Int) = j + 1 + (d : Int) + 1 by omega, this]
      split <;> omega
  have d := c (k - (j + 1)).toNat
  rw [show j + 1 + ((k - (j + 1)).toNat : Int) = k by omega] at d
  omega
def DJ (sz rt nt co : Int → Int) (self : Int) (su sr se : Int → Int) (rd : Int) : Prop :=
  su self = 0 ∧ (∀ t : Int, 0 ≤ t → t < 64 → su t = -1 ∨ (0 ≤ su t ∧ su t ≤ 1000 * rd)) ∧
  (∀ t : Int, 0 ≤ t → t < 64 → su t ≠ -1 → ∃ n, Rc (eg sz rt nt co) self n t (su t)) ∧
  (∀ r : Int, 0 ≤ r → r < 64 → se r = 1 → su r ≠ -1) ∧
  (∀ r t : Int, 0 ≤ r → r < 64 → 0 ≤ t → t < 64 → se r = 1 → se t = 0 → su t ≠ -1 → su r ≤ su t) ∧
  (∀ r k : Int, 0 ≤ r → r < 64 → se r = 1 → usb sz rt nt r k → su (rt (r * 24 + k)) ≠ -1 ∧ su (rt (r * 24 + k)) ≤ su r + co (r * 24 + k)) ∧
  (∀ t b : Int, 0 ≤ t → t < 64 → t ≠ self → 0 ≤ b → b < 24 → (tb (sr t) b ↔ ∃ r k : Int, 0 ≤ r ∧ r < 64 ∧ se r = 1 ∧ usb sz rt nt r k ∧ rt (r * 24 + k) = t ∧ su r + co (r * 24 + k) = su t ∧ bgn sr self r k b)) ∧
  cI se 64 = rd
/-- the rows as far as the ways need them -/
def AOK (sz rt co : Int → Int) : Prop := (∀ i : Int, -1 ≤ rt i ∧ rt i ≤ 63) ∧ (∀ i : Int, 0 ≤ co i ∧ co i ≤ 1000) ∧ ∀ r k : Int, 0 ≤ r → r < 64 → 0 ≤ k → k < sz r → 1 ≤ co (r * 24 + k)
theorem usb_t {sz rt nt co : Int → Int} (hA : AOK sz rt co) {r k : Int} (hu : usb sz rt nt r k) : 0 ≤ rt (r * 24 + k) ∧ rt (r * 24 + k) < 64 := by
  have := hA.1 (r * 24 + k)
  have := hu.2.2.1
  omega
theorem usb_c {sz rt nt co : Int → Int} (hA : AOK sz rt co) {r k : Int} (h0 : 0 ≤ r) (h1 : r < 64) (hu : usb sz rt nt r k) : 1 ≤ co (r * 24 + k) := hA.2.2 r k h0 h1 hu.1 hu.2.1
theorem DJ_0 {sz rt nt co : Int → Int} {self : Int} {su sr se : Int → Int} (hs : 0 ≤ self ∧ self < 64) (h1 : su self = 0) (h2 : ∀ t : Int, 0 ≤ t → t < 64 → t ≠ self → su t = -1) (h3 : ∀ t : Int, 0 ≤ t → t < 64 → sr t = 0) (h4 : ∀ t : Int, 0 ≤ t → t < 64 → se t = 0) : DJ sz rt nt co self su sr se 0 := by
  refine ⟨h1, fun t a b => ?_, fun t a b c => ?_, fun r a b c => ?_, fun r t a b _ _ c => ?_, fun r k a b c => ?_, fun t b' a b c _ _ => ?_, ?_⟩
  · by_cases e : t = self
    · rw [e, h1]; exact Or.inr ⟨by omega, by omega⟩
    · exact Or.inl (h2 t a b e)
  · by_cases e : t = self
    · rw [e, h1]; exact ⟨0, rfl, rfl⟩
    · exact absurd (h2 t a b e) c
  · rw [h4 r a b] at c; omega
  · rw [h4 r a b] at c; omega
  · rw [h4 r a b] at c; omega
  · rw [h3 t a b]
    constructor
    · intro h; exact absurd h tb_0
    · rintro ⟨r, k, r0, r1, h, -⟩; rw [h4 r r0 r1] at h; omega
  · rw [cI_congr (g := fun _ => 0) (fun j a b => by simp [h4 j a b])]
    decide
theorem DJ_step {sz rt nt co : Int → Int} {self : Int} {su sr se sv sx : Int → Int} {rd r : Int} (hA : AOK sz rt co) (hs : 0 ≤ self ∧ self < 64) (hr : 0 ≤ r ∧ r < 64) (hse : ∀ t : Int, se t = 0 ∨ se t = 1) (hun : se r = 0) (hre : su r ≠ -1) (hnear : ∀ t : Int, 0 ≤ t → t < 64 → se t = 0 → su t ≠ -1 → su r ≤ su t)
    (hD : DJ sz rt nt co self su sr se rd) (hG : GO sz rt nt co self r su sr sv sx (sz r)) : DJ sz rt nt co self sv sx (uZ se r 1) (rd + 1) := by
  obtain ⟨d1, d2, d3, d4, d5, d6, d7, d8⟩ := hD
  obtain ⟨g1, g2, g3, g4, g5⟩ := hG
  have hr0 : 0 ≤ su r ∧ su r ≤ 1000 * rd := by rcases d2 r hr.1 hr.2 with h | h; exact absurd h hre; exact h
  have hset : ∀ x : Int, 0 ≤ x → x < 64 → se x = 1 → sv x = su x ∧ sx x = sr x ∧ su x ≤ su r := by
    intro x x0 x1 hx
    have h1 := d5 x r x0 x1 hr.1 hr.2 hx hun hre
    have h2 := g5 x x0 x1 (d4 x x0 x1 hx) h1
    exact ⟨h2.1, h2.2, h1⟩
  have hrr := g5 r hr.1 hr.2 hre (Int.le_refl _)
  have hset2 : ∀ x : Int, 0 ≤ x → x < 64 → uZ se r 1 x = 1 → sv x = su x ∧ sx x = sr x ∧ su x ≤ su r ∧ (x = r ∨ se x = 1) := by
    intro x x0 x1 hx
    by_cases e : x = r
    · subst e; exact ⟨hrr.1, hrr.2, Int.le_refl _, Or.inl rfl⟩
    · rw [uZ_n e] at hx
      have := hset x x0 x1 hx
      exact ⟨this.1, this.2.1, this.2.2, Or.inr hx⟩
  have hself : sv self = su self := (g5 self hs.1 hs.2 (by rw [d1]; omega) (by rw [d1]; omega)).1
  refine ⟨by rw [hself]; exact d1, fun t t0 t1 => ?_, fun t t0 t1 ht => ?_, fun x x0 x1 hx => ?_, fun x t x0 x1 t0 t1 hx ht hn => ?_, fun x k x0 x1 hx hu => ?_, fun t b t0 t1 hts b0 b1 => ?_, ?_⟩
  · rcases g1 t t0 t1 with h | ⟨k, -, hu, -, h⟩
    · rw [h]
      rcases d2 t t0 t1 with q | q
      · exact Or.inl q
      · exact Or.inr ⟨q.1, by omega⟩
    · have := hA.2.1 (r * 24 + k)
      rw [h]
      exact Or.inr ⟨by omega, by omega⟩
  · rcases g1 t t0 t1 with h | ⟨k, -, hu, hk, h⟩
    · rw [h] at ht ⊢; exact d3 t t0 t1 ht
    · obtain ⟨n, hn⟩ := d3 r hr.1 hr.2 hre
      exact ⟨n + 1, r, su r, co (r * 24 + k), hn, ⟨k, hu, hk, rfl⟩, h⟩
  · obtain ⟨a, -, -, b⟩ := hset2 x x0 x1 hx
    rw [a]
    rcases b with rfl | b
    · exact hre
    · exact d4 x x0 x1 b
  · obtain ⟨a, -, hle, -⟩ := hset2 x x0 x1 hx
    rw [a]
    have hte : t ≠ r := by intro q; subst q; rw [uZ_s] at ht; omega
    rw [uZ_n hte] at ht
    rcases g1 t t0 t1 with h | ⟨k, -, hu, -, h⟩
    · rw [h] at hn ⊢
      have := hnear t t0 t1 ht hn
      omega
    · have := usb_c hA hr.1 hr.2 hu
      omega
  · obtain ⟨a, -, -, b⟩ := hset2 x x0 x1 hx
    have ht := usb_t hA hu
    rw [a]
    by_cases e : x = r
    · subst e; exact g3 k hu.2.1 hu
    · have hx1 : se x = 1 := by rcases b with b | b; exact absurd b e; exact b
      have h1 := d6 x k x0 x1 hx1 hu
      have h2 := g2 _ ht.1 ht.2 h1.1
      exact ⟨h2.1, by omega⟩
  · rw [g4 t b t0 t1 b0 b1]
    constructor
    · rintro (⟨h1, h2⟩ | ⟨k, -, hu, hk, he, hb⟩)
      · obtain ⟨x, k, x0, x1, hx, hu, hk, he, hb⟩ := (d7 t b t0 t1 hts b0 b1).mp h2
        have hq := hset x x0 x1 hx
        have hxr : x ≠ r := by intro q; subst q; omega
        refine ⟨x, k, x0, x1, by rw [uZ_n hxr]; exact hx, hu, hk, by rw [hq.1, h1]; exact he, ?_⟩
        rcases hb with hb | ⟨hb1, hb2⟩
        · exact Or.inl hb
        · exact Or.inr ⟨hb1, by rw [hq.2.1]; exact hb2⟩
      · refine ⟨r, k, hr.1, hr.2, uZ_s, hu, hk, by rw [hrr.1]; exact he, ?_⟩
        rcases hb with hb | ⟨hb1, hb2⟩
        · exact Or.inl hb
        · exact Or.inr ⟨hb1, by rw [hrr.2]; exact hb2⟩
    · rintro ⟨x, k, x0, x1, hx, hu, hk, he, hb⟩
      obtain ⟨a1, a2, -, b'⟩ := hset2 x x0 x1 hx
      have hb' : bgn sr self x k b := by
        rcases hb with hb | ⟨hb1, hb2⟩
        · exact Or.inl hb
        · exact Or.inr ⟨hb1, by rw [← a2]; exact hb2⟩
      by_cases e : x = r
      · subst e
        exact Or.inr ⟨k, hu.2.1, hu, hk, by rw [← a1]; exact he, hb'⟩
      · have hx1 : se x = 1 := by rcases b' with q | q; exact absurd q e; exact q
        have h1 := d6 x k x0 x1 hx1 hu
        rw [hk] at h1
        have h2 := g2 t t0 t1 h1.1
        have h3 : sv t = su t := by omega
        refine Or.inl ⟨h3, (d7 t b t0 t1 hts b0 b1).mpr ⟨x, k, x0, x1, hx1, hu, hk, by omega, hb'⟩⟩
  · rw [cI_upd hr.1 hr.2 hun (by omega), d8]
theorem Rc_in {sz rt nt co : Int → Int} (hA : AOK sz rt co) {src : Int} (hs : 0 ≤ src ∧ src < 64) : ∀ (n : Nat) (t d : Int), Rc (eg sz rt nt co) src n t d → 0 ≤ t ∧ t < 64
  | 0, t, d, h => by rw [h.1]; exact hs
  | n + 1, t, d, ⟨p, d0, c, _, ⟨k, hu, hk, _⟩, _⟩ => by rw [← hk]; exact usb_t hA hu
theorem Rc_nn {sz rt nt co : Int → Int} (hA : AOK sz rt co) {src : Int} (hs : 0 ≤ src ∧ src < 64) : ∀ (n : Nat) (t d : Int), Rc (eg sz rt nt co) src n t d → 0 ≤ d
  | 0, t, d, h => by rw [h.2]; omega
  | n + 1, t, d, ⟨p, d0, c, h1, ⟨k, hu, hk, hc⟩, h3⟩ => by
    have := Rc_nn hA hs n p d0 h1
    have := hA.2.1 (p * 24 + k)
    omega
/-- a step more at the front -/
theorem Rc_cons {E : Int → Int → Int → Prop} {src x c : Int} (h : E src x c) : ∀ (n : Nat) (t d : Int), Rc E x n t d → Rc E src (n + 1) t (c + d)
  | 0, t, d, ⟨h1, h2⟩ => by subst h1; subst h2; exact ⟨src, 0, c, ⟨rfl, rfl⟩, h, by omega⟩
  | n + 1, t, d, ⟨p, d0, c', h1, h2, h3⟩ => ⟨p, c + d0, c', Rc_cons h n p d0 h1, h2, by omega⟩
theorem DJ_end {sz rt nt co : Int → Int} {self : Int} {su sr se : Int → Int} {rd : Int} (hA : AOK sz rt co) (hs : 0 ≤ self ∧ self < 64) (hall : ∀ t : Int, 0 ≤ t → t < 64 → su t ≠ -1 → se t = 1) (hD : DJ sz rt nt co self su sr se rd) : WAYS sz rt nt co self su sr := by
  obtain ⟨d1, d2, d3, d4, d5, d6, d7, d8⟩ := hD
  have least : ∀ (n : Nat) (t d : Int), Rc (eg sz rt nt co) self n t d → su t ≠ -1 ∧ su t ≤ d := by
    intro n
    induction n with
    | zero => rintro t d ⟨rfl, rfl⟩; rw [d1]; exact ⟨by omega, by omega⟩
    | succ n ih =>
      rintro t d ⟨p, d0, c, h1, ⟨k, hu, hk, hc⟩, h3⟩
      have hp := Rc_in hA hs n p d0 h1
      have h4 := ih p d0 h1
      have h5 := d6 p k hp.1 hp.2 (hall p hp.1 hp.2 h4.1) hu
      rw [hk] at h5
      exact ⟨h5.1, by omega⟩
  have hdist : isD (eg sz rt nt co) self su := by
    intro t t0 t1
    rcases d2 t t0 t1 with h | h
    · exact Or.inl ⟨h, fun n d q => (least n t d q).1 h⟩
    · exact Or.inr ⟨h.1, d3 t t0 t1 (by omega), fun n d q => (least n t d q).2⟩
  refine ⟨hdist, ?_⟩
  have fwd : ∀ (m : Nat) (t b : Int), 0 ≤ t → t < 64 → t ≠ self → su t ≠ -1 → 0 ≤ b → b < 24 → (su t).toNat ≤ m → tb (sr t) b → FS sz rt nt co self b t (su t) := by
    intro m
    induction m with
    | zero =>
      intro t b t0 t1 ts tn b0 b1 hm ht
      obtain ⟨r, k, r0, r1, hr, hu, hk, he, hb⟩ := (d7 t b t0 t1 ts b0 b1).mp ht
      have h1 := usb_c hA r0 r1 hu
      have h2 := d2 r r0 r1
      have h3 := d4 r r0 r1 hr
      omega
    | succ m ih =>
      intro t b t0 t1 ts tn b0 b1 hm ht
      obtain ⟨r, k, r0, r1, hr, hu, hk, he, hb⟩ := (d7 t b t0 t1 ts b0 b1).mp ht
      have h1 := usb_c hA r0 r1 hu
      have h2 := d2 r r0 r1
      have h3 := d4 r r0 r1 hr
      rcases hb with ⟨rfl, rfl⟩ | ⟨hrs, hb⟩
      · exact ⟨hu, 0, 0, ⟨hk.symm, rfl⟩, by omega⟩
      · obtain ⟨hu2, n, d0, hn, hd⟩ := ih r b r0 r1 hrs h3 b0 b1 (by omega) hb
        exact ⟨hu2, n + 1, d0 + co (r * 24 + k), ⟨r, d0, co (r * 24 + k), hn, ⟨k, hu, hk, rfl⟩, rfl⟩, by omega⟩
  have bwd : ∀ (n : Nat) (t b d0 : Int), 0 ≤ b → b < 24 → t ≠ self → usb sz rt nt self b → Rc (eg sz rt nt co) (rt (self * 24 + b)) n t d0 → su t = co (self * 24 + b) + d0 → tb (sr t) b := by
    intro n
    induction n with
    | zero =>
      rintro t b d0 b0 b1 ts hu ⟨rfl, rfl⟩ hd
      have ht := usb_t hA hu
      refine (d7 _ b ht.1 ht.2 ts b0 b1).mpr ⟨self, b, hs.1, hs.2, hall self hs.1 hs.2 (by omega), hu, rfl, by omega, Or.inl ⟨rfl, rfl⟩⟩
    | succ n ih =>
      rintro t b d0 b0 b1 ts hu ⟨p, d1', c, h1, ⟨k, hu2, hk, hc⟩, h3⟩ hd
      have hx := usb_t hA hu
      have hp := Rc_in hA hx n p d1' h1
      have ht := usb_t hA hu2
      rw [hk] at ht
      have hpath := Rc_cons (E := eg sz rt nt co) (src := self) (x := rt (self * 24 + b)) (c := co (self * 24 + b)) ⟨b, hu, rfl, rfl⟩ n p d1' h1
      have h4 := least _ _ _ hpath
      have hps := hall p hp.1 hp.2 h4.1
      have h5 := d6 p k hp.1 hp.2 hps hu2
      rw [hk] at h5
      have h6 : su p = co (self * 24 + b) + d1' := by omega
      have hcb := usb_c hA hs.1 hs.2 hu
      have hnn := Rc_nn hA hx n p d1' h1
      have hpse : p ≠ self := by intro q; subst q; omega
      have h7 := ih p b d1' b0 b1 hpse hu h1 h6
      exact (d7 t b ht.1 ht.2 ts b0 b1).mpr ⟨p, k, hp.1, hp.2, hps, hu2, hk, by omega, Or.inr ⟨hpse, h7⟩⟩
  intro t t0 t1 ts tn b b0 b1
  constructor
  · exact fwd _ t b t0 t1 ts tn b0 b1 (Nat.le_refl _)
  · rintro ⟨hu, n, d0, hn, hd⟩
    exact bwd n t b d0 b0 b1 ts hu hn hd
