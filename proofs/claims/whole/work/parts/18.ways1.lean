def NRS (su se : Int → Int) (i rv : Int) : Prop := (rv = -1 ∧ ∀ t : Int, 0 ≤ t → t < i → ¬ (se t = 0 ∧ su t ≠ -1)) ∨ (0 ≤ rv ∧ rv < i ∧ se rv = 0 ∧ su rv ≠ -1 ∧ ∀ t : Int, 0 ≤ t → t < i → se t = 0 → su t ≠ -1 → su rv ≤ su t)
theorem NRS_0 {su se : Int → Int} : NRS su se 0 (-1) := Or.inl ⟨rfl, fun t h0 h1 => absurd h1 (by omega)⟩
theorem NRS_skip {su se : Int → Int} {i rv : Int} (hi : 0 ≤ i) (h : NRS su se i rv) (hk : ¬ (se i = 0 ∧ su i ≠ -1) ∨ (rv ≠ -1 ∧ su rv ≤ su i)) : NRS su se (i + 1) rv := by
  rcases h with ⟨a, b⟩ | ⟨a, b, c, d, e⟩
  · refine Or.inl ⟨a, fun t t0 t1 => ?_⟩
    by_cases q : t = i
    · subst q; rcases hk with hk | hk; exact hk; exact absurd a hk.1
    · exact b t t0 (by omega)
  · refine Or.inr ⟨a, by omega, c, d, fun t t0 t1 h1 h2 => ?_⟩
    by_cases q : t = i
    · subst q; rcases hk with hk | hk; exact absurd ⟨h1, h2⟩ hk; exact hk.2
    · exact e t t0 (by omega) h1 h2
theorem NRS_take {su se : Int → Int} {i rv : Int} (hi : 0 ≤ i) (h : NRS su se i rv) (h1 : se i = 0) (h2 : su i ≠ -1) (hk : rv = -1 ∨ su i < su rv) : NRS su se (i + 1) i := by
  refine Or.inr ⟨hi, by omega, h1, h2, fun t t0 t1 q1 q2 => ?_⟩
  by_cases q : t = i
  · subst q; omega
  · rcases h with ⟨a, b⟩ | ⟨a, b, c, d, e⟩
    · exact absurd ⟨q1, q2⟩ (b t t0 (by omega))
    · have := e t t0 (by omega) q1 q2
      rcases hk with hk | hk
      · omega
      · omega
/-- router r tells a port on net n: v is the sum over it -/
def ps (sz rt nt co su : Int → Int) (r n v : Int) : Prop := su r ≠ -1 ∧ ∃ k : Int, 0 ≤ k ∧ k < sz r ∧ rt (r * 24 + k) = -1 ∧ nt (r * 24 + k) = n ∧ v = su r + co (r * 24 + k)
def PSO (sz rt nt co su : Int → Int) (r n v : Int) : Prop := (v = -1 ∧ ∀ w : Int, ¬ ps sz rt nt co su r n w) ∨ ps sz rt nt co su r n v
def UNQ (sz rt nt : Int → Int) : Prop := ∀ r a b : Int, 0 ≤ r → r < 64 → 0 ≤ a → a < sz r → 0 ≤ b → b < sz r → rt (r * 24 + a) = rt (r * 24 + b) → nt (r * 24 + a) = nt (r * 24 + b) → a = b
theorem ps_uniq {sz rt nt co su : Int → Int} (hU : UNQ sz rt nt) {r n v w : Int} (h0 : 0 ≤ r) (h1 : r < 64) (hv : ps sz rt nt co su r n v) (hw : ps sz rt nt co su r n w) : v = w := by
  obtain ⟨-, k, a, b, c, d, e⟩ := hv
  obtain ⟨-, k', a', b', c', d', e'⟩ := hw
  have := hU r k k' h0 h1 a b a' b' (by rw [c, c']) (by rw [d, d'])
  subst this
  rw [e, e']
theorem ps_pos {sz rt nt co su : Int → Int} (hA : AOK sz rt co) (hs : ∀ i : Int, -1 ≤ su i ∧ su i ≤ 64000) {r n v : Int} (h0 : 0 ≤ r) (h1 : r < 64) (hv : ps sz rt nt co su r n v) : 1 ≤ v ∧ v ≤ 65000 := by
  obtain ⟨q, k, a, b, c, d, e⟩ := hv
  have := hA.2.2 r k h0 h1 a b
  have := hA.2.1 (r * 24 + k)
  have := hs r
  omega
def LST (sz rt nt co su : Int → Int) (n i rv : Int) : Prop := (rv = -1 ∧ ∀ r w : Int, 0 ≤ r → r < i → ¬ ps sz rt nt co su r n w) ∨ (0 ≤ rv ∧ (∃ r : Int, 0 ≤ r ∧ r < i ∧ ps sz rt nt co su r n rv) ∧ ∀ r w : Int, 0 ≤ r → r < i → ps sz rt nt co su r n w → rv ≤ w)
theorem LST_0 {sz rt nt co su : Int → Int} {n : Int} : LST sz rt nt co su n 0 (-1) := Or.inl ⟨rfl, fun r w h0 h1 => absurd h1 (by omega)⟩
theorem LST_none {sz rt nt co su : Int → Int} {n i rv v : Int} (h : LST sz rt nt co su n i rv) (hv : PSO sz rt nt co su i n v) (hn : v = -1) (hp : ¬ ps sz rt nt co su i n (-1)) : LST sz rt nt co su n (i + 1) rv := by
  have hno : ∀ w : Int, ¬ ps sz rt nt co su i n w := by
    rcases hv with ⟨-, h⟩ | h
    · exact h
    · rw [hn] at h; exact absurd h hp
  rcases h with ⟨a, b⟩ | ⟨a, ⟨r, c⟩, d⟩
  · refine Or.inl ⟨a, fun r w h0 h1 => ?_⟩
    by_cases q : r = i
    · subst q; exact hno w
    · exact b r w h0 (by omega)
  · refine Or.inr ⟨a, ⟨r, c.1, by omega, c.2.2⟩, fun r w h0 h1 hw => ?_⟩
    by_cases q : r = i
    · subst q; exact absurd hw (hno w)
    · exact d r w h0 (by omega) hw
theorem LST_keep {sz rt nt co su : Int → Int} {n i rv v : Int} (hU : UNQ sz rt nt) (hi : 0 ≤ i ∧ i < 64) (h : LST sz rt nt co su n i rv) (hv : ps sz rt nt co su i n v) (hn : rv ≠ -1) (hle : rv ≤ v) : LST sz rt nt co su n (i + 1) rv := by
  rcases h with ⟨a, b⟩ | ⟨a, ⟨r, c⟩, d⟩
  · exact absurd a hn
  · refine Or.inr ⟨a, ⟨r, c.1, by omega, c.2.2⟩, fun r w h0 h1 hw => ?_⟩
    by_cases q : r = i
    · subst q; rw [ps_uniq hU hi.1 hi.2 hw hv]; exact hle
    · exact d r w h0 (by omega) hw
theorem LST_take {sz rt nt co su : Int → Int} {n i rv v : Int} (hU : UNQ sz rt nt) (hi : 0 ≤ i ∧ i < 64) (h : LST sz rt nt co su n i rv) (hv : ps sz rt nt co su i n v) (h0 : 0 ≤ v) (hlt : rv = -1 ∨ v < rv) : LST sz rt nt co su n (i + 1) v := by
  refine Or.inr ⟨h0, ⟨i, hi.1, by omega, hv⟩, fun r w r0 r1 hw => ?_⟩
  by_cases q : r = i
  · subst q; rw [ps_uniq hU hi.1 hi.2 hw hv]; omega
  · rcases h with ⟨a, b⟩ | ⟨a, ⟨r', c⟩, d⟩
    · exact absurd hw (b r w r0 (by omega))
    · have := d r w r0 (by omega) hw
      rcases hlt with hlt | hlt
      · omega
      · omega
/-- the mask of the routers below i at which the net is least -/
def MSK (sz rt nt co su sr : Int → Int) (n L i m : Int) : Prop := (0 ≤ m ∧ m ≤ 16777215) ∧ ∀ b : Int, 0 ≤ b → b < 24 → (tb m b ↔ ∃ r : Int, 0 ≤ r ∧ r < i ∧ ps sz rt nt co su r n L ∧ tb (sr r) b)
theorem MSK_0 {sz rt nt co su sr : Int → Int} {n L : Int} : MSK sz rt nt co su sr n L 0 0 := ⟨by omega, fun b _ _ => ⟨fun h => absurd h tb_0, fun ⟨r, h0, h1, _⟩ => absurd h1 (by omega)⟩⟩
theorem MSK_skip {sz rt nt co su sr : Int → Int} {n L i m : Int} (h : MSK sz rt nt co su sr n L i m) (hno : ¬ ps sz rt nt co su i n L) : MSK sz rt nt co su sr n L (i + 1) m := by
  refine ⟨h.1, fun b b0 b1 => ?_⟩
  rw [h.2 b b0 b1]
  constructor
  · rintro ⟨r, h0, h1, h2⟩; exact ⟨r, h0, by omega, h2⟩
  · rintro ⟨r, h0, h1, h2, h3⟩
    by_cases q : r = i
    · subst q; exact absurd h2 hno
    · exact ⟨r, h0, by omega, h2, h3⟩
theorem MSK_or {sz rt nt co su sr : Int → Int} {n L i m : Int} (hi : 0 ≤ i) (hs : 0 ≤ sr i ∧ sr i ≤ 16777215) (h : MSK sz rt nt co su sr n L i m) (hp : ps sz rt nt co su i n L) : MSK sz rt nt co su sr n L (i + 1) (lorI m (sr i)) := by
  have hb := lorI_b (x := m) (y := sr i) ⟨h.1.1, by have := h.1.2; omega⟩ ⟨hs.1, by omega⟩
  refine ⟨⟨hb.1, by omega⟩, fun b b0 b1 => ?_⟩
  rw [tb_lor, h.2 b b0 b1]
  constructor
  · rintro (⟨r, h0, h1, h2⟩ | h2)
    · exact ⟨r, h0, by omega, h2⟩
    · exact ⟨i, hi, by omega, hp, h2⟩
  · rintro ⟨r, h0, h1, h2, h3⟩
    by_cases q : r = i
    · subst q; exact Or.inr h3
    · exact Or.inl ⟨r, h0, by omega, h2, h3⟩
