/-! First steps: what both sides count. -/
def FST (sz rt nt co : Int → Int) (self n best b : Int) : Prop := usb sz rt nt self b ∧ ∃ (r : Int) (m : Nat) (d0 k : Int), 0 ≤ r ∧ r < 64 ∧ Rc (eg sz rt nt co) (rt (self * 24 + b)) m r d0 ∧ 0 ≤ k ∧ k < sz r ∧ rt (r * 24 + k) = -1 ∧ nt (r * 24 + k) = n ∧ co (self * 24 + b) + d0 + co (r * 24 + k) = best
noncomputable def fsF (sz rt nt co : Int → Int) (self n best : Int) : Int → Int := fun b => @ite Int (FST sz rt nt co self n best b) (Classical.propDecidable _) 1 0
theorem fsF_1 {sz rt nt co : Int → Int} {self n best b : Int} (h : FST sz rt nt co self n best b) : ¬ fsF sz rt nt co self n best b = 0 := by
  unfold fsF
  rw [if_pos h]
  omega
theorem fsF_0 {sz rt nt co : Int → Int} {self n best b : Int} (h : ¬ FST sz rt nt co self n best b) : fsF sz rt nt co self n best b = 0 := if_neg h
theorem fsF_e {sz rt nt co : Int → Int} {self n best b : Int} (h : ¬ fsF sz rt nt co self n best b = 0) : FST sz rt nt co self n best b := Classical.byContradiction (fun q => h (fsF_0 q))
theorem FST_ge {sz rt nt co su : Int → Int} {self n best b r d0 k : Int} {m : Nat} (hD : isD (eg sz rt nt co) self su) (hL : LST sz rt nt co su n 64 best) (hu : usb sz rt nt self b) (h0 : 0 ≤ r) (h1 : r < 64) (hr : Rc (eg sz rt nt co) (rt (self * 24 + b)) m r d0)
    (k0 : 0 ≤ k) (k1 : k < sz r) (k2 : rt (r * 24 + k) = -1) (k3 : nt (r * 24 + k) = n) : su r ≠ -1 ∧ su r ≤ co (self * 24 + b) + d0 ∧ best ≠ -1 ∧ best ≤ su r + co (r * 24 + k) := by
  have hc := Rc_cons (E := eg sz rt nt co) (src := self) (x := rt (self * 24 + b)) (c := co (self * 24 + b)) ⟨b, hu, rfl, rfl⟩ m r d0 hr
  rcases hD r h0 h1 with ⟨-, q⟩ | ⟨q0, -, q2⟩
  · exact absurd hc (q _ _)
  · have hne : su r ≠ -1 := by omega
    have hp : ps sz rt nt co su r n (su r + co (r * 24 + k)) := ⟨hne, k, k0, k1, k2, k3, rfl⟩
    have h2 := q2 _ _ hc
    rcases hL with ⟨-, w⟩ | ⟨w0, -, w2⟩
    · exact absurd hp (w r _ h0 h1)
    · exact ⟨hne, h2, by omega, w2 r _ h0 h1 hp⟩
theorem FST_model {sz rt nt co su f : Int → Int} {self n best rest b : Int} (hD : isD (eg sz rt nt co) self su) (hL : LST sz rt nt co su n 64 best) (hu : usb sz rt nt self b) (hDf : isD (eg sz rt nt co) (rt (self * 24 + b)) f) (hLf : LST sz rt nt co f n 64 rest) :
    (0 ≤ rest ∧ co (self * 24 + b) + rest = best) ↔ FST sz rt nt co self n best b := by
  have get : 0 ≤ rest → ∃ (r : Int) (m : Nat) (k : Int), 0 ≤ r ∧ r < 64 ∧ Rc (eg sz rt nt co) (rt (self * 24 + b)) m r (f r) ∧ 0 ≤ k ∧ k < sz r ∧ rt (r * 24 + k) = -1 ∧ nt (r * 24 + k) = n ∧ rest = f r + co (r * 24 + k) := by
    intro h
    rcases hLf with ⟨w, -⟩ | ⟨-, ⟨r, r0, r1, ⟨p0, k, k0, k1, k2, k3, k4⟩⟩, -⟩
    · omega
    · rcases hDf r r0 r1 with ⟨q, -⟩ | ⟨-, ⟨m, q⟩, -⟩
      · exact absurd q p0
      · exact ⟨r, m, k, r0, r1, q, k0, k1, k2, k3, k4⟩
  constructor
  · rintro ⟨h, e⟩
    obtain ⟨r, m, k, r0, r1, q, k0, k1, k2, k3, k4⟩ := get h
    exact ⟨hu, r, m, f r, k, r0, r1, q, k0, k1, k2, k3, by omega⟩
  · rintro ⟨-, r, m, d0, k, r0, r1, q, k0, k1, k2, k3, e⟩
    have hle : 0 ≤ rest ∧ rest ≤ d0 + co (r * 24 + k) := by
      rcases hDf r r0 r1 with ⟨-, w⟩ | ⟨w0, -, w2⟩
      · exact absurd q (w _ _)
      · have h2 := w2 _ _ q
        have hp : ps sz rt nt co f r n (f r + co (r * 24 + k)) := ⟨by omega, k, k0, k1, k2, k3, rfl⟩
        rcases hLf with ⟨-, v⟩ | ⟨v0, -, v2⟩
        · exact absurd hp (v r _ r0 r1)
        · have := v2 r _ r0 r1 hp
          exact ⟨v0, by omega⟩
    obtain ⟨r', m', k', r0', r1', q', k0', k1', k2', k3', k4'⟩ := get hle.1
    have := FST_ge hD hL hu r0' r1' q' k0' k1' k2' k3'
    exact ⟨hle.1, by omega⟩
theorem FST_class {sz rt nt co su sr : Int → Int} {self n best m b : Int} (hW : WAYS sz rt nt co self su sr) (hL : LST sz rt nt co su n 64 best) (hno : ¬ (best = -1 ∨ ps sz rt nt co su self n best)) (hM : MSK sz rt nt co su sr n best 64 m) (b0 : 0 ≤ b) (b1 : b < 24) :
    tb m b ↔ FST sz rt nt co self n best b := by
  rw [hM.2 b b0 b1]
  constructor
  · rintro ⟨r, r0, r1, hp, ht⟩
    have hne : r ≠ self := fun q => hno (Or.inr (q ▸ hp))
    obtain ⟨p0, k, k0, k1, k2, k3, k4⟩ := hp
    obtain ⟨hu, m', d0, hr, hd⟩ := (hW.2 r r0 r1 hne p0 b b0 b1).1 ht
    exact ⟨hu, r, m', d0, k, r0, r1, hr, k0, k1, k2, k3, by omega⟩
  · rintro ⟨hu, r, m', d0, k, r0, r1, hr, k0, k1, k2, k3, e⟩
    have h := FST_ge hW.1 hL hu r0 r1 hr k0 k1 k2 k3
    have he : su r = co (self * 24 + b) + d0 := by omega
    have hp : ps sz rt nt co su r n best := ⟨h.1, k, k0, k1, k2, k3, by omega⟩
    have hne : r ≠ self := fun q => hno (Or.inr (q ▸ hp))
    exact ⟨r, r0, r1, hp, (hW.2 r r0 r1 hne h.1 b b0 b1).2 ⟨hu, m', d0, hr, he⟩⟩
def TLD (F nt rt : Int → Int) (it k e tl : Int) : Prop := (tl = -1 ∧ (k < 0 ∨ cI F e ≤ k)) ∨ ∃ b : Int, 0 ≤ b ∧ b < e ∧ ¬ F b = 0 ∧ cI F b = k ∧ tl = 64 * nt (it * 24 + b) + rt (it * 24 + b)
theorem TLD_0 {F nt rt : Int → Int} {it k : Int} : TLD F nt rt it k 0 (-1) := Or.inl ⟨rfl, by rw [cI_0]; omega⟩
theorem TLD_skip {F nt rt : Int → Int} {it k e tl : Int} (he : 0 ≤ e) (hF : F e = 0) (h : TLD F nt rt it k e tl) : TLD F nt rt it k (e + 1) tl := by
  rcases h with ⟨a, b⟩ | ⟨b, b0, b1, b2, b3, b4⟩
  · exact Or.inl ⟨a, by rw [cI_s0 he hF]; exact b⟩
  · exact Or.inr ⟨b, b0, by omega, b2, b3, b4⟩
theorem TLD_hit {F nt rt : Int → Int} {it k e x : Int} (he : 0 ≤ e) (hF : ¬ F e = 0) (hk : cI F e = k) (hx : x = it * 24 + e) : TLD F nt rt it k (e + 1) (64 * nt x + rt x) := by
  subst hx
  exact Or.inr ⟨e, he, by omega, hF, hk, rfl⟩
theorem TLD_miss {F nt rt : Int → Int} {it k e tl : Int} (he : 0 ≤ e) (hF : ¬ F e = 0) (hk : ¬ cI F e = k) (h : TLD F nt rt it k e tl) : TLD F nt rt it k (e + 1) tl := by
  rcases h with ⟨a, b⟩ | ⟨b, b0, b1, b2, b3, b4⟩
  · exact Or.inl ⟨a, by rw [cI_s1 he hF]; omega⟩
  · exact Or.inr ⟨b, b0, by omega, b2, b3, b4⟩
theorem TLD_b {F nt rt : Int → Int} {it k e tl : Int} (hn : ∀ i : Int, 0 ≤ nt i ∧ nt i ≤ 63) (hF : ∀ b : Int, ¬ F b = 0 → 0 ≤ rt (it * 24 + b) ∧ rt (it * 24 + b) ≤ 63) (h : TLD F nt rt it k e tl) : -1 ≤ tl ∧ tl ≤ 4095 := by
  rcases h with ⟨a, -⟩ | ⟨b, -, -, b2, -, b4⟩
  · omega
  · have := hn (it * 24 + b)
    have := hF b b2
    omega
/-- what the reference's step answers -/
def STP (cn rt nt co f : Int → Int) (it n k L rv : Int) : Prop :=
  ((L = -1 ∨ ps cn rt nt co f it n L) ∧ ((k < 0 ∧ rv = 0) ∨ (0 ≤ k ∧ rv = -1))) ∨ (¬ (L = -1 ∨ ps cn rt nt co f it n L) ∧ ((k < 0 ∧ rv = cI (fsF cn rt nt co it n L) (cn it)) ∨ (0 ≤ k ∧ TLD (fsF cn rt nt co it n L) nt rt it k (cn it) rv)))
theorem isD_self {E : Int → Int → Int → Prop} {src : Int} {f : Int → Int} (h : isD E src f) (h0 : 0 ≤ src) (h1 : src < 64) : f src = 0 := by
  rcases h src h0 h1 with ⟨-, w⟩ | ⟨w0, -, w2⟩
  · exact absurd ⟨rfl, rfl⟩ (w 0 0)
  · have := w2 0 0 ⟨rfl, rfl⟩
    omega
theorem STP_1 {cn rt nt co f : Int → Int} {it n k L th i sn : Int} (hth : (th = 1 ∧ (L = -1 ∨ ps cn rt nt co f it n L)) ∨ (th = 0 ∧ ¬ (L = -1 ∨ ps cn rt nt co f it n L))) (h1 : th = 1 → i = 0) (hx : i = cn it ∨ th = 1) (hc : sn = cI (fsF cn rt nt co it n L) i) (hk : k < 0) : STP cn rt nt co f it n k L sn := by
  rcases hth with ⟨a, b⟩ | ⟨a, b⟩
  · have hi := h1 a
    subst hi
    exact Or.inl ⟨b, Or.inl ⟨hk, hc⟩⟩
  · have hi : i = cn it := by omega
    subst hi
    exact Or.inr ⟨b, Or.inl ⟨hk, hc⟩⟩
theorem STP_2 {cn rt nt co f : Int → Int} {it n k L th i tl : Int} (hth : (th = 1 ∧ (L = -1 ∨ ps cn rt nt co f it n L)) ∨ (th = 0 ∧ ¬ (L = -1 ∨ ps cn rt nt co f it n L))) (h1 : th = 1 → i = 0) (hx : i = cn it ∨ th = 1) (hT : TLD (fsF cn rt nt co it n L) nt rt it k i tl) (hk : 0 ≤ k) : STP cn rt nt co f it n k L tl := by
  rcases hth with ⟨a, b⟩ | ⟨a, b⟩
  · have hi := h1 a
    subst hi
    refine Or.inl ⟨b, Or.inr ⟨hk, ?_⟩⟩
    rcases hT with ⟨q, -⟩ | ⟨x, x0, x1, -⟩
    · exact q
    · omega
  · have hi : i = cn it := by omega
    subst hi
    exact Or.inr ⟨b, Or.inr ⟨hk, hT⟩⟩
