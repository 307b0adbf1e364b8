/-- the marks of usable entries are right for the rows below r, and in row r for the places below ix -/
def CK (cn rt nt us : Int → Int) (r ix : Int) : Prop := ∀ a k : Int, 0 ≤ a → a < 64 → 0 ≤ k → k < cn a → (a < r ∨ (a = r ∧ a * 24 + k < ix)) → (us (a * 24 + k) = 1 ∧ usb cn rt nt a k) ∨ (us (a * 24 + k) = 0 ∧ ¬ usb cn rt nt a k)
theorem CK_0 {cn rt nt us : Int → Int} : CK cn rt nt us 0 0 := fun a k a0 a1 k0 k1 h => by omega
theorem CK_row {cn rt nt us : Int → Int} {r ix jx : Int} (hx : r * 24 + cn r ≤ ix) (hj : jx = (r + 1) * 24) (h : CK cn rt nt us r ix) : CK cn rt nt us (r + 1) jx := by
  intro a k a0 a1 k0 k1 hq
  refine h a k a0 a1 k0 k1 ?_
  by_cases e : a = r
  · subst e; exact Or.inr ⟨rfl, by omega⟩
  · exact Or.inl (by omega)
theorem CK_put {cn rt nt us : Int → Int} {r k ix v : Int} (hcn : ∀ i : Int, 0 ≤ cn i ∧ cn i ≤ 24) (hk : 0 ≤ k ∧ k < cn r) (hx : ix = r * 24 + k) (hv : (v = 1 ∧ usb cn rt nt r k) ∨ (v = 0 ∧ ¬ usb cn rt nt r k)) (h : CK cn rt nt us r ix) : CK cn rt nt (uZ us ix v) r (ix + 1) := by
  intro a j a0 a1 j0 j1 hq
  have c1 := hcn a
  have c2 := hcn r
  by_cases e : a * 24 + j = ix
  · have ea : a = r := by omega
    subst ea
    have ej : j = k := by omega
    subst ej
    rw [e, uZ_s]
    exact hv
  · rw [uZ_n e]
    exact h a j a0 a1 j0 j1 (by omega)
