theorem cZ_0 {g : Int → Int} {f t : Int} : cZ g f t 0 = g := by
  funext a
  unfold cZ
  rw [if_neg (by omega)]
theorem cZ_succ {g : Int → Int} {f t k : Int} (hk : 0 ≤ k) (hd : f + k < t ∨ t + k ≤ f + k) : uZ (cZ g f t k) (t + k) (cZ g f t k (f + k)) = cZ g f t (k + 1) := by
  funext a
  have hv : cZ g f t k (f + k) = g (f + k) := by
    unfold cZ
    rw [if_neg (by omega)]
  rw [hv]
  unfold uZ cZ
  by_cases e : a = t + k
  · rw [if_pos e, if_pos (by omega)]
    congr 1
    omega
  · rw [if_neg e]
    by_cases h : t ≤ a ∧ a < t + k
    · rw [if_pos h, if_pos (by omega)]
    · rw [if_neg h, if_neg (by omega)]
theorem uZ_self {f : Int → Int} {k : Int} : uZ f k (f k) = f := by
  funext j
  unfold uZ
  split
  · next h => rw [h]
  · rfl
