/-- which adverts are old -/
def oF (nu tk : Int → Int) (now : Int) : Int → Int := fun r => if nu r ≠ -1 ∧ 5000 ≤ now - tk r then 1 else 0
theorem oF_1 {nu tk : Int → Int} {now r : Int} (h : nu r ≠ -1 ∧ 5000 ≤ now - tk r) : oF nu tk now r = 1 := if_pos h
theorem oF_0 {nu tk : Int → Int} {now r : Int} (h : ¬ (nu r ≠ -1 ∧ 5000 ≤ now - tk r)) : oF nu tk now r = 0 := if_neg h
def TO (nu tk sz : Int → Int) (now : Int) (gnu gsz : Int → Int) (i : Int) : Prop := ∀ j : Int, ((0 ≤ j ∧ j < i ∧ oF nu tk now j ≠ 0) → gnu j = -1 ∧ gsz j = 0) ∧ (¬ (0 ≤ j ∧ j < i ∧ oF nu tk now j ≠ 0) → gnu j = nu j ∧ gsz j = sz j)
theorem TO_0 {nu tk sz : Int → Int} {now : Int} : TO nu tk sz now nu sz 0 := fun j => ⟨fun h => absurd h.2.1 (by omega), fun _ => ⟨rfl, rfl⟩⟩
theorem TO_at {nu tk sz gnu gsz : Int → Int} {now i : Int} (h : TO nu tk sz now gnu gsz i) : gnu i = nu i ∧ gsz i = sz i := (h i).2 (fun q => absurd q.2.1 (by omega))
theorem TO_keep {nu tk sz gnu gsz : Int → Int} {now i : Int} (hz : oF nu tk now i = 0) (h : TO nu tk sz now gnu gsz i) : TO nu tk sz now gnu gsz (i + 1) := by
  intro j
  refine ⟨fun q => (h j).1 ⟨q.1, ?_, q.2.2⟩, fun q => (h j).2 (fun w => q ⟨w.1, by omega, w.2.2⟩)⟩
  by_cases e : j = i
  · subst e; exact absurd hz q.2.2
  · omega
theorem TO_out {nu tk sz gnu gsz : Int → Int} {now i : Int} (hi : 0 ≤ i) (hz : oF nu tk now i = 1) (h : TO nu tk sz now gnu gsz i) : TO nu tk sz now (uZ gnu i (-1)) (uZ gsz i 0) (i + 1) := by
  intro j
  by_cases e : j = i
  · subst e
    rw [uZ_s, uZ_s]
    exact ⟨fun _ => ⟨rfl, rfl⟩, fun q => absurd ⟨hi, by omega, by omega⟩ q⟩
  · rw [uZ_n e, uZ_n e]
    refine ⟨fun q => (h j).1 ⟨q.1, by omega, q.2.2⟩, fun q => (h j).2 (fun w => q ⟨w.1, by omega, w.2.2⟩)⟩
def SAMEe (sz rt nt co : Int → Int) (a b : Int) : Prop := sz a = sz b ∧ ∀ k : Int, 0 ≤ k → k < sz a → (rt (a * 24 + k) = rt (b * 24 + k) ∧ nt (a * 24 + k) = nt (b * 24 + k) ∧ co (a * 24 + k) = co (b * 24 + k))
