/-! Sorted rows of steps; counting. -/
def srt (f : Int → Int) (n : Int) : Prop := ∀ i j : Int, 0 ≤ i → i < j → j < n → f i < f j
def memF (f : Int → Int) (n s : Int) : Prop := ∃ i : Int, 0 ≤ i ∧ i < n ∧ f i = s
def rmI (f g : Int → Int) (lo hi i kept : Int) : Prop := 0 ≤ kept ∧ kept ≤ i ∧ (∀ j : Int, i ≤ j → g j = f j) ∧ srt g kept ∧ (∀ s : Int, memF g kept s ↔ (memF f i s ∧ (s < lo ∨ hi < s)))
theorem memF_succ {f : Int → Int} {n s : Int} (hn : 0 ≤ n) : memF f (n + 1) s ↔ (memF f n s ∨ f n = s) := by
  constructor
  · rintro ⟨i, h0, h1, h2⟩
    by_cases e : i = n
    · subst e; exact Or.inr h2
    · exact Or.inl ⟨i, h0, by omega, h2⟩
  · rintro (⟨i, h0, h1, h2⟩ | h)
    · exact ⟨i, h0, by omega, h2⟩
    · exact ⟨n, hn, by omega, h⟩
theorem memF_0 {f : Int → Int} {s : Int} : ¬ memF f 0 s := by
  rintro ⟨i, h0, h1, -⟩
  omega
theorem memF_congr {f g : Int → Int} {n s : Int} (h : ∀ j : Int, 0 ≤ j → j < n → g j = f j) : memF g n s ↔ memF f n s := by
  constructor
  · rintro ⟨i, h0, h1, h2⟩; exact ⟨i, h0, h1, by rw [← h i h0 h1]; exact h2⟩
  · rintro ⟨i, h0, h1, h2⟩; exact ⟨i, h0, h1, by rw [h i h0 h1]; exact h2⟩
theorem rm_0 {f : Int → Int} {lo hi : Int} : rmI f f lo hi 0 0 :=
  ⟨by omega, by omega, fun _ _ => rfl, fun i j h0 h1 h2 => absurd h2 (by omega), fun s => ⟨fun h => absurd h memF_0, fun h => absurd h.1 memF_0⟩⟩
theorem rm_keep {f g : Int → Int} {lo hi i kept fn : Int} (hs : srt f fn) (h0 : 0 ≤ i) (hi1 : i < fn) (h : rmI f g lo hi i kept) (hk : g i < lo ∨ hi < g i) : rmI f (uZ g kept (g i)) lo hi (i + 1) (kept + 1) := by
  obtain ⟨k0, k1, k2, k3, k4⟩ := h
  have e : g i = f i := k2 i (Int.le_refl _)
  have hlow : ∀ j : Int, 0 ≤ j → j < kept → uZ g kept (g i) j = g j := fun j _ h1 => uZ_n (by omega)
  refine ⟨by omega, by omega, fun j hj => ?_, fun a b ha hab hb => ?_, fun s => ?_⟩
  · rw [uZ_n (by omega)]; exact k2 j (by omega)
  · by_cases hbk : b = kept
    · subst hbk
      rw [uZ_s, hlow a ha hab]
      obtain ⟨⟨j, j0, j1, j2⟩, -⟩ := (k4 (g a)).mp ⟨a, ha, hab, rfl⟩
      rw [← j2, e]
      exact hs j i j0 j1 hi1
    · rw [hlow a ha (by omega), hlow b (by omega) (by omega)]
      exact k3 a b ha hab (by omega)
  · rw [memF_succ k0, uZ_s, memF_congr hlow, k4 s, memF_succ h0]
    constructor
    · rintro (⟨h1, h2⟩ | h)
      · exact ⟨Or.inl h1, h2⟩
      · exact ⟨Or.inr (by rw [← e]; exact h), by rw [← h]; exact hk⟩
    · rintro ⟨h1 | h1, h2⟩
      · exact Or.inl ⟨h1, h2⟩
      · exact Or.inr (by rw [e]; exact h1)
theorem rm_drop {f g : Int → Int} {lo hi i kept : Int} (h0 : 0 ≤ i) (h : rmI f g lo hi i kept) (hk : ¬ (g i < lo ∨ hi < g i)) : rmI f g lo hi (i + 1) kept := by
  obtain ⟨k0, k1, k2, k3, k4⟩ := h
  have e : g i = f i := k2 i (Int.le_refl _)
  refine ⟨k0, by omega, fun j hj => k2 j (by omega), k3, fun s => ?_⟩
  rw [k4 s, memF_succ h0]
  constructor
  · rintro ⟨h1, h2⟩; exact ⟨Or.inl h1, h2⟩
  · rintro ⟨h1 | h1, h2⟩
    · exact ⟨h1, h2⟩
    · exact absurd h2 (by rw [← h1, ← e]; exact hk)
def adI (f g : Int → Int) (st fn t : Int) : Prop := 0 ≤ t ∧ t ≤ fn ∧ (∀ j : Int, 0 ≤ j → j < t → g j = f j) ∧ (∀ j : Int, t < j → j ≤ fn → g j = f (j - 1)) ∧ (∀ j : Int, t ≤ j → j < fn → st < f j)
theorem ad_0 {f : Int → Int} {st fn : Int} (h : 0 ≤ fn) : adI f f st fn fn := ⟨h, by omega, fun _ _ _ => rfl, fun j h0 h1 => absurd h1 (by omega), fun j h0 h1 => absurd h1 (by omega)⟩
theorem ad_step {f g : Int → Int} {st fn t : Int} (h : adI f g st fn t) (h1 : 0 < t) (hk : st < g (t - 1)) : adI f (uZ g t (g (t - 1))) st fn (t + -1) := by
  obtain ⟨k0, k1, k2, k3, k4⟩ := h
  have e : g (t - 1) = f (t - 1) := k2 _ (by omega) (by omega)
  refine ⟨by omega, by omega, fun j j0 j1 => ?_, fun j j0 j1 => ?_, fun j j0 j1 => ?_⟩
  · rw [uZ_n (by omega)]; exact k2 j j0 (by omega)
  · by_cases hj : j = t
    · subst hj; rw [uZ_s, e]
    · rw [uZ_n hj]; exact k3 j (by omega) j1
  · by_cases hj : j = t - 1
    · subst hj; rw [← e]; exact hk
    · exact k4 j (by omega) j1
theorem ad_end {f g : Int → Int} {st fn t : Int} (hs : srt f fn) (hm : ¬ memF f fn st) (h : adI f g st fn t) (hk : t = 0 ∨ g (t - 1) ≤ st) : srt (uZ g t st) (fn + 1) ∧ ∀ s : Int, memF (uZ g t st) (fn + 1) s ↔ (memF f fn s ∨ s = st) := by
  obtain ⟨k0, k1, k2, k3, k4⟩ := h
  have hlt : ∀ j : Int, 0 ≤ j → j < t → f j < st := by
    intro j j0 j1
    have h0 : t ≠ 0 := by omega
    have h1 : f (t - 1) ≤ st := by
      rcases hk with h | h
      · exact absurd h h0
      · rw [k2 _ (by omega) (by omega)] at h; exact h
    have h2 : f j ≤ f (t - 1) := by
      by_cases e : j = t - 1
      · rw [e]; omega
      · have := hs j (t - 1) j0 (by omega) (by omega); omega
    have h3 : f j ≠ st := fun q => hm ⟨j, j0, by omega, q⟩
    omega
  have v1 : ∀ j : Int, 0 ≤ j → j < t → uZ g t st j = f j := fun j j0 j1 => by rw [uZ_n (by omega)]; exact k2 j j0 j1
  have v2 : ∀ j : Int, t < j → j ≤ fn → uZ g t st j = f (j - 1) := fun j j0 j1 => by rw [uZ_n (by omega)]; exact k3 j j0 j1
  refine ⟨fun a b ha hab hb => ?_, fun s => ⟨?_, ?_⟩⟩
  · by_cases hat : a < t
    · rw [v1 a ha hat]
      by_cases hbt : b < t
      · rw [v1 b (by omega) hbt]; exact hs a b ha hab (by omega)
      · by_cases hbe : b = t
        · rw [hbe, uZ_s]; exact hlt a ha hat
        · rw [v2 b (by omega) (by omega)]; have := hlt a ha hat; have := k4 (b - 1) (by omega) (by omega); omega
    · by_cases hae : a = t
      · rw [hae, uZ_s, v2 b (by omega) (by omega)]; exact k4 (b - 1) (by omega) (by omega)
      · rw [v2 a (by omega) (by omega), v2 b (by omega) (by omega)]; exact hs _ _ (by omega) (by omega) (by omega)
  · rintro ⟨j, j0, j1, j2⟩
    by_cases h1 : j < t
    · exact Or.inl ⟨j, j0, by omega, by rw [← j2, v1 j j0 h1]⟩
    · by_cases h2 : j = t
      · rw [h2, uZ_s] at j2; exact Or.inr j2.symm
      · exact Or.inl ⟨j - 1, by omega, by omega, by rw [← j2, v2 j (by omega) (by omega)]⟩
  · rintro (⟨j, j0, j1, j2⟩ | h)
    · by_cases h1 : j < t
      · exact ⟨j, j0, by omega, by rw [v1 j j0 h1]; exact j2⟩
      · exact ⟨j + 1, by omega, by omega, by rw [v2 (j + 1) (by omega) (by omega), show j + 1 - 1 = j by omega]; exact j2⟩
    · exact ⟨t, k0, by omega, by rw [uZ_s]; exact h.symm⟩
/-- how many places below k hold another number than 0 -/
def cN (f : Int → Int) : Nat → Int
  | 0 => 0
  | n + 1 => cN f n + (if f (n : Int) = 0 then 0 else 1)
def cI (f : Int → Int) (k : Int) : Int := cN f k.toNat
theorem cI_0 {f : Int → Int} : cI f 0 = 0 := rfl
theorem cI_s {f : Int → Int} {k : Int} (h : 0 ≤ k) : cI f (k + 1) = cI f k + (if f k = 0 then 0 else 1) := by
  unfold cI
  rw [show (k + 1).toNat = k.toNat + 1 by omega]
  show cN f k.toNat + (if f (k.toNat : Int) = 0 then 0 else 1) = _
  rw [Int.toNat_of_nonneg h]
theorem cI_s0 {f : Int → Int} {k : Int} (h : 0 ≤ k) (hf : f k = 0) : cI f (k + 1) = cI f k := by rw [cI_s h, if_pos hf]; omega
theorem cI_s1 {f : Int → Int} {k : Int} (h : 0 ≤ k) (hf : ¬ f k = 0) : cI f (k + 1) = cI f k + 1 := by rw [cI_s h, if_neg hf]
theorem cN_b (f : Int → Int) : ∀ n : Nat, 0 ≤ cN f n ∧ cN f n ≤ n
  | 0 => by simp [cN]
  | n + 1 => by
    have := cN_b f n
    unfold cN
    split <;> omega
theorem cI_b (f : Int → Int) {k : Int} (h : 0 ≤ k) : 0 ≤ cI f k ∧ cI f k ≤ k := by
  have := cN_b f k.toNat
  unfold cI
  omega
theorem cN_mono (f : Int → Int) (a : Nat) : ∀ d : Nat, cN f a ≤ cN f (a + d)
  | 0 => Int.le_refl _
  | d + 1 => by
    have := cN_mono f a d
    show _ ≤ cN f (a + d) + _
    split <;> omega
theorem cI_mono (f : Int → Int) {a b : Int} (h : a ≤ b) : cI f a ≤ cI f b := by
  unfold cI
  have := cN_mono f a.toNat (b.toNat - a.toNat)
  rw [show a.toNat + (b.toNat - a.toNat) = b.toNat by omega] at this
  exact this
/-- a place that counts is behind its count -/
theorem cI_lt (f : Int → Int) {a b : Int} (h0 : 0 ≤ a) (h : a < b) (hf : ¬ f a = 0) : cI f a < cI f b := by
  have h1 := cI_s1 h0 hf
  have h2 := cI_mono f (show a + 1 ≤ b by omega)
  omega
theorem cN_congr {f g : Int → Int} : ∀ n : Nat, (∀ j : Int, 0 ≤ j → j < n → (f j = 0 ↔ g j = 0)) → cN f n = cN g n
  | 0, _ => rfl
  | n + 1, h => by
    have e := cN_congr n (fun j h0 h1 => h j h0 (by omega))
    have h2 := h (n : Int) (by omega) (by omega)
    unfold cN
    rw [e]
    by_cases hf : f (n : Int) = 0
    · rw [if_pos hf, if_pos (h2.mp hf)]
    · rw [if_neg hf, if_neg (fun q => hf (h2.mpr q))]
theorem cI_congr {f g : Int → Int} {k : Int} (h : ∀ j : Int, 0 ≤ j → j < k → (f j = 0 ↔ g j = 0)) : cI f k = cI g k := cN_congr _ (fun j h0 h1 => h j h0 (by omega))
/-- every number below the count is the count of a place that counts -/
theorem cN_sur (f : Int → Int) : ∀ (n : Nat) (c : Int), 0 ≤ c → c < cN f n → ∃ j : Int, 0 ≤ j ∧ j < n ∧ ¬ f j = 0 ∧ cI f j = c
  | 0, c, h0, h1 => absurd h1 (by simp [cN]; omega)
  | n + 1, c, h0, h1 => by
    by_cases h : c < cN f n
    · obtain ⟨j, a, b, d, e⟩ := cN_sur f n c h0 h
      exact ⟨j, a, by omega, d, e⟩
    · unfold cN at h1
      by_cases hf : f (n : Int) = 0
      · rw [if_pos hf] at h1; omega
      · rw [if_neg hf] at h1
        refine ⟨n, by omega, by omega, hf, ?_⟩
        unfold cI
        rw [show ((n : Int)).toNat = n by omega]
        omega
theorem cI_sur (f : Int → Int) {k c : Int} (hk : 0 ≤ k) (h0 : 0 ≤ c) (h1 : c < cI f k) : ∃ j : Int, 0 ≤ j ∧ j < k ∧ ¬ f j = 0 ∧ cI f j = c := by
  obtain ⟨j, a, b, d, e⟩ := cN_sur f k.toNat c h0 h1
  exact ⟨j, a, by omega, d, e⟩
