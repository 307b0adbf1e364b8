/-- n nets and i friends of what is to be told stand in the row pl; all else as it was -/
def TL (fsz0 frt0 fnt0 fco0 fsz frt fnt fco fpo ffr : Int → Int) (pl n i : Int) : Prop :=
  fsz pl = cI fpo n + i ∧ (∀ j : Int, j ≠ pl → fsz j = fsz0 j) ∧ (∀ a : Int, (a < pl * 24 ∨ pl * 24 + 24 ≤ a) → frt a = frt0 a ∧ fnt a = fnt0 a ∧ fco a = fco0 a) ∧
  (∀ m : Int, 0 ≤ m → m < n → ¬ fpo m = 0 → frt (pl * 24 + cI fpo m) = -1 ∧ fnt (pl * 24 + cI fpo m) = m ∧ fco (pl * 24 + cI fpo m) = fpo m) ∧
  (∀ j : Int, 0 ≤ j → j < i → frt (pl * 24 + (cI fpo n + j)) = ffr j % 64 ∧ fnt (pl * 24 + (cI fpo n + j)) = ffr j / 64 ∧ fco (pl * 24 + (cI fpo n + j)) = fpo (ffr j / 64))
theorem TL_0 {fsz frt fnt fco fpo ffr : Int → Int} {pl : Int} : TL fsz frt fnt fco (uZ fsz pl 0) frt fnt fco fpo ffr pl 0 0 :=
  ⟨by rw [uZ_s, cI_0]; omega, fun j h => uZ_n h, fun _ _ => ⟨rfl, rfl, rfl⟩, fun m h0 h1 => absurd h1 (by omega), fun j h0 h1 => absurd h1 (by omega)⟩
theorem TL_skip {fsz0 frt0 fnt0 fco0 fsz frt fnt fco fpo ffr : Int → Int} {pl n : Int} (h0 : 0 ≤ n) (hz : fpo n = 0) (h : TL fsz0 frt0 fnt0 fco0 fsz frt fnt fco fpo ffr pl n 0) : TL fsz0 frt0 fnt0 fco0 fsz frt fnt fco fpo ffr pl (n + 1) 0 := by
  obtain ⟨a, b, c, d, e⟩ := h
  refine ⟨by rw [cI_s0 h0 hz]; exact a, b, c, fun m m0 m1 mz => ?_, fun j j0 j1 => absurd j1 (by omega)⟩
  by_cases hm : m = n
  · subst hm; exact absurd hz mz
  · exact d m m0 (by omega) mz
theorem TL_port {fsz0 frt0 fnt0 fco0 fsz frt fnt fco fpo ffr : Int → Int} {pl n : Int} (h0 : 0 ≤ n) (hz : ¬ fpo n = 0) (hr : fsz pl < 24) (h : TL fsz0 frt0 fnt0 fco0 fsz frt fnt fco fpo ffr pl n 0) :
    TL fsz0 frt0 fnt0 fco0 (uZ fsz pl (fsz pl + 1)) (uZ frt (pl * 24 + fsz pl) (-1)) (uZ fnt (pl * 24 + fsz pl) n) (uZ fco (pl * 24 + fsz pl) (fpo n)) fpo ffr pl (n + 1) 0 := by
  obtain ⟨a, b, c, d, e⟩ := h
  have hc0 := cI_b fpo h0
  refine ⟨by rw [uZ_s, cI_s1 h0 hz]; omega, fun j hj => by rw [uZ_n hj]; exact b j hj, fun i hi => ?_, fun m m0 m1 mz => ?_, fun j j0 j1 => absurd j1 (by omega)⟩
  · rw [uZ_n (by omega), uZ_n (by omega), uZ_n (by omega)]; exact c i hi
  · by_cases hm : m = n
    · subst hm
      rw [show pl * 24 + cI fpo m = pl * 24 + fsz pl by omega, uZ_s, uZ_s, uZ_s]
      exact ⟨rfl, rfl, rfl⟩
    · have := cI_lt fpo m0 (show m < n by omega) mz
      rw [uZ_n (by omega), uZ_n (by omega), uZ_n (by omega)]
      exact d m m0 (by omega) mz
theorem TL_friend {fsz0 frt0 fnt0 fco0 fsz frt fnt fco fpo ffr : Int → Int} {pl i : Int} (h0 : 0 ≤ i) (hr : fsz pl < 24) (h : TL fsz0 frt0 fnt0 fco0 fsz frt fnt fco fpo ffr pl 64 i) :
    TL fsz0 frt0 fnt0 fco0 (uZ fsz pl (fsz pl + 1)) (uZ frt (pl * 24 + fsz pl) (ffr i % 64)) (uZ fnt (pl * 24 + fsz pl) (ffr i / 64)) (uZ fco (pl * 24 + fsz pl) (fpo (ffr i / 64))) fpo ffr pl 64 (i + 1) := by
  obtain ⟨a, b, c, d, e⟩ := h
  have hc0 := cI_b fpo (show (0 : Int) ≤ 64 by omega)
  refine ⟨by rw [uZ_s]; omega, fun j hj => by rw [uZ_n hj]; exact b j hj, fun j hi => ?_, fun m m0 m1 mz => ?_, fun j j0 j1 => ?_⟩
  · rw [uZ_n (by omega), uZ_n (by omega), uZ_n (by omega)]; exact c j hi
  · have := cI_lt fpo m0 m1 mz
    rw [uZ_n (by omega), uZ_n (by omega), uZ_n (by omega)]
    exact d m m0 m1 mz
  · by_cases hj : j = i
    · subst hj
      rw [show pl * 24 + (cI fpo 64 + j) = pl * 24 + fsz pl by omega, uZ_s, uZ_s, uZ_s]
      exact ⟨rfl, rfl, rfl⟩
    · rw [uZ_n (by omega), uZ_n (by omega), uZ_n (by omega)]
      exact e j j0 (by omega)
