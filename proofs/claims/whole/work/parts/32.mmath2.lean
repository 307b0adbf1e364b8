/-- the reference's telling: n nets and the friends below k -/
def TM (cn0 rt0 nt0 co0 cn rt nt co po fr : Int → Int) (pl n k : Int) : Prop :=
  cn pl = cI po n + cI fr k ∧ (∀ j : Int, j ≠ pl → cn j = cn0 j) ∧ (∀ a : Int, (a < pl * 24 ∨ pl * 24 + 24 ≤ a) → rt a = rt0 a ∧ nt a = nt0 a ∧ co a = co0 a) ∧
  (∀ m : Int, 0 ≤ m → m < n → ¬ po m = 0 → rt (pl * 24 + cI po m) = -1 ∧ nt (pl * 24 + cI po m) = m ∧ co (pl * 24 + cI po m) = po m) ∧
  (∀ j : Int, 0 ≤ j → j < k → ¬ fr j = 0 → rt (pl * 24 + (cI po n + cI fr j)) = j % 64 ∧ nt (pl * 24 + (cI po n + cI fr j)) = j / 64 ∧ co (pl * 24 + (cI po n + cI fr j)) = po (j / 64))
theorem TM_0 {cn rt nt co po fr : Int → Int} {pl : Int} : TM cn rt nt co (uZ cn pl 0) rt nt co po fr pl 0 0 :=
  ⟨by rw [uZ_s, cI_0, cI_0]; omega, fun j h => uZ_n h, fun _ _ => ⟨rfl, rfl, rfl⟩, fun m h0 h1 => absurd h1 (by omega), fun j h0 h1 => absurd h1 (by omega)⟩
theorem TM_pskip {cn0 rt0 nt0 co0 cn rt nt co po fr : Int → Int} {pl n : Int} (h0 : 0 ≤ n) (hz : po n = 0) (h : TM cn0 rt0 nt0 co0 cn rt nt co po fr pl n 0) : TM cn0 rt0 nt0 co0 cn rt nt co po fr pl (n + 1) 0 := by
  obtain ⟨a, b, c, d, e⟩ := h
  refine ⟨by rw [cI_s0 h0 hz]; exact a, b, c, fun m m0 m1 mz => ?_, fun j j0 j1 => absurd j1 (by omega)⟩
  by_cases hm : m = n
  · subst hm; exact absurd hz mz
  · exact d m m0 (by omega) mz
theorem TM_port {cn0 rt0 nt0 co0 cn rt nt co po fr : Int → Int} {pl n x : Int} (h0 : 0 ≤ n) (hz : ¬ po n = 0) (hr : cn pl < 24) (hx : x = pl * 24 + cn pl) (h : TM cn0 rt0 nt0 co0 cn rt nt co po fr pl n 0) :
    TM cn0 rt0 nt0 co0 (uZ cn pl (cn pl + 1)) (uZ rt x (-1)) (uZ nt x n) (uZ co x (po n)) po fr pl (n + 1) 0 := by
  obtain ⟨a, b, c, d, e⟩ := h
  have hc0 := cI_b po h0
  rw [cI_0] at a
  subst hx
  refine ⟨by rw [uZ_s, cI_s1 h0 hz, cI_0]; omega, fun j hj => by rw [uZ_n hj]; exact b j hj, fun i hi => ?_, fun m m0 m1 mz => ?_, fun j j0 j1 => absurd j1 (by omega)⟩
  · rw [uZ_n (by omega), uZ_n (by omega), uZ_n (by omega)]; exact c i hi
  · by_cases hm : m = n
    · subst hm
      rw [show pl * 24 + cI po m = pl * 24 + cn pl by omega, uZ_s, uZ_s, uZ_s]
      exact ⟨rfl, rfl, rfl⟩
    · have := cI_lt po m0 (show m < n by omega) mz
      rw [uZ_n (by omega), uZ_n (by omega), uZ_n (by omega)]
      exact d m m0 (by omega) mz
theorem TM_fskip {cn0 rt0 nt0 co0 cn rt nt co po fr : Int → Int} {pl k : Int} (h0 : 0 ≤ k) (hz : fr k = 0) (h : TM cn0 rt0 nt0 co0 cn rt nt co po fr pl 64 k) : TM cn0 rt0 nt0 co0 cn rt nt co po fr pl 64 (k + 1) := by
  obtain ⟨a, b, c, d, e⟩ := h
  refine ⟨by rw [cI_s0 h0 hz]; exact a, b, c, d, fun j j0 j1 jz => ?_⟩
  by_cases hm : j = k
  · subst hm; exact absurd hz jz
  · exact e j j0 (by omega) jz
theorem TM_friend {cn0 rt0 nt0 co0 cn rt nt co po fr : Int → Int} {pl k x : Int} (h0 : 0 ≤ k) (hz : ¬ fr k = 0) (hr : cn pl < 24) (hx : x = pl * 24 + cn pl) (h : TM cn0 rt0 nt0 co0 cn rt nt co po fr pl 64 k) :
    TM cn0 rt0 nt0 co0 (uZ cn pl (cn pl + 1)) (uZ rt x (k % 64)) (uZ nt x (k / 64)) (uZ co x (po (k / 64))) po fr pl 64 (k + 1) := by
  obtain ⟨a, b, c, d, e⟩ := h
  have hc0 := cI_b po (show (0 : Int) ≤ 64 by omega)
  have hc1 := cI_b fr h0
  subst hx
  refine ⟨by rw [uZ_s, cI_s1 h0 hz]; omega, fun j hj => by rw [uZ_n hj]; exact b j hj, fun j hi => ?_, fun m m0 m1 mz => ?_, fun j j0 j1 jz => ?_⟩
  · rw [uZ_n (by omega), uZ_n (by omega), uZ_n (by omega)]; exact c j hi
  · have := cI_lt po m0 m1 mz
    rw [uZ_n (by omega), uZ_n (by omega), uZ_n (by omega)]
    exact d m m0 m1 mz
  · by_cases hj : j = k
    · subst hj
      rw [show pl * 24 + (cI po 64 + cI fr j) = pl * 24 + cn pl by omega, uZ_s, uZ_s, uZ_s]
      exact ⟨rfl, rfl, rfl⟩
    · have := cI_lt fr j0 (show j < k by omega) jz
      rw [uZ_n (by omega), uZ_n (by omega), uZ_n (by omega)]
      exact e j j0 (by omega) jz
def oP (nu si : Int → Int) (now : Int) : Int → Int := fun r => if 0 < nu r ∧ 5000 ≤ now - si r then 1 else 0
theorem oP_1 {nu si : Int → Int} {now r : Int} (h : 0 < nu r ∧ 5000 ≤ now - si r) : oP nu si now r = 1 := if_pos h
theorem oP_0 {nu si : Int → Int} {now r : Int} (h : ¬ (0 < nu r ∧ 5000 ≤ now - si r)) : oP nu si now r = 0 := if_neg h
def TP (nu si cn : Int → Int) (now : Int) (gnu gcn : Int → Int) (i : Int) : Prop := ∀ j : Int, ((0 ≤ j ∧ j < i ∧ oP nu si now j ≠ 0) → gnu j = 0 ∧ gcn j = 0) ∧ (¬ (0 ≤ j ∧ j < i ∧ oP nu si now j ≠ 0) → gnu j = nu j ∧ gcn j = cn j)
theorem TP_0 {nu si cn : Int → Int} {now : Int} : TP nu si cn now nu cn 0 := fun j => ⟨fun h => absurd h.2.1 (by omega), fun _ => ⟨rfl, rfl⟩⟩
theorem TP_at {nu si cn gnu gcn : Int → Int} {now i : Int} (h : TP nu si cn now gnu gcn i) : gnu i = nu i ∧ gcn i = cn i := (h i).2 (fun q => absurd q.2.1 (by omega))
theorem TP_keep {nu si cn gnu gcn : Int → Int} {now i : Int} (hz : oP nu si now i = 0) (h : TP nu si cn now gnu gcn i) : TP nu si cn now (uZ gnu i (gnu i)) (uZ gcn i (gcn i)) (i + 1) := by
  rw [uZ_self, uZ_self]
  intro j
  refine ⟨fun q => (h j).1 ⟨q.1, ?_, q.2.2⟩, fun q => (h j).2 (fun w => q ⟨w.1, by omega, w.2.2⟩)⟩
  by_cases e : j = i
  · subst e; exact absurd hz q.2.2
  · omega
theorem TP_out {nu si cn gnu gcn : Int → Int} {now i : Int} (hi : 0 ≤ i) (hz : oP nu si now i = 1) (h : TP nu si cn now gnu gcn i) : TP nu si cn now (uZ gnu i 0) (uZ gcn i 0) (i + 1) := by
  intro j
  by_cases e : j = i
  · subst e
    rw [uZ_s, uZ_s]
    exact ⟨fun _ => ⟨rfl, rfl⟩, fun q => absurd ⟨hi, by omega, by omega⟩ q⟩
  · rw [uZ_n e, uZ_n e]
    refine ⟨fun q => (h j).1 ⟨q.1, by omega, q.2.2⟩, fun q => (h j).2 (fun w => q ⟨w.1, by omega, w.2.2⟩)⟩
def knP (nu : Int → Int) : Int → Int := fun r => if 0 < nu r then 1 else 0
theorem knP_1 {nu : Int → Int} {r : Int} (h : 0 < nu r) : knP nu r = 1 := if_pos h
theorem knP_0 {nu : Int → Int} {r : Int} (h : ¬ 0 < nu r) : knP nu r = 0 := if_neg h
/-- the first k entries of rows 65 and it are the same -/
def SM (cn rt nt co : Int → Int) (it k sm : Int) : Prop := (sm = 1 ∧ cn 65 = cn it ∧ ∀ j : Int, 0 ≤ j → j < k → (rt (65 * 24 + j) = rt (it * 24 + j) ∧ nt (65 * 24 + j) = nt (it * 24 + j) ∧ co (65 * 24 + j) = co (it * 24 + j))) ∨ (sm = 0 ∧ ¬ SAMEe cn rt nt co 65 it)
theorem SM_yes {cn rt nt co : Int → Int} {it k a b : Int} (h : SM cn rt nt co it k 1) (ha : a = 65 * 24 + k) (hb : b = it * 24 + k) (h1 : rt a = rt b) (h2 : nt a = nt b) (h3 : co a = co b) : SM cn rt nt co it (k + 1) 1 := by
  subst ha; subst hb
  rcases h with ⟨-, x, y⟩ | ⟨x, -⟩
  · refine Or.inl ⟨rfl, x, fun j j0 j1 => ?_⟩
    by_cases e : j = k
    · subst e; exact ⟨h1, h2, h3⟩
    · exact y j j0 (by omega)
  · omega
theorem SM_no {cn rt nt co : Int → Int} {it k a b : Int} (hk : 0 ≤ k ∧ k < cn 65) (ha : a = 65 * 24 + k) (hb : b = it * 24 + k) (h1 : ¬ (rt a = rt b ∧ nt a = nt b ∧ co a = co b)) {m : Int} : SM cn rt nt co it m 0 := by
  subst ha; subst hb
  exact Or.inr ⟨rfl, fun q => h1 (q.2 k hk.1 hk.2)⟩
