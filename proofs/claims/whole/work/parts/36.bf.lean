/-! The reference's spreading. -/
def vM (x : Int) : Int := if x = -1 then 65000 else x
def sM (fa : Int → Int) : Nat → Int
  | 0 => 0
  | n + 1 => sM fa n + vM (fa (n : Int))
theorem sM_upd {fa : Int → Int} {t v : Int} (h0 : 0 ≤ t) : ∀ n : Nat, sM (uZ fa t v) n = sM fa n + (if t < n then vM v - vM (fa t) else 0)
  | 0 => by simp [sM]; omega
  | n + 1 => by
    have ih := sM_upd (fa := fa) (v := v) h0 n
    show sM (uZ fa t v) n + vM (uZ fa t v (n : Int)) = sM fa n + vM (fa (n : Int)) + _
    rw [ih]
    by_cases e : (n : Int) = t
    · subst e
      rw [uZ_s, if_neg (show ¬ ((n : Int) < (n : Int)) by omega), if_pos (show (n : Int) < ((n + 1 : Nat) : Int) by omega)]
      omega
    · rw [uZ_n e]
      by_cases h : t < (n : Int)
      · rw [if_pos h, if_pos (show t < ((n + 1 : Nat) : Int) by omega)]; omega
      · rw [if_neg h, if_neg (show ¬ t < ((n + 1 : Nat) : Int) by omega)]; omega
theorem sM_nn {fa : Int → Int} (h : ∀ i : Int, -1 ≤ fa i) : ∀ n : Nat, 0 ≤ sM fa n
  | 0 => by simp [sM]
  | n + 1 => by
    have ih := sM_nn h n
    have := h n
    show 0 ≤ sM fa n + vM (fa n)
    unfold vM
    split <;> omega
def nR (fa : Int → Int) : Int → Int := fun j => fa j + 1
def BF (sz rt nt co : Int → Int) (src : Int) (fa : Int → Int) : Prop :=
  fa src = 0 ∧ (∀ t : Int, 0 ≤ t → t < 64 → fa t = -1 ∨ (0 ≤ fa t ∧ fa t ≤ 1000 * (cI (nR fa) 64 - 1))) ∧ (∀ t : Int, 0 ≤ t → t < 64 → fa t ≠ -1 → ∃ n, Rc (eg sz rt nt co) src n t (fa t))
def RX (sz rt nt co fa : Int → Int) (r ix : Int) : Prop := ∀ a k : Int, 0 ≤ a → a < 64 → usb sz rt nt a k → (a < r ∨ (a = r ∧ a * 24 + k < ix)) → fa a ≠ -1 → fa (rt (a * 24 + k)) ≠ -1 ∧ fa (rt (a * 24 + k)) ≤ fa a + co (a * 24 + k)
theorem nR_upd {fa : Int → Int} {t v : Int} : nR (uZ fa t v) = uZ (nR fa) t (v + 1) := by
  funext j
  unfold nR uZ
  split <;> rfl
theorem BF_b {sz rt nt co : Int → Int} {src : Int} {fa : Int → Int} (h : BF sz rt nt co src fa) {t : Int} (h0 : 0 ≤ t) (h1 : t < 64) : -1 ≤ fa t ∧ fa t ≤ 63000 := by
  have := cI_b (nR fa) (show (0 : Int) ≤ 64 by omega)
  rcases h.2.1 t h0 h1 with q | q
  · omega
  · omega
theorem BF_0 {sz rt nt co : Int → Int} {src : Int} {fa : Int → Int} (hs : 0 ≤ src ∧ src < 64) (h1 : fa src = 0) (h2 : ∀ t : Int, 0 ≤ t → t < 64 → t ≠ src → fa t = -1) : BF sz rt nt co src fa := by
  have hc : 1 ≤ cI (nR fa) 64 := by
    have := cI_lt (nR fa) hs.1 hs.2 (by unfold nR; omega)
    have := cI_b (nR fa) hs.1
    omega
  refine ⟨h1, fun t t0 t1 => ?_, fun t t0 t1 tn => ?_⟩
  · by_cases e : t = src
    · rw [e, h1]; exact Or.inr ⟨by omega, by omega⟩
    · exact Or.inl (h2 t t0 t1 e)
  · by_cases e : t = src
    · rw [e, h1]; exact ⟨0, rfl, rfl⟩
    · exact absurd (h2 t t0 t1 e) tn
theorem BF_upd {sz rt nt co : Int → Int} {src : Int} {fa : Int → Int} (hA : AOK sz rt co) (hs : 0 ≤ src ∧ src < 64) {r k : Int} (hr : 0 ≤ r ∧ r < 64) (hu : usb sz rt nt r k) (hn : fa r ≠ -1) (hlt : fa (rt (r * 24 + k)) = -1 ∨ fa r + co (r * 24 + k) < fa (rt (r * 24 + k))) (h : BF sz rt nt co src fa) :
    BF sz rt nt co src (uZ fa (rt (r * 24 + k)) (fa r + co (r * 24 + k))) ∧ sM (uZ fa (rt (r * 24 + k)) (fa r + co (r * 24 + k))) 64 ≤ sM fa 64 - 1 := by
  obtain ⟨b1, b2, b3⟩ := h
  have ht := usb_t hA hu
  have hc := usb_c hA hr.1 hr.2 hu
  have hc2 := hA.2.1 (r * 24 + k)
  have hr2 := b2 r hr.1 hr.2
  have hR := cI_b (nR fa) (show (0 : Int) ≤ 64 by omega)
  generalize hte : rt (r * 24 + k) = t0 at *
  generalize hve : fa r + co (r * 24 + k) = v at *
  have hts : t0 ≠ src := by
    intro q; subst q
    rcases hlt with q | q
    · omega
    · omega
  have hcount : (fa t0 = -1 ∧ cI (nR (uZ fa t0 v)) 64 = cI (nR fa) 64 + 1) ∨ (fa t0 ≠ -1 ∧ cI (nR (uZ fa t0 v)) 64 = cI (nR fa) 64) := by
    rw [nR_upd]
    by_cases q : fa t0 = -1
    · exact Or.inl ⟨q, cI_upd ht.1 ht.2 (by unfold nR; omega) (by omega)⟩
    · refine Or.inr ⟨q, cI_congr (fun j j0 j1 => ?_)⟩
      by_cases e : j = t0
      · subst e; rw [uZ_s]; unfold nR; constructor <;> intro w <;> omega
      · rw [uZ_n e]
  refine ⟨⟨by rw [uZ_n (Ne.symm hts)]; exact b1, fun t q0 q1 => ?_, fun t q0 q1 tn => ?_⟩, ?_⟩
  · by_cases e : t = t0
    · subst e
      rw [uZ_s]
      have := b2 t q0 q1
      exact Or.inr ⟨by omega, by omega⟩
    · rw [uZ_n e]
      rcases b2 t q0 q1 with q | q
      · exact Or.inl q
      · exact Or.inr ⟨q.1, by omega⟩
  · by_cases e : t = t0
    · subst e
      rw [uZ_s]
      obtain ⟨n, hn2⟩ := b3 r hr.1 hr.2 hn
      exact ⟨n + 1, r, fa r, co (r * 24 + k), hn2, ⟨k, hu, hte, rfl⟩, hve.symm⟩
    · rw [uZ_n e] at tn ⊢; exact b3 t q0 q1 tn
  · rw [sM_upd ht.1, if_pos (by omega)]
    unfold vM
    rw [if_neg (show ¬ v = -1 by omega)]
    rcases hlt with q | q
    · rw [if_pos q]; omega
    · rw [if_neg (show ¬ fa t0 = -1 by omega)]; omega
theorem BF_end {sz rt nt co : Int → Int} {src : Int} {fa : Int → Int} (hA : AOK sz rt co) (hs : 0 ≤ src ∧ src < 64) (h : BF sz rt nt co src fa) (hx : RX sz rt nt co fa 64 1536) : isD (eg sz rt nt co) src fa := by
  obtain ⟨b1, b2, b3⟩ := h
  have least : ∀ (n : Nat) (t d : Int), Rc (eg sz rt nt co) src n t d → fa t ≠ -1 ∧ fa t ≤ d := by
    intro n
    induction n with
    | zero => rintro t d ⟨rfl, rfl⟩; rw [b1]; exact ⟨by omega, by omega⟩
    | succ n ih =>
      rintro t d ⟨p, d0, c, h1, ⟨k, hu, hk, hc⟩, h3⟩
      have hp := Rc_in hA hs n p d0 h1
      have h4 := ih p d0 h1
      have h5 := hx p k hp.1 hp.2 hu (Or.inl hp.2) h4.1
      rw [hk] at h5
      exact ⟨h5.1, by omega⟩
  intro t t0 t1
  rcases b2 t t0 t1 with q | q
  · exact Or.inl ⟨q, fun n d w => (least n t d w).1 q⟩
  · exact Or.inr ⟨q.1, b3 t t0 t1 (by omega), fun n d w => (least n t d w).2⟩
theorem RX_0 {sz rt nt co fa : Int → Int} : RX sz rt nt co fa 0 0 := fun a k a0 a1 hu h => by have := hu.1; omega
theorem RX_row {sz rt nt co fa : Int → Int} {r ix jx : Int} (hx : r * 24 + sz r ≤ ix ∨ fa r = -1) (hj : jx ≤ (r + 1) * 24) (h : RX sz rt nt co fa r ix) : RX sz rt nt co fa (r + 1) jx := by
  intro a k a0 a1 hu hq hn
  have h1 := hu.2.1
  by_cases e : a = r
  · subst e
    rcases hx with hx | hx
    · exact h a k a0 a1 hu (Or.inr ⟨rfl, by omega⟩) hn
    · exact absurd hx hn
  · have := hu.1
    have hlt2 : a < r := by
      rcases hq with q | q
      · omega
      · obtain ⟨q1, q2⟩ := q
        rw [q1] at q2
        omega
    exact h a k a0 a1 hu (Or.inl hlt2) hn
theorem RX_start {sz rt nt co fa : Int → Int} {r ix jx : Int} (hj : jx ≤ r * 24) (h : RX sz rt nt co fa r ix) : RX sz rt nt co fa r jx := by
  intro a k a0 a1 hu hq hn
  refine h a k a0 a1 hu ?_ hn
  have := hu.1
  rcases hq with q | q
  · exact Or.inl q
  · omega
theorem RX_next {sz rt nt co fa : Int → Int} {r ix : Int} (hc : ∀ i : Int, 0 ≤ sz i ∧ sz i ≤ 24) (hk : usb sz rt nt r (ix - 24 * r) → fa r ≠ -1 → fa (rt ix) ≠ -1 ∧ fa (rt ix) ≤ fa r + co ix) (h : RX sz rt nt co fa r ix) : RX sz rt nt co fa r (ix + 1) := by
  intro a k a0 a1 hu hq hn
  by_cases e : a = r ∧ a * 24 + k = ix
  · obtain ⟨rfl, e2⟩ := e
    rw [e2]
    exact hk (by rw [show ix - 24 * a = k by omega]; exact hu) hn
  · exact h a k a0 a1 hu (by omega) hn
