/-! Rows of adverts, said of both sides. -/
def ROWE (sz rt nt co : Int → Int) (r : Int) (sz' rt' nt' co' : Int → Int) (r' : Int) : Prop := sz' r' = sz r ∧ ∀ k : Int, 0 ≤ k → k < sz r → (rt' (r' * 24 + k) = rt (r * 24 + k) ∧ nt' (r' * 24 + k) = nt (r * 24 + k) ∧ co' (r' * 24 + k) = co (r * 24 + k))
theorem ROWE.rf {sz rt nt co : Int → Int} {r : Int} : ROWE sz rt nt co r sz rt nt co r := ⟨rfl, fun _ _ _ => ⟨rfl, rfl, rfl⟩⟩
theorem ROWE.symm {sz rt nt co sz' rt' nt' co' : Int → Int} {r r' : Int} (h : ROWE sz rt nt co r sz' rt' nt' co' r') : ROWE sz' rt' nt' co' r' sz rt nt co r := by
  refine ⟨h.1.symm, fun k k0 k1 => ?_⟩
  obtain ⟨a, b, c⟩ := h.2 k k0 (by rw [← h.1]; exact k1)
  exact ⟨a.symm, b.symm, c.symm⟩
theorem ROWE.trans {sz rt nt co sz' rt' nt' co' sy ry ny cy : Int → Int} {r r' q : Int} (h : ROWE sz rt nt co r sz' rt' nt' co' r') (h2 : ROWE sz' rt' nt' co' r' sy ry ny cy q) : ROWE sz rt nt co r sy ry ny cy q := by
  refine ⟨h2.1.trans h.1, fun k k0 k1 => ?_⟩
  obtain ⟨a, b, c⟩ := h.2 k k0 k1
  obtain ⟨a', b', c'⟩ := h2.2 k k0 (by rw [h.1]; exact k1)
  exact ⟨a'.trans a, b'.trans b, c'.trans c⟩
def ROWK (sz rt nt co : Int → Int) (r : Int) : Prop := (∀ k : Int, 0 ≤ k → k < sz r → 1 ≤ co (r * 24 + k)) ∧ ∀ a b : Int, 0 ≤ a → a < sz r → 0 ≤ b → b < sz r → rt (r * 24 + a) = rt (r * 24 + b) → nt (r * 24 + a) = nt (r * 24 + b) → a = b
theorem ROWK.via {sz rt nt co sz' rt' nt' co' : Int → Int} {r r' : Int} (h : ROWE sz rt nt co r sz' rt' nt' co' r') (k : ROWK sz rt nt co r) : ROWK sz' rt' nt' co' r' := by
  constructor
  · intro j j0 j1
    rw [h.1] at j1
    rw [(h.2 j j0 j1).2.2]
    exact k.1 j j0 j1
  · intro a b a0 a1 b0 b1 e1 e2
    rw [h.1] at a1 b1
    rw [(h.2 a a0 a1).1, (h.2 b b0 b1).1] at e1
    rw [(h.2 a a0 a1).2.1, (h.2 b b0 b1).2.1] at e2
    exact k.2 a b a0 a1 b0 b1 e1 e2
theorem ROWK.zero {sz rt nt co : Int → Int} {r : Int} (h : sz r = 0) : ROWK sz rt nt co r := ⟨fun k k0 k1 => absurd k1 (by omega), fun a b a0 a1 => absurd a1 (by omega)⟩
theorem ROWE.zero {sz rt nt co sz' rt' nt' co' : Int → Int} {r r' : Int} (h : sz r = 0) (h' : sz' r' = 0) : ROWE sz rt nt co r sz' rt' nt' co' r' := ⟨by omega, fun k k0 k1 => absurd k1 (by omega)⟩
/-- a row copied to another -/
theorem ROWE.copy {sz rt nt co : Int → Int} {a b sp dp : Int} (hsp : sp = a * 24) (hdp : dp = b * 24) (hs : 0 ≤ sz a) : ROWE sz rt nt co a (uZ sz b (sz a)) (cZ rt sp dp (sz a)) (cZ nt sp dp (sz a)) (cZ co sp dp (sz a)) b := by
  subst hsp; subst hdp
  refine ⟨uZ_s, fun k k0 k1 => ?_⟩
  have e : ∀ f : Int → Int, cZ f (a * 24) (b * 24) (sz a) (b * 24 + k) = f (a * 24 + k) := fun f => by
    unfold cZ
    rw [if_pos ⟨by omega, by omega⟩, show a * 24 + (b * 24 + k - b * 24) = a * 24 + k by omega]
  exact ⟨e rt, e nt, e co⟩
theorem ROWE.off {sz rt nt co : Int → Int} {b sp dp n r : Int} (hdp : dp = b * 24) (hn : n ≤ 24) (hs : sz r ≤ 24) (hr : r ≠ b) {v : Int} : ROWE sz rt nt co r (uZ sz b v) (cZ rt sp dp n) (cZ nt sp dp n) (cZ co sp dp n) r := by
  subst hdp
  refine ⟨uZ_n hr, fun k k0 k1 => ?_⟩
  have e : ∀ f : Int → Int, cZ f sp (b * 24) n (r * 24 + k) = f (r * 24 + k) := fun f => by
    unfold cZ
    rw [if_neg (by omega)]
  exact ⟨e rt, e nt, e co⟩
theorem SAMEe_row {sz rt nt co : Int → Int} {a b : Int} : SAMEe sz rt nt co a b ↔ ROWE sz rt nt co b sz rt nt co a := by
  constructor
  · intro h
    exact ⟨h.1, fun k k0 k1 => h.2 k k0 (by rw [h.1]; exact k1)⟩
  · intro h
    exact ⟨h.1, fun k k0 k1 => h.2 k k0 (by rw [← h.1]; exact k1)⟩
/-! What ways are depends on the rows below 64 alone. -/
def RWS (sz rt nt co sz' rt' nt' co' : Int → Int) : Prop := ∀ r : Int, 0 ≤ r → r < 64 → ROWE sz rt nt co r sz' rt' nt' co' r
theorem RWS.symm {sz rt nt co sz' rt' nt' co' : Int → Int} (h : RWS sz rt nt co sz' rt' nt' co') : RWS sz' rt' nt' co' sz rt nt co := fun r h0 h1 => (h r h0 h1).symm
theorem hasE_im {sz rt nt co sz' rt' nt' co' : Int → Int} {p r n : Int} (h : ROWE sz rt nt co p sz' rt' nt' co' p) (q : hasE sz rt nt p r n) : hasE sz' rt' nt' p r n := by
  obtain ⟨k, k0, k1, k2, k3⟩ := q
  obtain ⟨a, b, -⟩ := h.2 k k0 k1
  exact ⟨k, k0, by rw [h.1]; exact k1, by rw [a]; exact k2, by rw [b]; exact k3⟩
theorem usb_im {sz rt nt co sz' rt' nt' co' : Int → Int} (hA : AOK sz rt co) (h : RWS sz rt nt co sz' rt' nt' co') {r k : Int} (h0 : 0 ≤ r) (h1 : r < 64) (q : usb sz rt nt r k) : usb sz' rt' nt' r k := by
  have ht := usb_t hA q
  obtain ⟨k0, k1, k2, k3⟩ := q
  obtain ⟨a, b, -⟩ := (h r h0 h1).2 k k0 k1
  exact ⟨k0, by rw [(h r h0 h1).1]; exact k1, by rw [a]; exact k2, by rw [a, b]; exact hasE_im (h _ ht.1 ht.2) k3⟩
theorem eg_im {sz rt nt co sz' rt' nt' co' : Int → Int} (hA : AOK sz rt co) (h : RWS sz rt nt co sz' rt' nt' co') {p t c : Int} (h0 : 0 ≤ p) (h1 : p < 64) (q : eg sz rt nt co p t c) : eg sz' rt' nt' co' p t c := by
  obtain ⟨k, hu, h2, h3⟩ := q
  obtain ⟨a, -, b⟩ := (h p h0 h1).2 k hu.1 hu.2.1
  exact ⟨k, usb_im hA h h0 h1 hu, by rw [a]; exact h2, by rw [b]; exact h3⟩
theorem Rc_im {sz rt nt co sz' rt' nt' co' : Int → Int} (hA : AOK sz rt co) (h : RWS sz rt nt co sz' rt' nt' co') {src : Int} (hs : 0 ≤ src ∧ src < 64) : ∀ (n : Nat) (t d : Int), Rc (eg sz rt nt co) src n t d → Rc (eg sz' rt' nt' co') src n t d
  | 0, t, d, q => q
  | n + 1, t, d, ⟨p, d0, c, h1, h2, h3⟩ => by
    have hp := Rc_in hA hs n p d0 h1
    exact ⟨p, d0, c, Rc_im hA h hs n p d0 h1, eg_im hA h hp.1 hp.2 h2, h3⟩
theorem isD_im {sz rt nt co sz' rt' nt' co' : Int → Int} (hA : AOK sz rt co) (hA' : AOK sz' rt' co') (h : RWS sz rt nt co sz' rt' nt' co') {src : Int} (hs : 0 ≤ src ∧ src < 64) {f : Int → Int} (q : isD (eg sz rt nt co) src f) : isD (eg sz' rt' nt' co') src f := by
  intro t t0 t1
  rcases q t t0 t1 with ⟨a, b⟩ | ⟨a, ⟨n, b⟩, c⟩
  · exact Or.inl ⟨a, fun n d w => b n d (Rc_im hA' h.symm hs n t d w)⟩
  · exact Or.inr ⟨a, ⟨n, Rc_im hA h hs n t _ b⟩, fun n d w => c n d (Rc_im hA' h.symm hs n t d w)⟩
theorem ps_im {sz rt nt co sz' rt' nt' co' su su' : Int → Int} {r n v : Int} (h : ROWE sz rt nt co r sz' rt' nt' co' r) (hs : su' r = su r) (q : ps sz rt nt co su r n v) : ps sz' rt' nt' co' su' r n v := by
  obtain ⟨q0, k, k0, k1, k2, k3, k4⟩ := q
  obtain ⟨a, b, c⟩ := h.2 k k0 k1
  exact ⟨by rw [hs]; exact q0, k, k0, by rw [h.1]; exact k1, by rw [a]; exact k2, by rw [b]; exact k3, by rw [c, hs]; exact k4⟩
theorem LST_im {sz rt nt co sz' rt' nt' co' su su' : Int → Int} (h : RWS sz rt nt co sz' rt' nt' co') (hs : ∀ r : Int, 0 ≤ r → r < 64 → su' r = su r) {n L : Int} (q : LST sz rt nt co su n 64 L) : LST sz' rt' nt' co' su' n 64 L := by
  have bk : ∀ r w : Int, 0 ≤ r → r < 64 → ps sz' rt' nt' co' su' r n w → ps sz rt nt co su r n w := fun r w r0 r1 x => ps_im (h r r0 r1).symm (hs r r0 r1).symm x
  rcases q with ⟨a, b⟩ | ⟨a, ⟨r, r0, r1, b⟩, c⟩
  · exact Or.inl ⟨a, fun r w r0 r1 x => b r w r0 r1 (bk r w r0 r1 x)⟩
  · exact Or.inr ⟨a, ⟨r, r0, r1, ps_im (h r r0 r1) (hs r r0 r1) b⟩, fun r w r0 r1 x => c r w r0 r1 (bk r w r0 r1 x)⟩
theorem LST_uniq {sz rt nt co su : Int → Int} {n i L L' : Int} (q : LST sz rt nt co su n i L) (q' : LST sz rt nt co su n i L') : L = L' := by
  rcases q with ⟨a, b⟩ | ⟨a, ⟨r, r0, r1, b⟩, c⟩ <;> rcases q' with ⟨a', b'⟩ | ⟨a', ⟨r', r0', r1', b'⟩, c'⟩
  · rw [a, a']
  · exact absurd b' (b _ _ r0' r1')
  · exact absurd b (b' _ _ r0 r1)
  · have := c _ _ r0' r1' b'
    have := c' _ _ r0 r1 b
    omega
theorem FS_im {sz rt nt co sz' rt' nt' co' : Int → Int} (hA : AOK sz rt co) (h : RWS sz rt nt co sz' rt' nt' co') {self b t d : Int} (hs : 0 ≤ self ∧ self < 64) (q : FS sz rt nt co self b t d) : FS sz' rt' nt' co' self b t d := by
  obtain ⟨hu, n, d0, hr, he⟩ := q
  obtain ⟨a1, -, a3⟩ := (h self hs.1 hs.2).2 b hu.1 hu.2.1
  exact ⟨usb_im hA h hs.1 hs.2 hu, n, d0, by rw [a1]; exact Rc_im hA h (usb_t hA hu) n t d0 hr, by rw [a3]; exact he⟩
theorem WAYS_im {sz rt nt co sz' rt' nt' co' su sr : Int → Int} (hA : AOK sz rt co) (hA' : AOK sz' rt' co') (h : RWS sz rt nt co sz' rt' nt' co') {self : Int} (hs : 0 ≤ self ∧ self < 64) (q : WAYS sz rt nt co self su sr) : WAYS sz' rt' nt' co' self su sr :=
  ⟨isD_im hA hA' h hs q.1, fun t t0 t1 t2 t3 b b0 b1 => (q.2 t t0 t1 t2 t3 b b0 b1).trans ⟨fun w => FS_im hA h hs w, fun w => FS_im hA' h.symm hs w⟩⟩
theorem FST_im {sz rt nt co sz' rt' nt' co' : Int → Int} (hA : AOK sz rt co) (h : RWS sz rt nt co sz' rt' nt' co') {self n L b : Int} (hs : 0 ≤ self ∧ self < 64) (q : FST sz rt nt co self n L b) : FST sz' rt' nt' co' self n L b := by
  obtain ⟨hu, r, m, d0, k, r0, r1, hr, k0, k1, k2, k3, k4⟩ := q
  obtain ⟨a1, -, a3⟩ := (h self hs.1 hs.2).2 b hu.1 hu.2.1
  obtain ⟨b1, b2, b3⟩ := (h r r0 r1).2 k k0 k1
  exact ⟨usb_im hA h hs.1 hs.2 hu, r, m, d0, k, r0, r1, by rw [a1]; exact Rc_im hA h (usb_t hA hu) m r d0 hr, k0, by rw [(h r r0 r1).1]; exact k1, by rw [b1]; exact k2, by rw [b2]; exact k3, by rw [a3, b3]; exact k4⟩
/-! Counting. -/
theorem cI_gap (g : Int → Int) {a : Int} (h0 : 0 ≤ a) : ∀ n : Nat, (∀ j : Int, a ≤ j → j < a + n → g j = 0) → cI g (a + n) = cI g a
  | 0, _ => by rw [show a + ((0 : Nat) : Int) = a by omega]
  | n + 1, hz => by
    rw [show a + ((n + 1 : Nat) : Int) = a + n + 1 by omega, cI_s0 (by omega) (hz _ (by omega) (by omega))]
    exact cI_gap g h0 n (fun j j0 j1 => hz j j0 (by omega))
theorem cI_gp (g : Int → Int) {a b : Int} (h0 : 0 ≤ a) (h : a ≤ b) (hz : ∀ j : Int, a ≤ j → j < b → g j = 0) : cI g b = cI g a := by
  obtain ⟨n, rfl⟩ : ∃ n : Nat, b = a + n := ⟨(b - a).toNat, by omega⟩
  exact cI_gap g h0 n hz
theorem srt_le {f : Int → Int} {n i j : Int} (hs : srt f n) (h0 : 0 ≤ i) (h : i ≤ j) (h1 : j < n) : f i ≤ f j := by
  by_cases e : i = j
  · subst e; exact Int.le_refl _
  · have := hs i j h0 (by omega) h1
    omega
theorem cnt_at {f g : Int → Int} {n N : Int} (hs : srt f n) (hm : ∀ s : Int, memF f n s ↔ (0 ≤ s ∧ s < N ∧ ¬ g s = 0)) : ∀ i : Nat, (i : Int) < n → cI g (f i) = i
  | 0, h => by
    have h1 := (hm (f 0)).1 ⟨0, by omega, h, rfl⟩
    have h2 : cI g (f 0) = cI g 0 := cI_gp g (by omega) h1.1 (fun j j0 j1 => Classical.byContradiction fun q => by
      obtain ⟨a, a0, a1, a2⟩ := (hm j).2 ⟨j0, by omega, q⟩
      have := srt_le hs (Int.le_refl 0) a0 a1
      omega)
    exact h2
  | i + 1, h => by
    have hi : (i : Int) < n := by omega
    have e : ((i + 1 : Nat) : Int) = (i : Int) + 1 := by omega
    rw [e] at h ⊢
    have h0 := (hm (f i)).1 ⟨i, by omega, hi, rfl⟩
    have h1 := (hm (f (i + 1))).1 ⟨(i : Int) + 1, by omega, h, rfl⟩
    have hlt := hs i (i + 1) (by omega) (by omega) h
    have h2 : cI g (f (i + 1)) = cI g (f i + 1) := cI_gp g (by omega) (by omega) (fun j j0 j1 => Classical.byContradiction fun q => by
      obtain ⟨a, a0, a1, a2⟩ := (hm j).2 ⟨by omega, by omega, q⟩
      by_cases c : a ≤ i
      · have := srt_le hs a0 c hi
        omega
      · have := srt_le hs (show (0 : Int) ≤ (i : Int) + 1 by omega) (show (i : Int) + 1 ≤ a by omega) a1
        omega)
    rw [h2, cI_s1 h0.1 h0.2.2, cnt_at hs hm i hi]
theorem cnt_i {f g : Int → Int} {n N i : Int} (hs : srt f n) (hm : ∀ s : Int, memF f n s ↔ (0 ≤ s ∧ s < N ∧ ¬ g s = 0)) (h0 : 0 ≤ i) (h1 : i < n) : cI g (f i) = i := by
  obtain ⟨k, rfl⟩ : ∃ k : Nat, i = k := ⟨i.toNat, by omega⟩
  exact cnt_at hs hm k h1
theorem cnt_all {f g : Int → Int} {n N : Int} (hs : srt f n) (hm : ∀ s : Int, memF f n s ↔ (0 ≤ s ∧ s < N ∧ ¬ g s = 0)) (hn : 0 ≤ n) (hN : 0 ≤ N) : cI g N = n := by
  by_cases e : n = 0
  · subst e
    exact cI_gp g (Int.le_refl 0) hN (fun j j0 j1 => Classical.byContradiction fun q => by
      obtain ⟨a, a0, a1, a2⟩ := (hm j).2 ⟨j0, j1, q⟩
      omega)
  · have hl : n - 1 < n := by omega
    have h0 := (hm (f (n - 1))).1 ⟨n - 1, by omega, hl, rfl⟩
    have h2 : cI g N = cI g (f (n - 1) + 1) := cI_gp g (by omega) (by omega) (fun j j0 j1 => Classical.byContradiction fun q => by
      obtain ⟨a, a0, a1, a2⟩ := (hm j).2 ⟨by omega, j1, q⟩
      have := srt_le hs a0 (show a ≤ n - 1 by omega) hl
      omega)
    rw [h2, cI_s1 h0.1 h0.2.2, cnt_i hs hm (by omega) hl]
    omega
theorem cI_dn {f : Int → Int} {r k : Int} (h0 : 0 ≤ r) (h1 : r < k) (hz : ¬ f r = 0) : cI (uZ f r 0) k = cI f k - 1 := by
  have h := cI_upd (f := uZ f r 0) (v := f r) h0 h1 uZ_s hz
  rw [uZ_uZ, uZ_self] at h
  omega
theorem cI_same {f : Int → Int} {r k v : Int} (h : f r = 0 ↔ v = 0) : cI (uZ f r v) k = cI f k := by
  apply cI_congr
  intro j _ _
  by_cases e : j = r
  · subst e; rw [uZ_s]; exact h.symm
  · rw [uZ_n e]
